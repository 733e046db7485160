set_option maxHeartbeats 4000000 in
set_option maxRecDepth 100000 in
/-- term i -/
theorem c_X3_term (l : Launch) (D : va_G) (cI cJ : ClassId) (h0 aM aC aB aT : Nat) (w L sh em i0 : Nat) (C : Nat → Nat) (g3 : w ≤ 33) (g4 : i0 < w) : kd_MI (S := Unit) l yX3_term wsX3_term { frames := 0, cells := 0, slots := 0, locals := 0 } [.ref h0, .int (nI i0)] D vwCl cI cJ [(h0, .inr (3, [.ref aM, .ref aC, .ref aB, .ref aT, .int (nI L), .int (nI sh), .int (nI em)])), (aC, kd_ar cI w C)] (fun _ => nI (C i0)) (fun _ => [(h0, .inr (3, [.ref aM, .ref aC, .ref aB, .ref aT, .int (nI L), .int (nI sh), .int (nI em)])), (aC, kd_ar cI w C)]) 0 0 := by
  refine kd_enterI (cc := cX3_term) (maxL := 2) (by decide) rfl (Nat.le_of_ble_eq_true rfl) ?_
  intro p e s m args below meth c A ls Q hx hb hr hts hown hlk hnm hml hP hK hD hA hS hl ret
  have hl : lv_has ls 2 [(0, .ref h0), (1, .int (nI i0))] := hl
  have hown : s.vm.findClass RX3 = some m.cls := hown
  have i_X3 : ∀ w ∈ wsX30, w ∈ wsX3_term := by decide +kernel
  have fl19 := hts (.fieldLink RX3 19 "KrylovDesk$Recurrence" "terms" "[I") (by decide +kernel)
  refine lv_iload_n hx hb dX3_term_0 rfl (lv_at hl 1 rfl) ?_
  refine kd_lt0 (tgt := 22) hx hb dX3_term_1 (by omega) (by decide) ?_
  refine lv_iload_n hx hb dX3_term_4 rfl (lv_at hl 1 rfl) ?_
  refine lv_aload_n hx hb dX3_term_5 rfl (lv_at hl 0 rfl) ?_
  refine va_get (D := D) (ci := 3) (v := .ref aC) (C := RX3) (T := TX3) (N := 7) hx hb hts i_X3 hown hK hP 0 rfl rfl 1 (by decide) fl19 (fun _ h9 => h9) rfl dX3_term_6 ?_
  refine kd_alen hx hb hK hP 1 rfl dX3_term_9 ?_
  refine kd_ge (tgt := 22) hx hb dX3_term_10 (by decide) (by omega) (by omega) (fun c_10 => ?_) (fun c_10 => ?_)
  · skip
    exact absurd c_10 (by omega)
  · skip
    refine lv_aload_n hx hb dX3_term_13 rfl (lv_at hl 0 rfl) ?_
    refine va_get (D := D) (ci := 3) (v := .ref aC) (C := RX3) (T := TX3) (N := 7) hx hb hts i_X3 hown hK hP 0 rfl rfl 1 (by decide) fl19 (fun _ h9 => h9) rfl dX3_term_14 ?_
    refine lv_iload_n hx hb dX3_term_17 rfl (lv_at hl 1 rfl) ?_
    refine kd_ald hx hb hK hP 1 rfl i0 (by omega) (by omega) dX3_term_18 ?_
    refine lv_goto (tgt := 23) hx hb dX3_term_19 (by decide) ?_
    exact ret () _ _ _ _ _ dX3_term_23 rfl hS (hP.sub [0, 1] rfl) (hD.sub [0, 1] (by decide) rfl)

set_option maxHeartbeats 4000000 in
set_option maxRecDepth 100000 in
/-- term L -/
theorem c_X3_lastTerm (l : Launch) (D : va_G) (cI cJ : ClassId) (h0 aM aC aB aT : Nat) (w L sh em : Nat) (C : Nat → Nat) (g3 : w ≤ 33) (g4 : L < w) : kd_MI (S := Unit) l yX3_lastTerm wsX3_lastTerm { frames := 1, cells := 0, slots := 0, locals := 21 } [.ref h0] D vwCl cI cJ [(h0, .inr (3, [.ref aM, .ref aC, .ref aB, .ref aT, .int (nI L), .int (nI sh), .int (nI em)])), (aC, kd_ar cI w C)] (fun _ => nI (C L)) (fun _ => [(h0, .inr (3, [.ref aM, .ref aC, .ref aB, .ref aT, .int (nI L), .int (nI sh), .int (nI em)])), (aC, kd_ar cI w C)]) 0 0 := by
  refine kd_enterI (cc := cX3_lastTerm) (maxL := 1) (by decide) rfl (Nat.le_of_ble_eq_true rfl) ?_
  intro p e s m args below meth c A ls Q hx hb hr hts hown hlk hnm hml hP hK hD hA hS hl ret
  have hl : lv_has ls 1 [(0, .ref h0)] := hl
  have hown : s.vm.findClass RX3 = some m.cls := hown
  have i_X3 : ∀ w ∈ wsX30, w ∈ wsX3_lastTerm := by decide +kernel
  have fl29 := hts (.fieldLink RX3 29 "KrylovDesk$Recurrence" "length" "I") (by decide +kernel)
  refine lv_aload_n hx hb dX3_lastTerm_0 rfl (lv_at hl 0 rfl) ?_
  refine lv_aload_n hx hb dX3_lastTerm_1 rfl (lv_at hl 0 rfl) ?_
  refine va_get (D := D) (ci := 3) (v := .int (nI L)) (C := RX3) (T := TX3) (N := 7) hx hb hts i_X3 hown hK hP 0 rfl rfl 4 (by decide) fl29 (fun _ h9 => h9) rfl dX3_lastTerm_2 ?_
  refine kd_VI (As := [.int (nI L)]) (rest := []) (Wr := []) ⟨hx, hb, hml, hown, hts⟩ (c_X3_term l D cI cJ h0 aM aC aB aT w L sh em L C g3 g4) (cwV 1 hts gX3_lastTerm_X3_term rfl rfl rfl (by decide +kernel) ⟨Nat.le_of_ble_eq_true rfl, Nat.le_of_ble_eq_true rfl⟩) hK hP hD hS hA [0, 1] [] rfl rfl (by decide) (by decide) 0 rfl rfl rfl rfl hl.1 (Nat.le_of_ble_eq_true rfl) dX3_lastTerm_5 ⟨Nat.le_of_ble_eq_true rfl, Nat.le_of_ble_eq_true rfl⟩ (fun _ H locs hP hD hS => ?_)
  have hP : va_P D vwCl [(h0, .inr (3, [.ref aM, .ref aC, .ref aB, .ref aT, .int (nI L), .int (nI sh), .int (nI em)])), (aC, kd_ar cI w C)] H := hP
  have hD : va_D A [(h0, .inr (3, [.ref aM, .ref aC, .ref aB, .ref aT, .int (nI L), .int (nI sh), .int (nI em)])), (aC, kd_ar cI w C)] := hD
  exact ret () _ _ _ _ _ dX3_lastTerm_8 rfl hS (hP.sub [0, 1] rfl) (hD.sub [0, 1] (by decide) rfl)

set_option maxHeartbeats 4000000 in
set_option maxRecDepth 100000 in
/-- how far number k is from what the terms say -/
theorem c_X3_missAt (l : Launch) (D : va_G) (cI cJ : ClassId) (h0 aM aC aB aT : Nat) (aN P w q L sh em k : Nat) (C row : Nat → Nat) (g1 : 2 ≤ P) (g2 : P ≤ 46337) (g3 : w ≤ 33) (g4 : L ≤ k) (g5 : q < w) (g6 : ∀ j, C j < P) (g7 : k < q) (g8 : ∀ j, j < q → row j < P) : kd_MI (S := Unit) l yX3_missAt wsX3_missAt { frames := 1, cells := 0, slots := 0, locals := 23 } [.ref h0, .ref aN, .int (nI k)] D vwCl cI cJ [(h0, .inr (3, [.ref aM, .ref aC, .ref aB, .ref aT, .int (nI L), .int (nI sh), .int (nI em)])), (aM, .inr (2, [.int (nI P)])), (aC, kd_ar cI w C), (aN, kd_ar cI q row)] (fun _ => nI (pMs P row C k L)) (fun _ => [(h0, .inr (3, [.ref aM, .ref aC, .ref aB, .ref aT, .int (nI L), .int (nI sh), .int (nI em)])), (aM, .inr (2, [.int (nI P)])), (aC, kd_ar cI w C), (aN, kd_ar cI q row)]) 0 0 := by
  refine kd_enterI (cc := cX3_missAt) (maxL := 5) (by decide) rfl (Nat.le_of_ble_eq_true rfl) ?_
  intro p e s m args below meth c A ls Q hx hb hr hts hown hlk hnm hml hP hK hD hA hS hl ret
  have hl : lv_has ls 5 [(0, .ref h0), (1, .ref aN), (2, .int (nI k))] := hl
  have hown : s.vm.findClass RX3 = some m.cls := hown
  have i_X3 : ∀ w ∈ wsX30, w ∈ wsX3_missAt := by decide +kernel
  have fl29 := hts (.fieldLink RX3 29 "KrylovDesk$Recurrence" "length" "I") (by decide +kernel)
  have fl7 := hts (.fieldLink RX3 7 "KrylovDesk$Recurrence" "modulus" "LKrylovDesk$Modulus;") (by decide +kernel)
  refine lv_aload_n hx hb dX3_missAt_0 rfl (lv_at hl 1 rfl) ?_
  refine lv_iload_n hx hb dX3_missAt_1 rfl (lv_at hl 2 rfl) ?_
  refine kd_ald hx hb hK hP 3 rfl k (by omega) (by omega) dX3_missAt_2 ?_
  refine lv_istore_n (lv' := [(3, .int (nI (row k))), (0, .ref h0), (1, .ref aN), (2, .int (nI k))]) hx hb dX3_missAt_3 rfl hl (by decide) rfl (fun ls hl => ?_)
  refine lv_iconst (v := (nI 1)) hx hb dX3_missAt_4 (by decide) ?_
  refine lv_istore (lv' := [(4, .int (nI 1)), (3, .int (nI (row k))), (0, .ref h0), (1, .ref aN), (2, .int (nI k))]) hx hb dX3_missAt_5 hl (by decide) rfl (fun ls hl => ?_)
  have lp : ∀ (k_lp : Nat) (i0 : Nat) (H : Heap) (locs : List Loc) (ls : Array Slot), (L - i0 < k_lp) → (i0 ≤ L) → va_P D vwCl [(h0, .inr (3, [.ref aM, .ref aC, .ref aB, .ref aT, .int (nI L), .int (nI sh), .int (nI em)])), (aM, .inr (2, [.int (nI P)])), (aC, kd_ar cI w C), (aN, kd_ar cI q row)] H → va_D A [(h0, .inr (3, [.ref aM, .ref aC, .ref aB, .ref aT, .int (nI L), .int (nI sh), .int (nI em)])), (aM, .inr (2, [.int (nI P)])), (aC, kd_ar cI w C), (aN, kd_ar cI q row)] → va_S A s.heap H locs → lv_has ls 5 [(4, .int (nI (i0 + 1))), (3, .int (nI (pMs P row C k i0))), (0, .ref h0), (1, .ref aN), (2, .int (nI k))] → W p l e { frames := 1, cells := 0, slots := 0, locals := 23 } s m args below meth c H locs 0 0 Q (F0 m 7 ls []) := by
    intro k_lp
    induction k_lp with
    | zero => intro i0 H locs ls i1 i2 hP hD hS hl; omega
    | succ k_lp ih_lp =>
      intro i0 H locs ls i1 i2 hP hD hS hl
      refine lv_iload hx hb dX3_missAt_7 (lv_at hl 0 rfl) ?_
      refine lv_aload_n hx hb dX3_missAt_9 rfl (lv_at hl 2 rfl) ?_
      refine va_get (D := D) (ci := 3) (v := .int (nI L)) (C := RX3) (T := TX3) (N := 7) hx hb hts i_X3 hown hK hP 0 rfl rfl 4 (by decide) fl29 (fun _ h9 => h9) rfl dX3_missAt_10 ?_
      refine kd_gt (tgt := 49) hx hb dX3_missAt_13 (by decide) (by omega) (by omega) (fun c_13 => ?_) (fun c_13 => ?_)
      · skip
        refine lv_iload_n hx hb dX3_missAt_49 rfl (lv_at hl 1 rfl) ?_
        exact ret () _ _ _ _ _ dX3_missAt_50 (by rw [show i0 = L by omega]) hS (hP.sub [0, 1, 2, 3] rfl) (hD.sub [0, 1, 2, 3] (by decide) rfl)
      · skip
        refine lv_iload hx hb dX3_missAt_16 (lv_at hl 0 rfl) ?_
        refine lv_iload_n hx hb dX3_missAt_18 rfl (lv_at hl 4 rfl) ?_
        refine kd_gt (tgt := 49) hx hb dX3_missAt_19 (by decide) (by omega) (by omega) (fun c_19 => ?_) (fun c_19 => ?_)
        · skip
          exact absurd c_19 (by omega)
        · skip
          refine lv_aload_n hx hb dX3_missAt_22 rfl (lv_at hl 2 rfl) ?_
          refine va_get (D := D) (ci := 3) (v := .ref aM) (C := RX3) (T := TX3) (N := 7) hx hb hts i_X3 hown hK hP 0 rfl rfl 0 (by decide) fl7 (fun _ h9 => h9) rfl dX3_missAt_23 ?_
          refine lv_iload_n hx hb dX3_missAt_26 rfl (lv_at hl 1 rfl) ?_
          refine lv_aload_n hx hb dX3_missAt_27 rfl (lv_at hl 2 rfl) ?_
          refine lv_iload hx hb dX3_missAt_28 (lv_at hl 0 rfl) ?_
          refine kd_VI (As := [.int (nI (i0 + 1))]) (rest := [.int (nI (pMs P row C k i0)), .ref aM]) (Wr := [(aM, .inr (2, [.int (nI P)])), (aN, kd_ar cI q row)]) ⟨hx, hb, hml, hown, hts⟩ (c_X3_term l D cI cJ h0 aM aC aB aT w L sh em (i0 + 1) C g3 (by omega)) (cwV 1 hts gX3_missAt_X3_term rfl rfl rfl (by decide +kernel) ⟨Nat.le_of_ble_eq_true rfl, Nat.le_of_ble_eq_true rfl⟩) hK hP hD hS hA [0, 2] [1, 3] rfl rfl (by decide) (by decide) 0 rfl rfl rfl rfl hl.1 (Nat.le_of_ble_eq_true rfl) dX3_missAt_30 ⟨Nat.le_of_ble_eq_true rfl, Nat.le_of_ble_eq_true rfl⟩ (fun _ H locs hP hD hS => ?_)
          have hP : va_P D vwCl [(aM, .inr (2, [.int (nI P)])), (aN, kd_ar cI q row), (h0, .inr (3, [.ref aM, .ref aC, .ref aB, .ref aT, .int (nI L), .int (nI sh), .int (nI em)])), (aC, kd_ar cI w C)] H := hP
          have hD : va_D A [(aM, .inr (2, [.int (nI P)])), (aN, kd_ar cI q row), (h0, .inr (3, [.ref aM, .ref aC, .ref aB, .ref aT, .int (nI L), .int (nI sh), .int (nI em)])), (aC, kd_ar cI w C)] := hD
          refine lv_aload_n hx hb dX3_missAt_33 rfl (lv_at hl 3 rfl) ?_
          refine lv_iload_n hx hb dX3_missAt_34 rfl (lv_at hl 4 rfl) ?_
          refine lv_iload hx hb dX3_missAt_35 (lv_at hl 0 rfl) ?_
          refine kd_sub hx hb (by omega) dX3_missAt_37 ?_
          refine kd_ald hx hb hK hP 1 rfl (k - (i0 + 1)) (by omega) (by omega) dX3_missAt_38 ?_
          refine kd_VI (As := [.int (nI (pMs P row C k i0)), .int (nI (C (i0 + 1))), .int (nI (row (k - (i0 + 1))))]) (rest := []) (Wr := [(aN, kd_ar cI q row), (h0, .inr (3, [.ref aM, .ref aC, .ref aB, .ref aT, .int (nI L), .int (nI sh), .int (nI em)])), (aC, kd_ar cI w C)]) ⟨hx, hb, hml, hown, hts⟩ (c_X2_plusProduct l D cI cJ aM P (pMs P row C k i0) (C (i0 + 1)) (row (k - (i0 + 1))) g1 g2 (pMs_lt (by omega) (g8 k g7) C i0) (g6 _) (g8 _ (by omega))) (cwV 3 hts gX3_missAt_X2_plusProduct rfl rfl rfl (by decide +kernel) ⟨Nat.le_of_ble_eq_true rfl, Nat.le_of_ble_eq_true rfl⟩) hK hP hD hS hA [0] [1, 2, 3] rfl rfl (by decide) (by decide) 0 rfl rfl rfl rfl hl.1 (Nat.le_of_ble_eq_true rfl) dX3_missAt_39 ⟨Nat.le_of_ble_eq_true rfl, Nat.le_of_ble_eq_true rfl⟩ (fun _ H locs hP hD hS => ?_)
          have hP : va_P D vwCl [(aN, kd_ar cI q row), (h0, .inr (3, [.ref aM, .ref aC, .ref aB, .ref aT, .int (nI L), .int (nI sh), .int (nI em)])), (aC, kd_ar cI w C), (aM, .inr (2, [.int (nI P)]))] H := hP
          have hD : va_D A [(aN, kd_ar cI q row), (h0, .inr (3, [.ref aM, .ref aC, .ref aB, .ref aT, .int (nI L), .int (nI sh), .int (nI em)])), (aC, kd_ar cI w C), (aM, .inr (2, [.int (nI P)]))] := hD
          refine lv_istore_n (lv' := [(3, .int (nI (((pMs P row C k i0) + (C (i0 + 1)) * (row (k - (i0 + 1)))) % P))), (4, .int (nI (i0 + 1))), (0, .ref h0), (1, .ref aN), (2, .int (nI k))]) hx hb dX3_missAt_42 rfl hl (by decide) rfl (fun ls hl => ?_)
          refine lv_iinc (v := (nI ((i0 + 1) + 1))) (lv' := [(4, .int (nI ((i0 + 1) + 1))), (3, .int (nI (((pMs P row C k i0) + (C (i0 + 1)) * (row (k - (i0 + 1)))) % P))), (0, .ref h0), (1, .ref aN), (2, .int (nI k))]) hx hb dX3_missAt_43 hl (k := 1) rfl (nI_1 _) (by decide) rfl (fun ls hl => ?_)
          refine lv_goto (tgt := 7) hx hb dX3_missAt_46 (by decide) ?_
          exact ih_lp (i0 + 1) _ _ _ (by omega) (by omega) (hP.sub [1, 3, 2, 0] rfl) (hD.sub [1, 3, 2, 0] (by decide) rfl) hS (lv_sub hl [0, 1, 2, 3, 4] rfl)
  exact lp (L + 1) 0 _ _ _ (by omega) (by omega) (hP.sub [0, 1, 2, 3] rfl) (hD.sub [0, 1, 2, 3] (by decide) rfl) hS (lv_sub hl [0, 1, 2, 3, 4] rfl)

set_option maxHeartbeats 4000000 in
set_option maxRecDepth 100000 in
/-- the older terms, moved and by a factor, off -/
theorem c_X3_subtractOlder (l : Launch) (D : va_G) (cI cJ : ClassId) (h0 aM aC aB aT : Nat) (P w L sh em f0 : Nat) (C B : Nat → Nat) (g1 : 2 ≤ P) (g2 : P ≤ 46337) (g3 : w ≤ 33) (g4 : sh ≤ 33) (g5 : f0 < P) (g6 : ∀ j, C j < P) (g7 : ∀ j, B j < P) : kd_MV (S := Unit) l yX3_subtractOlder wsX3_subtractOlder { frames := 1, cells := 0, slots := 0, locals := 23 } [.ref h0, .int (nI f0)] D vwCl cI cJ [(h0, .inr (3, [.ref aM, .ref aC, .ref aB, .ref aT, .int (nI L), .int (nI sh), .int (nI em)])), (aM, .inr (2, [.int (nI P)])), (aC, kd_ar cI w C), (aB, kd_ar cI w B)] (fun _ => [(h0, .inr (3, [.ref aM, .ref aC, .ref aB, .ref aT, .int (nI L), .int (nI sh), .int (nI em)])), (aM, .inr (2, [.int (nI P)])), (aC, kd_ar cI w (pSub P C B sh f0)), (aB, kd_ar cI w B)]) 0 0 := by
  refine kd_enterV (cc := cX3_subtractOlder) (maxL := 4) (by decide) rfl (Nat.le_of_ble_eq_true rfl) ?_
  intro p e s m args below meth c A ls Q hx hb hr hts hown hlk hnm hml hP hK hD hA hS hl ret
  have hl : lv_has ls 4 [(0, .ref h0), (1, .int (nI f0))] := hl
  have hown : s.vm.findClass RX3 = some m.cls := hown
  have i_X3 : ∀ w ∈ wsX30, w ∈ wsX3_subtractOlder := by decide +kernel
  have fl7 := hts (.fieldLink RX3 7 "KrylovDesk$Recurrence" "modulus" "LKrylovDesk$Modulus;") (by decide +kernel)
  have fl43 := hts (.fieldLink RX3 43 "KrylovDesk$Recurrence" "shift" "I") (by decide +kernel)
  have fl19 := hts (.fieldLink RX3 19 "KrylovDesk$Recurrence" "terms" "[I") (by decide +kernel)
  have fl23 := hts (.fieldLink RX3 23 "KrylovDesk$Recurrence" "olderTerms" "[I") (by decide +kernel)
  refine lv_aload_n hx hb dX3_subtractOlder_0 rfl (lv_at hl 0 rfl) ?_
  refine va_get (D := D) (ci := 3) (v := .ref aM) (C := RX3) (T := TX3) (N := 7) hx hb hts i_X3 hown hK hP 0 rfl rfl 0 (by decide) fl7 (fun _ h9 => h9) rfl dX3_subtractOlder_1 ?_
  refine lv_iload_n hx hb dX3_subtractOlder_4 rfl (lv_at hl 1 rfl) ?_
  refine kd_VI (As := [.int (nI f0)]) (rest := []) (Wr := [(h0, .inr (3, [.ref aM, .ref aC, .ref aB, .ref aT, .int (nI L), .int (nI sh), .int (nI em)])), (aC, kd_ar cI w C), (aB, kd_ar cI w B)]) ⟨hx, hb, hml, hown, hts⟩ (c_X2_negative l D cI cJ aM P f0 g1 g2 g5) (cwV 1 hts gX3_subtractOlder_X2_negative rfl rfl rfl (by decide +kernel) ⟨Nat.le_of_ble_eq_true rfl, Nat.le_of_ble_eq_true rfl⟩) hK hP hD hS hA [1] [0, 2, 3] rfl rfl (by decide) (by decide) 0 rfl rfl rfl rfl hl.1 (Nat.le_of_ble_eq_true rfl) dX3_subtractOlder_5 ⟨Nat.le_of_ble_eq_true rfl, Nat.le_of_ble_eq_true rfl⟩ (fun _ H locs hP hD hS => ?_)
  have hP : va_P D vwCl [(h0, .inr (3, [.ref aM, .ref aC, .ref aB, .ref aT, .int (nI L), .int (nI sh), .int (nI em)])), (aC, kd_ar cI w C), (aB, kd_ar cI w B), (aM, .inr (2, [.int (nI P)]))] H := hP
  have hD : va_D A [(h0, .inr (3, [.ref aM, .ref aC, .ref aB, .ref aT, .int (nI L), .int (nI sh), .int (nI em)])), (aC, kd_ar cI w C), (aB, kd_ar cI w B), (aM, .inr (2, [.int (nI P)]))] := hD
  refine lv_istore_n (lv' := [(2, .int (nI (pNeg P f0))), (0, .ref h0), (1, .int (nI f0))]) hx hb dX3_subtractOlder_8 rfl hl (by decide) rfl (fun ls hl => ?_)
  refine lv_iconst (v := (nI 0)) hx hb dX3_subtractOlder_9 (by decide) ?_
  refine lv_istore_n (lv' := [(3, .int (nI 0)), (2, .int (nI (pNeg P f0))), (0, .ref h0), (1, .int (nI f0))]) hx hb dX3_subtractOlder_10 rfl hl (by decide) rfl (fun ls hl => ?_)
  obtain ⟨hP, hD⟩ := kd_swap (g := (pSubI P C B sh f0 0)) hP hD 1 rfl (fun j hj => pSubI_0)
  have hP : va_P D vwCl [(h0, .inr (3, [.ref aM, .ref aC, .ref aB, .ref aT, .int (nI L), .int (nI sh), .int (nI em)])), (aC, kd_ar cI w (pSubI P C B sh f0 0)), (aB, kd_ar cI w B), (aM, .inr (2, [.int (nI P)]))] H := hP
  have hD : va_D A [(h0, .inr (3, [.ref aM, .ref aC, .ref aB, .ref aT, .int (nI L), .int (nI sh), .int (nI em)])), (aC, kd_ar cI w (pSubI P C B sh f0 0)), (aB, kd_ar cI w B), (aM, .inr (2, [.int (nI P)]))] := hD
  have lp : ∀ (k_lp : Nat) (i : Nat) (H : Heap) (locs : List Loc) (ls : Array Slot), (w - i < k_lp) → (i ≤ w) → va_P D vwCl [(h0, .inr (3, [.ref aM, .ref aC, .ref aB, .ref aT, .int (nI L), .int (nI sh), .int (nI em)])), (aM, .inr (2, [.int (nI P)])), (aC, kd_ar cI w (pSubI P C B sh f0 i)), (aB, kd_ar cI w B)] H → va_D A [(h0, .inr (3, [.ref aM, .ref aC, .ref aB, .ref aT, .int (nI L), .int (nI sh), .int (nI em)])), (aM, .inr (2, [.int (nI P)])), (aC, kd_ar cI w (pSubI P C B sh f0 i)), (aB, kd_ar cI w B)] → va_S A s.heap H locs → lv_has ls 4 [(3, .int (nI i)), (2, .int (nI (pNeg P f0))), (0, .ref h0)] → W p l e { frames := 1, cells := 0, slots := 0, locals := 23 } s m args below meth c H locs 0 0 Q (F0 m 11 ls []) := by
    intro k_lp
    induction k_lp with
    | zero => intro i H locs ls i1 i2 hP hD hS hl; omega
    | succ k_lp ih_lp =>
      intro i H locs ls i1 i2 hP hD hS hl
      refine lv_iload_n hx hb dX3_subtractOlder_11 rfl (lv_at hl 0 rfl) ?_
      refine lv_aload_n hx hb dX3_subtractOlder_12 rfl (lv_at hl 2 rfl) ?_
      refine va_get (D := D) (ci := 3) (v := .int (nI sh)) (C := RX3) (T := TX3) (N := 7) hx hb hts i_X3 hown hK hP 0 rfl rfl 5 (by decide) fl43 (fun _ h9 => h9) rfl dX3_subtractOlder_13 ?_
      refine kd_add hx hb dX3_subtractOlder_16 ?_
      refine lv_aload_n hx hb dX3_subtractOlder_17 rfl (lv_at hl 2 rfl) ?_
      refine va_get (D := D) (ci := 3) (v := .ref aC) (C := RX3) (T := TX3) (N := 7) hx hb hts i_X3 hown hK hP 0 rfl rfl 1 (by decide) fl19 (fun _ h9 => h9) rfl dX3_subtractOlder_18 ?_
      refine kd_alen hx hb hK hP 2 rfl dX3_subtractOlder_21 ?_
      refine kd_ge (tgt := 67) hx hb dX3_subtractOlder_22 (by decide) (by omega) (by omega) (fun c_22 => ?_) (fun c_22 => ?_)
      · skip
        obtain ⟨hP, hD⟩ := kd_swap (g := (pSub P C B sh f0)) hP hD 2 rfl (fun j hj => pSubI_end (by omega))
        have hP : va_P D vwCl [(h0, .inr (3, [.ref aM, .ref aC, .ref aB, .ref aT, .int (nI L), .int (nI sh), .int (nI em)])), (aM, .inr (2, [.int (nI P)])), (aC, kd_ar cI w (pSub P C B sh f0)), (aB, kd_ar cI w B)] H := hP
        have hD : va_D A [(h0, .inr (3, [.ref aM, .ref aC, .ref aB, .ref aT, .int (nI L), .int (nI sh), .int (nI em)])), (aM, .inr (2, [.int (nI P)])), (aC, kd_ar cI w (pSub P C B sh f0)), (aB, kd_ar cI w B)] := hD
        exact ret () _ _ _ _ dX3_subtractOlder_67 hS (hP.sub [0, 1, 2, 3] rfl) (hD.sub [0, 1, 2, 3] (by decide) rfl)
      · skip
        refine lv_aload_n hx hb dX3_subtractOlder_25 rfl (lv_at hl 2 rfl) ?_
        refine va_get (D := D) (ci := 3) (v := .ref aC) (C := RX3) (T := TX3) (N := 7) hx hb hts i_X3 hown hK hP 0 rfl rfl 1 (by decide) fl19 (fun _ h9 => h9) rfl dX3_subtractOlder_26 ?_
        refine lv_iload_n hx hb dX3_subtractOlder_29 rfl (lv_at hl 0 rfl) ?_
        refine lv_aload_n hx hb dX3_subtractOlder_30 rfl (lv_at hl 2 rfl) ?_
        refine va_get (D := D) (ci := 3) (v := .int (nI sh)) (C := RX3) (T := TX3) (N := 7) hx hb hts i_X3 hown hK hP 0 rfl rfl 5 (by decide) fl43 (fun _ h9 => h9) rfl dX3_subtractOlder_31 ?_
        refine kd_add hx hb dX3_subtractOlder_34 ?_
        refine lv_aload_n hx hb dX3_subtractOlder_35 rfl (lv_at hl 2 rfl) ?_
        refine va_get (D := D) (ci := 3) (v := .ref aM) (C := RX3) (T := TX3) (N := 7) hx hb hts i_X3 hown hK hP 0 rfl rfl 0 (by decide) fl7 (fun _ h9 => h9) rfl dX3_subtractOlder_36 ?_
        refine lv_aload_n hx hb dX3_subtractOlder_39 rfl (lv_at hl 2 rfl) ?_
        refine va_get (D := D) (ci := 3) (v := .ref aC) (C := RX3) (T := TX3) (N := 7) hx hb hts i_X3 hown hK hP 0 rfl rfl 1 (by decide) fl19 (fun _ h9 => h9) rfl dX3_subtractOlder_40 ?_
        refine lv_iload_n hx hb dX3_subtractOlder_43 rfl (lv_at hl 0 rfl) ?_
        refine lv_aload_n hx hb dX3_subtractOlder_44 rfl (lv_at hl 2 rfl) ?_
        refine va_get (D := D) (ci := 3) (v := .int (nI sh)) (C := RX3) (T := TX3) (N := 7) hx hb hts i_X3 hown hK hP 0 rfl rfl 5 (by decide) fl43 (fun _ h9 => h9) rfl dX3_subtractOlder_45 ?_
        refine kd_add hx hb dX3_subtractOlder_48 ?_
        refine kd_ald hx hb hK hP 2 rfl (i + sh) (by omega) (by omega) dX3_subtractOlder_49 ?_
        refine lv_iload_n hx hb dX3_subtractOlder_50 rfl (lv_at hl 1 rfl) ?_
        refine lv_aload_n hx hb dX3_subtractOlder_51 rfl (lv_at hl 2 rfl) ?_
        refine va_get (D := D) (ci := 3) (v := .ref aB) (C := RX3) (T := TX3) (N := 7) hx hb hts i_X3 hown hK hP 0 rfl rfl 2 (by decide) fl23 (fun _ h9 => h9) rfl dX3_subtractOlder_52 ?_
        refine lv_iload_n hx hb dX3_subtractOlder_55 rfl (lv_at hl 0 rfl) ?_
        refine kd_ald hx hb hK hP 3 rfl i (by omega) (by omega) dX3_subtractOlder_56 ?_
        refine kd_VI (As := [.int (nI ((pSubI P C B sh f0 i) (i + sh))), .int (nI (pNeg P f0)), .int (nI (B i))]) (rest := [.int (nI (i + sh)), .ref aC]) (Wr := [(h0, .inr (3, [.ref aM, .ref aC, .ref aB, .ref aT, .int (nI L), .int (nI sh), .int (nI em)])), (aC, kd_ar cI w (pSubI P C B sh f0 i)), (aB, kd_ar cI w B)]) ⟨hx, hb, hml, hown, hts⟩ (c_X2_plusProduct l D cI cJ aM P ((pSubI P C B sh f0 i) (i + sh)) (pNeg P f0) (B i) g1 g2 (by rw [pSubI_at]; exact g6 _) (pNeg_lt (by omega)) (g7 _)) (cwV 3 hts gX3_subtractOlder_X2_plusProduct rfl rfl rfl (by decide +kernel) ⟨Nat.le_of_ble_eq_true rfl, Nat.le_of_ble_eq_true rfl⟩) hK hP hD hS hA [1] [0, 2, 3] rfl rfl (by decide) (by decide) 0 rfl rfl rfl rfl hl.1 (Nat.le_of_ble_eq_true rfl) dX3_subtractOlder_57 ⟨Nat.le_of_ble_eq_true rfl, Nat.le_of_ble_eq_true rfl⟩ (fun _ H locs hP hD hS => ?_)
        have hP : va_P D vwCl [(h0, .inr (3, [.ref aM, .ref aC, .ref aB, .ref aT, .int (nI L), .int (nI sh), .int (nI em)])), (aC, kd_ar cI w (pSubI P C B sh f0 i)), (aB, kd_ar cI w B), (aM, .inr (2, [.int (nI P)]))] H := hP
        have hD : va_D A [(h0, .inr (3, [.ref aM, .ref aC, .ref aB, .ref aT, .int (nI L), .int (nI sh), .int (nI em)])), (aC, kd_ar cI w (pSubI P C B sh f0 i)), (aB, kd_ar cI w B), (aM, .inr (2, [.int (nI P)]))] := hD
        refine kd_ast hx hb hK hP hD hS 1 rfl (i + sh) (by omega) (by omega) dX3_subtractOlder_60 (fun H locs hP hD hS => ?_)
        have hP : va_P D vwCl [(h0, .inr (3, [.ref aM, .ref aC, .ref aB, .ref aT, .int (nI L), .int (nI sh), .int (nI em)])), (aC, kd_ar cI w (va_up (pSubI P C B sh f0 i) (i + sh) ((((pSubI P C B sh f0 i) (i + sh)) + (pNeg P f0) * (B i)) % P))), (aB, kd_ar cI w B), (aM, .inr (2, [.int (nI P)]))] H := hP
        have hD : va_D A [(h0, .inr (3, [.ref aM, .ref aC, .ref aB, .ref aT, .int (nI L), .int (nI sh), .int (nI em)])), (aC, kd_ar cI w (va_up (pSubI P C B sh f0 i) (i + sh) ((((pSubI P C B sh f0 i) (i + sh)) + (pNeg P f0) * (B i)) % P))), (aB, kd_ar cI w B), (aM, .inr (2, [.int (nI P)]))] := hD
        obtain ⟨hP, hD⟩ := kd_swap (g := (pSubI P C B sh f0 (i + 1))) hP hD 1 rfl (fun j _ => pSubI_step j)
        have hP : va_P D vwCl [(h0, .inr (3, [.ref aM, .ref aC, .ref aB, .ref aT, .int (nI L), .int (nI sh), .int (nI em)])), (aC, kd_ar cI w (pSubI P C B sh f0 (i + 1))), (aB, kd_ar cI w B), (aM, .inr (2, [.int (nI P)]))] H := hP
        have hD : va_D A [(h0, .inr (3, [.ref aM, .ref aC, .ref aB, .ref aT, .int (nI L), .int (nI sh), .int (nI em)])), (aC, kd_ar cI w (pSubI P C B sh f0 (i + 1))), (aB, kd_ar cI w B), (aM, .inr (2, [.int (nI P)]))] := hD
        refine lv_iinc (v := (nI (i + 1))) (lv' := [(3, .int (nI (i + 1))), (2, .int (nI (pNeg P f0))), (0, .ref h0)]) hx hb dX3_subtractOlder_61 hl (k := 0) rfl (nI_1 _) (by decide) rfl (fun ls hl => ?_)
        refine lv_goto (tgt := 11) hx hb dX3_subtractOlder_64 (by decide) ?_
        exact ih_lp (i + 1) _ _ _ (by omega) (by omega) (hP.sub [0, 3, 1, 2] rfl) (hD.sub [0, 3, 1, 2] (by decide) rfl) hS (lv_sub hl [0, 1, 2] rfl)
  exact lp (w + 1) 0 _ _ _ (by omega) (by omega) (hP.sub [0, 3, 1, 2] rfl) (hD.sub [0, 3, 1, 2] (by decide) rfl) hS (lv_sub hl [0, 1, 2] rfl)

set_option maxHeartbeats 4000000 in
set_option maxRecDepth 100000 in
/-- one number more -/
theorem c_X3_learn (l : Launch) (D : va_G) (cI cJ : ClassId) (h0 aM aC aB aT : Nat) (aN P w q L sh em k : Nat) (C B T row : Nat → Nat) (g1 : 2 ≤ P) (g2 : P ≤ 46337) (g3 : w ≤ 33) (g4 : L ≤ k) (g5 : q < w) (g6 : ∀ j, C j < P) (g7 : k < q) (g8 : ∀ j, j < q → row j < P) (g9 : ∀ j, B j < P) (g10 : em < P) (g11 : sh ≤ k + 1) : kd_MV (S := Nat → Nat) l yX3_learn wsX3_learn { frames := 2, cells := 0, slots := 0, locals := 64 } [.ref h0, .ref aN, .int (nI k)] D vwCl cI cJ [(h0, .inr (3, [.ref aM, .ref aC, .ref aB, .ref aT, .int (nI L), .int (nI sh), .int (nI em)])), (aM, .inr (2, [.int (nI P)])), (aC, kd_ar cI w C), (aB, kd_ar cI w B), (aT, kd_ar cI w T), (aN, kd_ar cI q row)] (fun t9 => [(h0, .inr (3, [.ref aM, .ref aC, .ref aB, .ref aT, .int (nI ((pStep P row k (C, B, L, sh, em)).2.2.1)), .int (nI ((pStep P row k (C, B, L, sh, em)).2.2.2.1)), .int (nI ((pStep P row k (C, B, L, sh, em)).2.2.2.2))])), (aM, .inr (2, [.int (nI P)])), (aC, kd_ar cI w ((pStep P row k (C, B, L, sh, em)).1)), (aB, kd_ar cI w ((pStep P row k (C, B, L, sh, em)).2.1)), (aT, kd_ar cI w t9), (aN, kd_ar cI q row)]) 0 0 := by
  refine kd_enterV (cc := cX3_learn) (maxL := 5) (by decide) rfl (Nat.le_of_ble_eq_true rfl) ?_
  intro p e s m args below meth c A ls Q hx hb hr hts hown hlk hnm hml hP hK hD hA hS hl ret
  have hl : lv_has ls 5 [(0, .ref h0), (1, .ref aN), (2, .int (nI k))] := hl
  have hown : s.vm.findClass RX3 = some m.cls := hown
  have i_X3 : ∀ w ∈ wsX30, w ∈ wsX3_learn := by decide +kernel
  have fl7 := hts (.fieldLink RX3 7 "KrylovDesk$Recurrence" "modulus" "LKrylovDesk$Modulus;") (by decide +kernel)
  have fl46 := hts (.fieldLink RX3 46 "KrylovDesk$Recurrence" "olderMiss" "I") (by decide +kernel)
  have fl19 := hts (.fieldLink RX3 19 "KrylovDesk$Recurrence" "terms" "[I") (by decide +kernel)
  have fl26 := hts (.fieldLink RX3 26 "KrylovDesk$Recurrence" "keptTerms" "[I") (by decide +kernel)
  have fl29 := hts (.fieldLink RX3 29 "KrylovDesk$Recurrence" "length" "I") (by decide +kernel)
  have fl23 := hts (.fieldLink RX3 23 "KrylovDesk$Recurrence" "olderTerms" "[I") (by decide +kernel)
  have fl43 := hts (.fieldLink RX3 43 "KrylovDesk$Recurrence" "shift" "I") (by decide +kernel)
  have hms : pMs P row C k L < P := pMs_lt (by omega) (g8 k g7) C L
  refine lv_aload_n hx hb dX3_learn_0 rfl (lv_at hl 0 rfl) ?_
  refine lv_aload_n hx hb dX3_learn_1 rfl (lv_at hl 1 rfl) ?_
  refine lv_iload_n hx hb dX3_learn_2 rfl (lv_at hl 2 rfl) ?_
  refine kd_VI (As := [.ref aN, .int (nI k)]) (rest := []) (Wr := [(aB, kd_ar cI w B), (aT, kd_ar cI w T)]) ⟨hx, hb, hml, hown, hts⟩ (c_X3_missAt l D cI cJ h0 aM aC aB aT aN P w q L sh em k C row g1 g2 g3 g4 g5 g6 g7 g8) (cwV 2 hts gX3_learn_X3_missAt rfl rfl rfl (by decide +kernel) ⟨Nat.le_of_ble_eq_true rfl, Nat.le_of_ble_eq_true rfl⟩) hK hP hD hS hA [0, 1, 2, 5] [3, 4] rfl rfl (by decide) (by decide) 0 rfl rfl rfl rfl hl.1 (Nat.le_of_ble_eq_true rfl) dX3_learn_3 ⟨Nat.le_of_ble_eq_true rfl, Nat.le_of_ble_eq_true rfl⟩ (fun _ H locs hP hD hS => ?_)
  have hP : va_P D vwCl [(aB, kd_ar cI w B), (aT, kd_ar cI w T), (h0, .inr (3, [.ref aM, .ref aC, .ref aB, .ref aT, .int (nI L), .int (nI sh), .int (nI em)])), (aM, .inr (2, [.int (nI P)])), (aC, kd_ar cI w C), (aN, kd_ar cI q row)] H := hP
  have hD : va_D A [(aB, kd_ar cI w B), (aT, kd_ar cI w T), (h0, .inr (3, [.ref aM, .ref aC, .ref aB, .ref aT, .int (nI L), .int (nI sh), .int (nI em)])), (aM, .inr (2, [.int (nI P)])), (aC, kd_ar cI w C), (aN, kd_ar cI q row)] := hD
  refine lv_istore_n (lv' := [(3, .int (nI (pMs P row C k L))), (0, .ref h0), (1, .ref aN), (2, .int (nI k))]) hx hb dX3_learn_6 rfl hl (by decide) rfl (fun ls hl => ?_)
  refine lv_iload_n hx hb dX3_learn_7 rfl (lv_at hl 0 rfl) ?_
  refine kd_ne0 (tgt := 22) hx hb dX3_learn_8 (by decide) (by omega) (fun c_8 => ?_) (fun c_8 => ?_)
  · skip
    refine lv_aload_n hx hb dX3_learn_22 rfl (lv_at hl 1 rfl) ?_
    refine va_get (D := D) (ci := 3) (v := .ref aM) (C := RX3) (T := TX3) (N := 7) hx hb hts i_X3 hown hK hP 2 rfl rfl 0 (by decide) fl7 (fun _ h9 => h9) rfl dX3_learn_23 ?_
    refine lv_iconst (v := (nI 0)) hx hb dX3_learn_26 (by decide) ?_
    refine lv_iload_n hx hb dX3_learn_27 rfl (lv_at hl 0 rfl) ?_
    refine lv_aload_n hx hb dX3_learn_28 rfl (lv_at hl 1 rfl) ?_
    refine va_get (D := D) (ci := 3) (v := .ref aM) (C := RX3) (T := TX3) (N := 7) hx hb hts i_X3 hown hK hP 2 rfl rfl 0 (by decide) fl7 (fun _ h9 => h9) rfl dX3_learn_29 ?_
    refine lv_aload_n hx hb dX3_learn_32 rfl (lv_at hl 1 rfl) ?_
    refine va_get (D := D) (ci := 3) (v := .int (nI em)) (C := RX3) (T := TX3) (N := 7) hx hb hts i_X3 hown hK hP 2 rfl rfl 6 (by decide) fl46 (fun _ h9 => h9) rfl dX3_learn_33 ?_
    refine kd_VI (As := [.int (nI em)]) (rest := [.int (nI (pMs P row C k L)), .int (nI 0), .ref aM]) (Wr := [(aB, kd_ar cI w B), (aT, kd_ar cI w T), (h0, .inr (3, [.ref aM, .ref aC, .ref aB, .ref aT, .int (nI L), .int (nI sh), .int (nI em)])), (aC, kd_ar cI w C), (aN, kd_ar cI q row)]) ⟨hx, hb, hml, hown, hts⟩ (c_X2_inverse l D cI cJ aM P em g1 g2 g10) (cwV 1 hts gX3_learn_X2_inverse rfl rfl rfl (by decide +kernel) ⟨Nat.le_of_ble_eq_true rfl, Nat.le_of_ble_eq_true rfl⟩) hK hP hD hS hA [3] [0, 1, 2, 4, 5] rfl rfl (by decide) (by decide) 0 rfl rfl rfl rfl hl.1 (Nat.le_of_ble_eq_true rfl) dX3_learn_36 ⟨Nat.le_of_ble_eq_true rfl, Nat.le_of_ble_eq_true rfl⟩ (fun _ H locs hP hD hS => ?_)
    have hP : va_P D vwCl [(aB, kd_ar cI w B), (aT, kd_ar cI w T), (h0, .inr (3, [.ref aM, .ref aC, .ref aB, .ref aT, .int (nI L), .int (nI sh), .int (nI em)])), (aC, kd_ar cI w C), (aN, kd_ar cI q row), (aM, .inr (2, [.int (nI P)]))] H := hP
    have hD : va_D A [(aB, kd_ar cI w B), (aT, kd_ar cI w T), (h0, .inr (3, [.ref aM, .ref aC, .ref aB, .ref aT, .int (nI L), .int (nI sh), .int (nI em)])), (aC, kd_ar cI w C), (aN, kd_ar cI q row), (aM, .inr (2, [.int (nI P)]))] := hD
    refine kd_VI (As := [.int (nI 0), .int (nI (pMs P row C k L)), .int (nI (pInv P em))]) (rest := []) (Wr := [(aB, kd_ar cI w B), (aT, kd_ar cI w T), (h0, .inr (3, [.ref aM, .ref aC, .ref aB, .ref aT, .int (nI L), .int (nI sh), .int (nI em)])), (aC, kd_ar cI w C), (aN, kd_ar cI q row)]) ⟨hx, hb, hml, hown, hts⟩ (c_X2_plusProduct l D cI cJ aM P 0 (pMs P row C k L) (pInv P em) g1 g2 (by omega) (pMs_lt (by omega) (g8 k g7) C L) (pInv_lt (by omega))) (cwV 3 hts gX3_learn_X2_plusProduct rfl rfl rfl (by decide +kernel) ⟨Nat.le_of_ble_eq_true rfl, Nat.le_of_ble_eq_true rfl⟩) hK hP hD hS hA [5] [0, 1, 2, 3, 4] rfl rfl (by decide) (by decide) 0 rfl rfl rfl rfl hl.1 (Nat.le_of_ble_eq_true rfl) dX3_learn_39 ⟨Nat.le_of_ble_eq_true rfl, Nat.le_of_ble_eq_true rfl⟩ (fun _ H locs hP hD hS => ?_)
    have hP : va_P D vwCl [(aB, kd_ar cI w B), (aT, kd_ar cI w T), (h0, .inr (3, [.ref aM, .ref aC, .ref aB, .ref aT, .int (nI L), .int (nI sh), .int (nI em)])), (aC, kd_ar cI w C), (aN, kd_ar cI q row), (aM, .inr (2, [.int (nI P)]))] H := hP
    have hD : va_D A [(aB, kd_ar cI w B), (aT, kd_ar cI w T), (h0, .inr (3, [.ref aM, .ref aC, .ref aB, .ref aT, .int (nI L), .int (nI sh), .int (nI em)])), (aC, kd_ar cI w C), (aN, kd_ar cI q row), (aM, .inr (2, [.int (nI P)]))] := hD
    refine lv_istore (lv' := [(4, .int (nI ((0 + pMs P row C k L * pInv P em) % P))), (3, .int (nI (pMs P row C k L))), (0, .ref h0), (1, .ref aN), (2, .int (nI k))]) hx hb dX3_learn_42 hl (by decide) rfl (fun ls hl => ?_)
    refine lv_aload_n hx hb dX3_learn_44 rfl (lv_at hl 2 rfl) ?_
    refine va_get (D := D) (ci := 3) (v := .ref aC) (C := RX3) (T := TX3) (N := 7) hx hb hts i_X3 hown hK hP 2 rfl rfl 1 (by decide) fl19 (fun _ h9 => h9) rfl dX3_learn_45 ?_
    refine lv_iconst (v := (nI 0)) hx hb dX3_learn_48 (by decide) ?_
    refine lv_aload_n hx hb dX3_learn_49 rfl (lv_at hl 2 rfl) ?_
    refine va_get (D := D) (ci := 3) (v := .ref aT) (C := RX3) (T := TX3) (N := 7) hx hb hts i_X3 hown hK hP 2 rfl rfl 3 (by decide) fl26 (fun _ h9 => h9) rfl dX3_learn_50 ?_
    refine lv_iconst (v := (nI 0)) hx hb dX3_learn_53 (by decide) ?_
    refine lv_aload_n hx hb dX3_learn_54 rfl (lv_at hl 2 rfl) ?_
    refine va_get (D := D) (ci := 3) (v := .ref aC) (C := RX3) (T := TX3) (N := 7) hx hb hts i_X3 hown hK hP 2 rfl rfl 1 (by decide) fl19 (fun _ h9 => h9) rfl dX3_learn_55 ?_
    refine kd_alen hx hb hK hP 3 rfl dX3_learn_58 ?_
    refine kd_copy hx hb (hml.trans hl.1.symm) hown (hts (.methodLink RX3 65 arraycopyName) (by decide +kernel)) (hts (.native arraycopyName) (by decide +kernel)) (hts (.static arraycopyName) (by decide +kernel)) (hts (.initialized "java/lang/System") (by decide +kernel)) hK hP hD hS 3 1 rfl rfl (by omega) (by omega) (by omega) (Nat.le_of_ble_eq_true rfl) (by decide) dX3_learn_59 (fun H locs hP hD hS => ?_)
    have hP : va_P D vwCl [(aB, kd_ar cI w B), (aT, kd_ar cI w (va_cpy C T 0 0 w)), (h0, .inr (3, [.ref aM, .ref aC, .ref aB, .ref aT, .int (nI L), .int (nI sh), .int (nI em)])), (aC, kd_ar cI w C), (aN, kd_ar cI q row), (aM, .inr (2, [.int (nI P)]))] H := hP
    have hD : va_D A [(aB, kd_ar cI w B), (aT, kd_ar cI w (va_cpy C T 0 0 w)), (h0, .inr (3, [.ref aM, .ref aC, .ref aB, .ref aT, .int (nI L), .int (nI sh), .int (nI em)])), (aC, kd_ar cI w C), (aN, kd_ar cI q row), (aM, .inr (2, [.int (nI P)]))] := hD
    obtain ⟨hP, hD⟩ := kd_swap (g := C) hP hD 1 rfl (fun j hj => cpy_all hj)
    have hP : va_P D vwCl [(aB, kd_ar cI w B), (aT, kd_ar cI w C), (h0, .inr (3, [.ref aM, .ref aC, .ref aB, .ref aT, .int (nI L), .int (nI sh), .int (nI em)])), (aC, kd_ar cI w C), (aN, kd_ar cI q row), (aM, .inr (2, [.int (nI P)]))] H := hP
    have hD : va_D A [(aB, kd_ar cI w B), (aT, kd_ar cI w C), (h0, .inr (3, [.ref aM, .ref aC, .ref aB, .ref aT, .int (nI L), .int (nI sh), .int (nI em)])), (aC, kd_ar cI w C), (aN, kd_ar cI q row), (aM, .inr (2, [.int (nI P)]))] := hD
    refine lv_aload_n hx hb dX3_learn_62 rfl (lv_at hl 2 rfl) ?_
    refine lv_iload hx hb dX3_learn_63 (lv_at hl 0 rfl) ?_
    refine kd_VV (As := [.int (nI ((0 + pMs P row C k L * pInv P em) % P))]) (rest := []) (Wr := [(aT, kd_ar cI w C), (aN, kd_ar cI q row)]) ⟨hx, hb, hml, hown, hts⟩ (c_X3_subtractOlder l D cI cJ h0 aM aC aB aT P w L sh em ((0 + pMs P row C k L * pInv P em) % P) C B g1 g2 g3 (by omega) (Nat.mod_lt _ (by omega)) g6 g9) (cwV 1 hts gX3_learn_X3_subtractOlder rfl rfl rfl (by decide +kernel) ⟨Nat.le_of_ble_eq_true rfl, Nat.le_of_ble_eq_true rfl⟩) hK hP hD hS hA [2, 5, 3, 0] [1, 4] rfl rfl (by decide) (by decide) 0 rfl rfl rfl rfl hl.1 (Nat.le_of_ble_eq_true rfl) dX3_learn_65 ⟨Nat.le_of_ble_eq_true rfl, Nat.le_of_ble_eq_true rfl⟩ (fun _ H locs hP hD hS => ?_)
    have hP : va_P D vwCl [(aT, kd_ar cI w C), (aN, kd_ar cI q row), (h0, .inr (3, [.ref aM, .ref aC, .ref aB, .ref aT, .int (nI L), .int (nI sh), .int (nI em)])), (aM, .inr (2, [.int (nI P)])), (aC, kd_ar cI w (pSub P C B sh ((0 + pMs P row C k L * pInv P em) % P))), (aB, kd_ar cI w B)] H := hP
    have hD : va_D A [(aT, kd_ar cI w C), (aN, kd_ar cI q row), (h0, .inr (3, [.ref aM, .ref aC, .ref aB, .ref aT, .int (nI L), .int (nI sh), .int (nI em)])), (aM, .inr (2, [.int (nI P)])), (aC, kd_ar cI w (pSub P C B sh ((0 + pMs P row C k L * pInv P em) % P))), (aB, kd_ar cI w B)] := hD
    refine lv_iconst (v := (nI 2)) hx hb dX3_learn_68 (by decide) ?_
    refine lv_aload_n hx hb dX3_learn_69 rfl (lv_at hl 2 rfl) ?_
    refine va_get (D := D) (ci := 3) (v := .int (nI L)) (C := RX3) (T := TX3) (N := 7) hx hb hts i_X3 hown hK hP 2 rfl rfl 4 (by decide) fl29 (fun _ h9 => h9) rfl dX3_learn_70 ?_
    refine kd_mul hx hb dX3_learn_73 ?_
    refine lv_iload_n hx hb dX3_learn_74 rfl (lv_at hl 4 rfl) ?_
    refine kd_le (tgt := 89) hx hb dX3_learn_75 (by decide) (by omega) (by omega) (fun c_75 => ?_) (fun c_75 => ?_)
    · skip
      refine lv_aload_n hx hb dX3_learn_89 rfl (lv_at hl 2 rfl) ?_
      refine lv_iload_n hx hb dX3_learn_90 rfl (lv_at hl 4 rfl) ?_
      refine lv_iconst (v := (nI 1)) hx hb dX3_learn_91 (by decide) ?_
      refine kd_add hx hb dX3_learn_92 ?_
      refine lv_aload_n hx hb dX3_learn_93 rfl (lv_at hl 2 rfl) ?_
      refine va_get (D := D) (ci := 3) (v := .int (nI L)) (C := RX3) (T := TX3) (N := 7) hx hb hts i_X3 hown hK hP 2 rfl rfl 4 (by decide) fl29 (fun _ h9 => h9) rfl dX3_learn_94 ?_
      refine kd_sub hx hb (by omega) dX3_learn_97 ?_
      refine va_put (D := D) (ci := 3) (v := .int (nI ((k + 1) - L))) (ty := .int) (C := RX3) (T := TX3) (N := 7) hx hb hts i_X3 tyX3 tyX3_ok nmX3 hown hK hP hD hS 2 rfl rfl 4 (by decide) fl29 (fun _ h9 => h9) rfl (by decide +kernel) rfl rfl (Nat.le_of_ble_eq_true rfl) dX3_learn_98 (fun H locs hP hD hS => ?_)
      have hP : va_P D vwCl [(aT, kd_ar cI w C), (aN, kd_ar cI q row), (h0, .inr (3, [.ref aM, .ref aC, .ref aB, .ref aT, .int (nI ((k + 1) - L)), .int (nI sh), .int (nI em)])), (aM, .inr (2, [.int (nI P)])), (aC, kd_ar cI w (pSub P C B sh ((0 + pMs P row C k L * pInv P em) % P))), (aB, kd_ar cI w B)] H := hP
      have hD : va_D A [(aT, kd_ar cI w C), (aN, kd_ar cI q row), (h0, .inr (3, [.ref aM, .ref aC, .ref aB, .ref aT, .int (nI ((k + 1) - L)), .int (nI sh), .int (nI em)])), (aM, .inr (2, [.int (nI P)])), (aC, kd_ar cI w (pSub P C B sh ((0 + pMs P row C k L * pInv P em) % P))), (aB, kd_ar cI w B)] := hD
      refine lv_aload_n hx hb dX3_learn_101 rfl (lv_at hl 2 rfl) ?_
      refine va_get (D := D) (ci := 3) (v := .ref aT) (C := RX3) (T := TX3) (N := 7) hx hb hts i_X3 hown hK hP 2 rfl rfl 3 (by decide) fl26 (fun _ h9 => h9) rfl dX3_learn_102 ?_
      refine lv_iconst (v := (nI 0)) hx hb dX3_learn_105 (by decide) ?_
      refine lv_aload_n hx hb dX3_learn_106 rfl (lv_at hl 2 rfl) ?_
      refine va_get (D := D) (ci := 3) (v := .ref aB) (C := RX3) (T := TX3) (N := 7) hx hb hts i_X3 hown hK hP 2 rfl rfl 2 (by decide) fl23 (fun _ h9 => h9) rfl dX3_learn_107 ?_
      refine lv_iconst (v := (nI 0)) hx hb dX3_learn_110 (by decide) ?_
      refine lv_aload_n hx hb dX3_learn_111 rfl (lv_at hl 2 rfl) ?_
      refine va_get (D := D) (ci := 3) (v := .ref aT) (C := RX3) (T := TX3) (N := 7) hx hb hts i_X3 hown hK hP 2 rfl rfl 3 (by decide) fl26 (fun _ h9 => h9) rfl dX3_learn_112 ?_
      refine kd_alen hx hb hK hP 0 rfl dX3_learn_115 ?_
      refine kd_copy hx hb (hml.trans hl.1.symm) hown (hts (.methodLink RX3 65 arraycopyName) (by decide +kernel)) (hts (.native arraycopyName) (by decide +kernel)) (hts (.static arraycopyName) (by decide +kernel)) (hts (.initialized "java/lang/System") (by decide +kernel)) hK hP hD hS 0 5 rfl rfl (by omega) (by omega) (by omega) (Nat.le_of_ble_eq_true rfl) (by decide) dX3_learn_116 (fun H locs hP hD hS => ?_)
      have hP : va_P D vwCl [(aT, kd_ar cI w C), (aN, kd_ar cI q row), (h0, .inr (3, [.ref aM, .ref aC, .ref aB, .ref aT, .int (nI ((k + 1) - L)), .int (nI sh), .int (nI em)])), (aM, .inr (2, [.int (nI P)])), (aC, kd_ar cI w (pSub P C B sh ((0 + pMs P row C k L * pInv P em) % P))), (aB, kd_ar cI w (va_cpy C B 0 0 w))] H := hP
      have hD : va_D A [(aT, kd_ar cI w C), (aN, kd_ar cI q row), (h0, .inr (3, [.ref aM, .ref aC, .ref aB, .ref aT, .int (nI ((k + 1) - L)), .int (nI sh), .int (nI em)])), (aM, .inr (2, [.int (nI P)])), (aC, kd_ar cI w (pSub P C B sh ((0 + pMs P row C k L * pInv P em) % P))), (aB, kd_ar cI w (va_cpy C B 0 0 w))] := hD
      obtain ⟨hP, hD⟩ := kd_swap (g := C) hP hD 5 rfl (fun j hj => cpy_all hj)
      have hP : va_P D vwCl [(aT, kd_ar cI w C), (aN, kd_ar cI q row), (h0, .inr (3, [.ref aM, .ref aC, .ref aB, .ref aT, .int (nI ((k + 1) - L)), .int (nI sh), .int (nI em)])), (aM, .inr (2, [.int (nI P)])), (aC, kd_ar cI w (pSub P C B sh ((0 + pMs P row C k L * pInv P em) % P))), (aB, kd_ar cI w C)] H := hP
      have hD : va_D A [(aT, kd_ar cI w C), (aN, kd_ar cI q row), (h0, .inr (3, [.ref aM, .ref aC, .ref aB, .ref aT, .int (nI ((k + 1) - L)), .int (nI sh), .int (nI em)])), (aM, .inr (2, [.int (nI P)])), (aC, kd_ar cI w (pSub P C B sh ((0 + pMs P row C k L * pInv P em) % P))), (aB, kd_ar cI w C)] := hD
      refine lv_aload_n hx hb dX3_learn_119 rfl (lv_at hl 2 rfl) ?_
      refine lv_iload_n hx hb dX3_learn_120 rfl (lv_at hl 1 rfl) ?_
      refine va_put (D := D) (ci := 3) (v := .int (nI (pMs P row C k L))) (ty := .int) (C := RX3) (T := TX3) (N := 7) hx hb hts i_X3 tyX3 tyX3_ok nmX3 hown hK hP hD hS 2 rfl rfl 6 (by decide) fl46 (fun _ h9 => h9) rfl (by decide +kernel) rfl rfl (Nat.le_of_ble_eq_true rfl) dX3_learn_121 (fun H locs hP hD hS => ?_)
      have hP : va_P D vwCl [(aT, kd_ar cI w C), (aN, kd_ar cI q row), (h0, .inr (3, [.ref aM, .ref aC, .ref aB, .ref aT, .int (nI ((k + 1) - L)), .int (nI sh), .int (nI (pMs P row C k L))])), (aM, .inr (2, [.int (nI P)])), (aC, kd_ar cI w (pSub P C B sh ((0 + pMs P row C k L * pInv P em) % P))), (aB, kd_ar cI w C)] H := hP
      have hD : va_D A [(aT, kd_ar cI w C), (aN, kd_ar cI q row), (h0, .inr (3, [.ref aM, .ref aC, .ref aB, .ref aT, .int (nI ((k + 1) - L)), .int (nI sh), .int (nI (pMs P row C k L))])), (aM, .inr (2, [.int (nI P)])), (aC, kd_ar cI w (pSub P C B sh ((0 + pMs P row C k L * pInv P em) % P))), (aB, kd_ar cI w C)] := hD
      refine lv_aload_n hx hb dX3_learn_124 rfl (lv_at hl 2 rfl) ?_
      refine lv_iconst (v := (nI 1)) hx hb dX3_learn_125 (by decide) ?_
      refine va_put (D := D) (ci := 3) (v := .int (nI 1)) (ty := .int) (C := RX3) (T := TX3) (N := 7) hx hb hts i_X3 tyX3 tyX3_ok nmX3 hown hK hP hD hS 2 rfl rfl 5 (by decide) fl43 (fun _ h9 => h9) rfl (by decide +kernel) rfl rfl (Nat.le_of_ble_eq_true rfl) dX3_learn_126 (fun H locs hP hD hS => ?_)
      have hP : va_P D vwCl [(aT, kd_ar cI w C), (aN, kd_ar cI q row), (h0, .inr (3, [.ref aM, .ref aC, .ref aB, .ref aT, .int (nI ((k + 1) - L)), .int (nI 1), .int (nI (pMs P row C k L))])), (aM, .inr (2, [.int (nI P)])), (aC, kd_ar cI w (pSub P C B sh ((0 + pMs P row C k L * pInv P em) % P))), (aB, kd_ar cI w C)] H := hP
      have hD : va_D A [(aT, kd_ar cI w C), (aN, kd_ar cI q row), (h0, .inr (3, [.ref aM, .ref aC, .ref aB, .ref aT, .int (nI ((k + 1) - L)), .int (nI 1), .int (nI (pMs P row C k L))])), (aM, .inr (2, [.int (nI P)])), (aC, kd_ar cI w (pSub P C B sh ((0 + pMs P row C k L * pInv P em) % P))), (aB, kd_ar cI w C)] := hD
      have e9 := pStep_2 (P := P) (row := row) (C := C) (B := B) (k := k) (L := L) (sh := sh) (em := em) c_8 (by omega)
      rw [e9] at ret
      exact ret C _ _ _ _ dX3_learn_129 hS (hP.sub [2, 3, 4, 5, 0, 1] rfl) (hD.sub [2, 3, 4, 5, 0, 1] (by decide) rfl)
    · skip
      refine lv_aload_n hx hb dX3_learn_78 rfl (lv_at hl 2 rfl) ?_
      refine lv_dup hx hb dX3_learn_79 rfl ?_
      refine va_get (D := D) (ci := 3) (v := .int (nI sh)) (C := RX3) (T := TX3) (N := 7) hx hb hts i_X3 hown hK hP 2 rfl rfl 5 (by decide) fl43 (fun _ h9 => h9) rfl dX3_learn_80 ?_
      refine lv_iconst (v := (nI 1)) hx hb dX3_learn_83 (by decide) ?_
      refine kd_add hx hb dX3_learn_84 ?_
      refine va_put (D := D) (ci := 3) (v := .int (nI (sh + 1))) (ty := .int) (C := RX3) (T := TX3) (N := 7) hx hb hts i_X3 tyX3 tyX3_ok nmX3 hown hK hP hD hS 2 rfl rfl 5 (by decide) fl43 (fun _ h9 => h9) rfl (by decide +kernel) rfl rfl (Nat.le_of_ble_eq_true rfl) dX3_learn_85 (fun H locs hP hD hS => ?_)
      have hP : va_P D vwCl [(aT, kd_ar cI w C), (aN, kd_ar cI q row), (h0, .inr (3, [.ref aM, .ref aC, .ref aB, .ref aT, .int (nI L), .int (nI (sh + 1)), .int (nI em)])), (aM, .inr (2, [.int (nI P)])), (aC, kd_ar cI w (pSub P C B sh ((0 + pMs P row C k L * pInv P em) % P))), (aB, kd_ar cI w B)] H := hP
      have hD : va_D A [(aT, kd_ar cI w C), (aN, kd_ar cI q row), (h0, .inr (3, [.ref aM, .ref aC, .ref aB, .ref aT, .int (nI L), .int (nI (sh + 1)), .int (nI em)])), (aM, .inr (2, [.int (nI P)])), (aC, kd_ar cI w (pSub P C B sh ((0 + pMs P row C k L * pInv P em) % P))), (aB, kd_ar cI w B)] := hD
      have e9 := pStep_1 (P := P) (row := row) (C := C) (B := B) (k := k) (L := L) (sh := sh) (em := em) c_8 (by omega)
      rw [e9] at ret
      exact ret C _ _ _ _ dX3_learn_88 hS (hP.sub [2, 3, 4, 5, 0, 1] rfl) (hD.sub [2, 3, 4, 5, 0, 1] (by decide) rfl)
  · skip
    refine lv_aload_n hx hb dX3_learn_11 rfl (lv_at hl 1 rfl) ?_
    refine lv_dup hx hb dX3_learn_12 rfl ?_
    refine va_get (D := D) (ci := 3) (v := .int (nI sh)) (C := RX3) (T := TX3) (N := 7) hx hb hts i_X3 hown hK hP 2 rfl rfl 5 (by decide) fl43 (fun _ h9 => h9) rfl dX3_learn_13 ?_
    refine lv_iconst (v := (nI 1)) hx hb dX3_learn_16 (by decide) ?_
    refine kd_add hx hb dX3_learn_17 ?_
    refine va_put (D := D) (ci := 3) (v := .int (nI (sh + 1))) (ty := .int) (C := RX3) (T := TX3) (N := 7) hx hb hts i_X3 tyX3 tyX3_ok nmX3 hown hK hP hD hS 2 rfl rfl 5 (by decide) fl43 (fun _ h9 => h9) rfl (by decide +kernel) rfl rfl (Nat.le_of_ble_eq_true rfl) dX3_learn_18 (fun H locs hP hD hS => ?_)
    have hP : va_P D vwCl [(aB, kd_ar cI w B), (aT, kd_ar cI w T), (h0, .inr (3, [.ref aM, .ref aC, .ref aB, .ref aT, .int (nI L), .int (nI (sh + 1)), .int (nI em)])), (aM, .inr (2, [.int (nI P)])), (aC, kd_ar cI w C), (aN, kd_ar cI q row)] H := hP
    have hD : va_D A [(aB, kd_ar cI w B), (aT, kd_ar cI w T), (h0, .inr (3, [.ref aM, .ref aC, .ref aB, .ref aT, .int (nI L), .int (nI (sh + 1)), .int (nI em)])), (aM, .inr (2, [.int (nI P)])), (aC, kd_ar cI w C), (aN, kd_ar cI q row)] := hD
    have e9 := pStep_0 (P := P) (row := row) (C := C) (B := B) (k := k) (L := L) (sh := sh) (em := em) c_8
    rw [e9] at ret
    exact ret T _ _ _ _ dX3_learn_21 hS (hP.sub [2, 3, 4, 0, 1, 5] rfl) (hD.sub [2, 3, 4, 0, 1, 5] (by decide) rfl)

set_option maxHeartbeats 4000000 in
set_option maxRecDepth 100000 in
/-- the recurrence of the row -/
theorem c_X3_find (l : Launch) (D : va_G) (cI cJ : ClassId) (h0 aM aC aB aT : Nat) (aN P w q L sh em : Nat) (C B T row : Nat → Nat) (g1 : 2 ≤ P) (g2 : P ≤ 46337) (g3 : w ≤ 33) (g5 : q < w) (g8 : ∀ j, j < q → row j < P) : kd_MV (S := Nat → Nat) l yX3_find wsX3_find { frames := 3, cells := 0, slots := 0, locals := 88 } [.ref h0, .ref aN] D vwCl cI cJ [(h0, .inr (3, [.ref aM, .ref aC, .ref aB, .ref aT, .int (nI L), .int (nI sh), .int (nI em)])), (aM, .inr (2, [.int (nI P)])), (aC, kd_ar cI w C), (aB, kd_ar cI w B), (aT, kd_ar cI w T), (aN, kd_ar cI q row)] (fun t9 => [(h0, .inr (3, [.ref aM, .ref aC, .ref aB, .ref aT, .int (nI ((pBM P row q).2.2.1)), .int (nI ((pBM P row q).2.2.2.1)), .int (nI ((pBM P row q).2.2.2.2))])), (aM, .inr (2, [.int (nI P)])), (aC, kd_ar cI w ((pBM P row q).1)), (aB, kd_ar cI w ((pBM P row q).2.1)), (aT, kd_ar cI w t9), (aN, kd_ar cI q row)]) 0 0 := by
  refine kd_enterV (cc := cX3_find) (maxL := 3) (by decide) rfl (Nat.le_of_ble_eq_true rfl) ?_
  intro p e s m args below meth c A ls Q hx hb hr hts hown hlk hnm hml hP hK hD hA hS hl ret
  have hl : lv_has ls 3 [(0, .ref h0), (1, .ref aN)] := hl
  have hown : s.vm.findClass RX3 = some m.cls := hown
  have i_X3 : ∀ w ∈ wsX30, w ∈ wsX3_find := by decide +kernel
  have fl19 := hts (.fieldLink RX3 19 "KrylovDesk$Recurrence" "terms" "[I") (by decide +kernel)
  have fl23 := hts (.fieldLink RX3 23 "KrylovDesk$Recurrence" "olderTerms" "[I") (by decide +kernel)
  have fl29 := hts (.fieldLink RX3 29 "KrylovDesk$Recurrence" "length" "I") (by decide +kernel)
  have fl43 := hts (.fieldLink RX3 43 "KrylovDesk$Recurrence" "shift" "I") (by decide +kernel)
  have fl46 := hts (.fieldLink RX3 46 "KrylovDesk$Recurrence" "olderMiss" "I") (by decide +kernel)
  refine lv_aload_n hx hb dX3_find_0 rfl (lv_at hl 0 rfl) ?_
  refine va_get (D := D) (ci := 3) (v := .ref aC) (C := RX3) (T := TX3) (N := 7) hx hb hts i_X3 hown hK hP 0 rfl rfl 1 (by decide) fl19 (fun _ h9 => h9) rfl dX3_find_1 ?_
  refine lv_iconst (v := (nI 0)) hx hb dX3_find_4 (by decide) ?_
  refine kd_SV (As := [.ref aC, .int (nI 0)]) (rest := []) (Wr := [(h0, .inr (3, [.ref aM, .ref aC, .ref aB, .ref aT, .int (nI L), .int (nI sh), .int (nI em)])), (aM, .inr (2, [.int (nI P)])), (aB, kd_ar cI w B), (aT, kd_ar cI w T), (aN, kd_ar cI q row)]) ⟨hx, hb, hml, hown, hts⟩ (c_J7_fill_53178 l D cI cJ aC w 0 C (by omega)) (va_cwS 2 hts gX3_find_J7_fill_53178 rfl rfl rfl (by decide +kernel) ⟨Nat.le_of_ble_eq_true rfl, Nat.le_of_ble_eq_true rfl⟩) hK hP hD hS hA [2] [0, 1, 3, 4, 5] rfl rfl (by decide) (by decide) rfl rfl hl.1 (Nat.le_of_ble_eq_true rfl) dX3_find_5 ⟨Nat.le_of_ble_eq_true rfl, Nat.le_of_ble_eq_true rfl⟩ (fun _ H locs hP hD hS => ?_)
  have hP : va_P D vwCl [(h0, .inr (3, [.ref aM, .ref aC, .ref aB, .ref aT, .int (nI L), .int (nI sh), .int (nI em)])), (aM, .inr (2, [.int (nI P)])), (aB, kd_ar cI w B), (aT, kd_ar cI w T), (aN, kd_ar cI q row), (aC, kd_ar cI w (fun _ => 0))] H := hP
  have hD : va_D A [(h0, .inr (3, [.ref aM, .ref aC, .ref aB, .ref aT, .int (nI L), .int (nI sh), .int (nI em)])), (aM, .inr (2, [.int (nI P)])), (aB, kd_ar cI w B), (aT, kd_ar cI w T), (aN, kd_ar cI q row), (aC, kd_ar cI w (fun _ => 0))] := hD
  refine lv_aload_n hx hb dX3_find_8 rfl (lv_at hl 0 rfl) ?_
  refine va_get (D := D) (ci := 3) (v := .ref aB) (C := RX3) (T := TX3) (N := 7) hx hb hts i_X3 hown hK hP 0 rfl rfl 2 (by decide) fl23 (fun _ h9 => h9) rfl dX3_find_9 ?_
  refine lv_iconst (v := (nI 0)) hx hb dX3_find_12 (by decide) ?_
  refine kd_SV (As := [.ref aB, .int (nI 0)]) (rest := []) (Wr := [(h0, .inr (3, [.ref aM, .ref aC, .ref aB, .ref aT, .int (nI L), .int (nI sh), .int (nI em)])), (aM, .inr (2, [.int (nI P)])), (aT, kd_ar cI w T), (aN, kd_ar cI q row), (aC, kd_ar cI w (fun _ => 0))]) ⟨hx, hb, hml, hown, hts⟩ (c_J7_fill_53178 l D cI cJ aB w 0 B (by omega)) (va_cwS 2 hts gX3_find_J7_fill_53178 rfl rfl rfl (by decide +kernel) ⟨Nat.le_of_ble_eq_true rfl, Nat.le_of_ble_eq_true rfl⟩) hK hP hD hS hA [2] [0, 1, 3, 4, 5] rfl rfl (by decide) (by decide) rfl rfl hl.1 (Nat.le_of_ble_eq_true rfl) dX3_find_13 ⟨Nat.le_of_ble_eq_true rfl, Nat.le_of_ble_eq_true rfl⟩ (fun _ H locs hP hD hS => ?_)
  have hP : va_P D vwCl [(h0, .inr (3, [.ref aM, .ref aC, .ref aB, .ref aT, .int (nI L), .int (nI sh), .int (nI em)])), (aM, .inr (2, [.int (nI P)])), (aT, kd_ar cI w T), (aN, kd_ar cI q row), (aC, kd_ar cI w (fun _ => 0)), (aB, kd_ar cI w (fun _ => 0))] H := hP
  have hD : va_D A [(h0, .inr (3, [.ref aM, .ref aC, .ref aB, .ref aT, .int (nI L), .int (nI sh), .int (nI em)])), (aM, .inr (2, [.int (nI P)])), (aT, kd_ar cI w T), (aN, kd_ar cI q row), (aC, kd_ar cI w (fun _ => 0)), (aB, kd_ar cI w (fun _ => 0))] := hD
  refine lv_aload_n hx hb dX3_find_16 rfl (lv_at hl 0 rfl) ?_
  refine va_get (D := D) (ci := 3) (v := .ref aC) (C := RX3) (T := TX3) (N := 7) hx hb hts i_X3 hown hK hP 0 rfl rfl 1 (by decide) fl19 (fun _ h9 => h9) rfl dX3_find_17 ?_
  refine lv_iconst (v := (nI 0)) hx hb dX3_find_20 (by decide) ?_
  refine lv_iconst (v := (nI 1)) hx hb dX3_find_21 (by decide) ?_
  refine kd_ast hx hb hK hP hD hS 4 rfl 0 (by omega) (by omega) dX3_find_22 (fun H locs hP hD hS => ?_)
  have hP : va_P D vwCl [(h0, .inr (3, [.ref aM, .ref aC, .ref aB, .ref aT, .int (nI L), .int (nI sh), .int (nI em)])), (aM, .inr (2, [.int (nI P)])), (aT, kd_ar cI w T), (aN, kd_ar cI q row), (aC, kd_ar cI w (va_up (fun _ => 0) 0 1)), (aB, kd_ar cI w (fun _ => 0))] H := hP
  have hD : va_D A [(h0, .inr (3, [.ref aM, .ref aC, .ref aB, .ref aT, .int (nI L), .int (nI sh), .int (nI em)])), (aM, .inr (2, [.int (nI P)])), (aT, kd_ar cI w T), (aN, kd_ar cI q row), (aC, kd_ar cI w (va_up (fun _ => 0) 0 1)), (aB, kd_ar cI w (fun _ => 0))] := hD
  refine lv_aload_n hx hb dX3_find_23 rfl (lv_at hl 0 rfl) ?_
  refine va_get (D := D) (ci := 3) (v := .ref aB) (C := RX3) (T := TX3) (N := 7) hx hb hts i_X3 hown hK hP 0 rfl rfl 2 (by decide) fl23 (fun _ h9 => h9) rfl dX3_find_24 ?_
  refine lv_iconst (v := (nI 0)) hx hb dX3_find_27 (by decide) ?_
  refine lv_iconst (v := (nI 1)) hx hb dX3_find_28 (by decide) ?_
  refine kd_ast hx hb hK hP hD hS 5 rfl 0 (by omega) (by omega) dX3_find_29 (fun H locs hP hD hS => ?_)
  have hP : va_P D vwCl [(h0, .inr (3, [.ref aM, .ref aC, .ref aB, .ref aT, .int (nI L), .int (nI sh), .int (nI em)])), (aM, .inr (2, [.int (nI P)])), (aT, kd_ar cI w T), (aN, kd_ar cI q row), (aC, kd_ar cI w (va_up (fun _ => 0) 0 1)), (aB, kd_ar cI w (va_up (fun _ => 0) 0 1))] H := hP
  have hD : va_D A [(h0, .inr (3, [.ref aM, .ref aC, .ref aB, .ref aT, .int (nI L), .int (nI sh), .int (nI em)])), (aM, .inr (2, [.int (nI P)])), (aT, kd_ar cI w T), (aN, kd_ar cI q row), (aC, kd_ar cI w (va_up (fun _ => 0) 0 1)), (aB, kd_ar cI w (va_up (fun _ => 0) 0 1))] := hD
  refine lv_aload_n hx hb dX3_find_30 rfl (lv_at hl 0 rfl) ?_
  refine lv_iconst (v := (nI 0)) hx hb dX3_find_31 (by decide) ?_
  refine va_put (D := D) (ci := 3) (v := .int (nI 0)) (ty := .int) (C := RX3) (T := TX3) (N := 7) hx hb hts i_X3 tyX3 tyX3_ok nmX3 hown hK hP hD hS 0 rfl rfl 4 (by decide) fl29 (fun _ h9 => h9) rfl (by decide +kernel) rfl rfl (Nat.le_of_ble_eq_true rfl) dX3_find_32 (fun H locs hP hD hS => ?_)
  have hP : va_P D vwCl [(h0, .inr (3, [.ref aM, .ref aC, .ref aB, .ref aT, .int (nI 0), .int (nI sh), .int (nI em)])), (aM, .inr (2, [.int (nI P)])), (aT, kd_ar cI w T), (aN, kd_ar cI q row), (aC, kd_ar cI w (va_up (fun _ => 0) 0 1)), (aB, kd_ar cI w (va_up (fun _ => 0) 0 1))] H := hP
  have hD : va_D A [(h0, .inr (3, [.ref aM, .ref aC, .ref aB, .ref aT, .int (nI 0), .int (nI sh), .int (nI em)])), (aM, .inr (2, [.int (nI P)])), (aT, kd_ar cI w T), (aN, kd_ar cI q row), (aC, kd_ar cI w (va_up (fun _ => 0) 0 1)), (aB, kd_ar cI w (va_up (fun _ => 0) 0 1))] := hD
  refine lv_aload_n hx hb dX3_find_35 rfl (lv_at hl 0 rfl) ?_
  refine lv_iconst (v := (nI 1)) hx hb dX3_find_36 (by decide) ?_
  refine va_put (D := D) (ci := 3) (v := .int (nI 1)) (ty := .int) (C := RX3) (T := TX3) (N := 7) hx hb hts i_X3 tyX3 tyX3_ok nmX3 hown hK hP hD hS 0 rfl rfl 5 (by decide) fl43 (fun _ h9 => h9) rfl (by decide +kernel) rfl rfl (Nat.le_of_ble_eq_true rfl) dX3_find_37 (fun H locs hP hD hS => ?_)
  have hP : va_P D vwCl [(h0, .inr (3, [.ref aM, .ref aC, .ref aB, .ref aT, .int (nI 0), .int (nI 1), .int (nI em)])), (aM, .inr (2, [.int (nI P)])), (aT, kd_ar cI w T), (aN, kd_ar cI q row), (aC, kd_ar cI w (va_up (fun _ => 0) 0 1)), (aB, kd_ar cI w (va_up (fun _ => 0) 0 1))] H := hP
  have hD : va_D A [(h0, .inr (3, [.ref aM, .ref aC, .ref aB, .ref aT, .int (nI 0), .int (nI 1), .int (nI em)])), (aM, .inr (2, [.int (nI P)])), (aT, kd_ar cI w T), (aN, kd_ar cI q row), (aC, kd_ar cI w (va_up (fun _ => 0) 0 1)), (aB, kd_ar cI w (va_up (fun _ => 0) 0 1))] := hD
  refine lv_aload_n hx hb dX3_find_40 rfl (lv_at hl 0 rfl) ?_
  refine lv_iconst (v := (nI 1)) hx hb dX3_find_41 (by decide) ?_
  refine va_put (D := D) (ci := 3) (v := .int (nI 1)) (ty := .int) (C := RX3) (T := TX3) (N := 7) hx hb hts i_X3 tyX3 tyX3_ok nmX3 hown hK hP hD hS 0 rfl rfl 6 (by decide) fl46 (fun _ h9 => h9) rfl (by decide +kernel) rfl rfl (Nat.le_of_ble_eq_true rfl) dX3_find_42 (fun H locs hP hD hS => ?_)
  have hP : va_P D vwCl [(h0, .inr (3, [.ref aM, .ref aC, .ref aB, .ref aT, .int (nI 0), .int (nI 1), .int (nI 1)])), (aM, .inr (2, [.int (nI P)])), (aT, kd_ar cI w T), (aN, kd_ar cI q row), (aC, kd_ar cI w (va_up (fun _ => 0) 0 1)), (aB, kd_ar cI w (va_up (fun _ => 0) 0 1))] H := hP
  have hD : va_D A [(h0, .inr (3, [.ref aM, .ref aC, .ref aB, .ref aT, .int (nI 0), .int (nI 1), .int (nI 1)])), (aM, .inr (2, [.int (nI P)])), (aT, kd_ar cI w T), (aN, kd_ar cI q row), (aC, kd_ar cI w (va_up (fun _ => 0) 0 1)), (aB, kd_ar cI w (va_up (fun _ => 0) 0 1))] := hD
  refine lv_iconst (v := (nI 0)) hx hb dX3_find_45 (by decide) ?_
  refine lv_istore_n (lv' := [(2, .int (nI 0)), (0, .ref h0), (1, .ref aN)]) hx hb dX3_find_46 rfl hl (by decide) rfl (fun ls hl => ?_)
  have lp : ∀ (k_lp : Nat) (k : Nat) (T : Nat → Nat) (H : Heap) (locs : List Loc) (ls : Array Slot), (q - k < k_lp) → (k ≤ q) → va_P D vwCl [(h0, .inr (3, [.ref aM, .ref aC, .ref aB, .ref aT, .int (nI ((pBM P row k).2.2.1)), .int (nI ((pBM P row k).2.2.2.1)), .int (nI ((pBM P row k).2.2.2.2))])), (aM, .inr (2, [.int (nI P)])), (aC, kd_ar cI w ((pBM P row k).1)), (aB, kd_ar cI w ((pBM P row k).2.1)), (aT, kd_ar cI w T), (aN, kd_ar cI q row)] H → va_D A [(h0, .inr (3, [.ref aM, .ref aC, .ref aB, .ref aT, .int (nI ((pBM P row k).2.2.1)), .int (nI ((pBM P row k).2.2.2.1)), .int (nI ((pBM P row k).2.2.2.2))])), (aM, .inr (2, [.int (nI P)])), (aC, kd_ar cI w ((pBM P row k).1)), (aB, kd_ar cI w ((pBM P row k).2.1)), (aT, kd_ar cI w T), (aN, kd_ar cI q row)] → va_S A s.heap H locs → lv_has ls 3 [(2, .int (nI k)), (0, .ref h0), (1, .ref aN)] → W p l e { frames := 3, cells := 0, slots := 0, locals := 88 } s m args below meth c H locs 0 0 Q (F0 m 47 ls []) := by
    intro k_lp
    induction k_lp with
    | zero => intro k T H locs ls i1 i2 hP hD hS hl; omega
    | succ k_lp ih_lp =>
      intro k T H locs ls i1 i2 hP hD hS hl
      refine lv_iload_n hx hb dX3_find_47 rfl (lv_at hl 0 rfl) ?_
      refine lv_aload_n hx hb dX3_find_48 rfl (lv_at hl 2 rfl) ?_
      refine kd_alen hx hb hK hP 5 rfl dX3_find_49 ?_
      refine kd_ge (tgt := 65) hx hb dX3_find_50 (by decide) (by omega) (by omega) (fun c_50 => ?_) (fun c_50 => ?_)
      · skip
        have e9 : k = q := by omega
        rw [e9] at hP hD
        exact ret T _ _ _ _ dX3_find_65 hS (hP.sub [0, 1, 2, 3, 4, 5] rfl) (hD.sub [0, 1, 2, 3, 4, 5] (by decide) rfl)
      · skip
        refine lv_aload_n hx hb dX3_find_53 rfl (lv_at hl 1 rfl) ?_
        refine lv_aload_n hx hb dX3_find_54 rfl (lv_at hl 2 rfl) ?_
        refine lv_iload_n hx hb dX3_find_55 rfl (lv_at hl 0 rfl) ?_
        obtain ⟨z1, z2, z3, z4, z5⟩ := pBM_ok g1 k (fun j hj => g8 j (by omega)) (row := row)
        refine kd_VV (As := [.ref aN, .int (nI k)]) (rest := []) (Wr := []) ⟨hx, hb, hml, hown, hts⟩ (c_X3_learn l D cI cJ h0 aM aC aB aT aN P w q (pBM P row k).2.2.1 (pBM P row k).2.2.2.1 (pBM P row k).2.2.2.2 k (pBM P row k).1 (pBM P row k).2.1 T row g1 g2 g3 z3 g5 z1 (by omega) g8 z2 z5 z4) (cwV 2 hts gX3_find_X3_learn rfl rfl rfl (by decide +kernel) ⟨Nat.le_of_ble_eq_true rfl, Nat.le_of_ble_eq_true rfl⟩) hK hP hD hS hA [0, 1, 2, 3, 4, 5] [] rfl rfl (by decide) (by decide) 0 rfl rfl rfl rfl hl.1 (Nat.le_of_ble_eq_true rfl) dX3_find_56 ⟨Nat.le_of_ble_eq_true rfl, Nat.le_of_ble_eq_true rfl⟩ (fun T H locs hP hD hS => ?_)
        have hP : va_P D vwCl [(h0, .inr (3, [.ref aM, .ref aC, .ref aB, .ref aT, .int (nI ((pBM P row (k + 1)).2.2.1)), .int (nI ((pBM P row (k + 1)).2.2.2.1)), .int (nI ((pBM P row (k + 1)).2.2.2.2))])), (aM, .inr (2, [.int (nI P)])), (aC, kd_ar cI w ((pBM P row (k + 1)).1)), (aB, kd_ar cI w ((pBM P row (k + 1)).2.1)), (aT, kd_ar cI w T), (aN, kd_ar cI q row)] H := hP
        have hD : va_D A [(h0, .inr (3, [.ref aM, .ref aC, .ref aB, .ref aT, .int (nI ((pBM P row (k + 1)).2.2.1)), .int (nI ((pBM P row (k + 1)).2.2.2.1)), .int (nI ((pBM P row (k + 1)).2.2.2.2))])), (aM, .inr (2, [.int (nI P)])), (aC, kd_ar cI w ((pBM P row (k + 1)).1)), (aB, kd_ar cI w ((pBM P row (k + 1)).2.1)), (aT, kd_ar cI w T), (aN, kd_ar cI q row)] := hD
        refine lv_iinc (v := (nI (k + 1))) (lv' := [(2, .int (nI (k + 1))), (0, .ref h0), (1, .ref aN)]) hx hb dX3_find_59 hl (k := 0) rfl (nI_1 _) (by decide) rfl (fun ls hl => ?_)
        refine lv_goto (tgt := 47) hx hb dX3_find_62 (by decide) ?_
        exact ih_lp (k + 1) T _ _ _ (by omega) (by omega) (hP.sub [0, 1, 2, 3, 4, 5] rfl) (hD.sub [0, 1, 2, 3, 4, 5] (by decide) rfl) hS (lv_sub hl [0, 1, 2] rfl)
  exact lp (q + 1) 0 T _ _ _ (by omega) (by omega) (hP.sub [0, 1, 4, 5, 2, 3] rfl) (hD.sub [0, 1, 4, 5, 2, 3] (by decide) rfl) hS (lv_sub hl [0, 1, 2] rfl)
