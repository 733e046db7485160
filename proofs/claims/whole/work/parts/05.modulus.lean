set_option maxHeartbeats 4000000 in
set_option maxRecDepth 100000 in
/-- (sum + a b) modulo P -/
theorem c_X2_plusProduct (l : Launch) (D : va_G) (cI cJ : ClassId) (h0 P s0 a0 b0 : Nat) (g1 : 2 ≤ P) (g2 : P ≤ 46337) (g3 : s0 < P) (g4 : a0 < P) (g5 : b0 < P) : kd_MI (S := Unit) l yX2_plusProduct wsX2_plusProduct { frames := 0, cells := 0, slots := 0, locals := 0 } [.ref h0, .int (nI s0), .int (nI a0), .int (nI b0)] D vwCl cI cJ [(h0, .inr (2, [.int (nI P)]))] (fun _ => nI ((s0 + a0 * b0) % P)) (fun _ => [(h0, .inr (2, [.int (nI P)]))]) 0 0 := by
  refine kd_enterI (cc := cX2_plusProduct) (maxL := 4) (by decide) rfl (Nat.le_of_ble_eq_true rfl) ?_
  intro p e s m args below meth c A ls Q hx hb hr hts hown hlk hnm hml hP hK hD hA hS hl ret
  have hl : lv_has ls 4 [(0, .ref h0), (1, .int (nI s0)), (2, .int (nI a0)), (3, .int (nI b0))] := hl
  have hown : s.vm.findClass RX2 = some m.cls := hown
  have i_X2 : ∀ w ∈ wsX20, w ∈ wsX2_plusProduct := by decide +kernel
  have fl15 := hts (.fieldLink RX2 15 "KrylovDesk$Modulus" "prime" "I") (by decide +kernel)
  refine lv_iload_n hx hb dX2_plusProduct_0 rfl (lv_at hl 1 rfl) ?_
  refine kd_i2l hx hb (by omega) dX2_plusProduct_1 ?_
  refine lv_iload_n hx hb dX2_plusProduct_2 rfl (lv_at hl 2 rfl) ?_
  refine kd_i2l hx hb (by omega) dX2_plusProduct_3 ?_
  refine lv_iload_n hx hb dX2_plusProduct_4 rfl (lv_at hl 3 rfl) ?_
  refine kd_i2l hx hb (by omega) dX2_plusProduct_5 ?_
  refine kd_lmul hx hb dX2_plusProduct_6 ?_
  refine kd_ladd hx hb dX2_plusProduct_7 ?_
  refine lv_aload_n hx hb dX2_plusProduct_8 rfl (lv_at hl 0 rfl) ?_
  refine va_get (D := D) (ci := 2) (v := .int (nI P)) (C := RX2) (T := TX2) (N := 1) hx hb hts i_X2 hown hK hP 0 rfl rfl 0 (by decide) fl15 (fun _ h9 => h9) rfl dX2_plusProduct_9 ?_
  refine kd_i2l hx hb (by omega) dX2_plusProduct_12 ?_
  refine kd_lrem hx hb (by have := mul_small g2 g4 g5; omega) (by omega) (by omega) dX2_plusProduct_13 ?_
  refine kd_l2i hx hb dX2_plusProduct_14 ?_
  exact ret () _ _ _ _ _ dX2_plusProduct_15 rfl hS (hP.sub [0] rfl) (hD.sub [0] (by decide) rfl)

set_option maxHeartbeats 4000000 in
set_option maxRecDepth 100000 in
/-- less a -/
theorem c_X2_negative (l : Launch) (D : va_G) (cI cJ : ClassId) (h0 P a0 : Nat) (g1 : 2 ≤ P) (g2 : P ≤ 46337) (g3 : a0 < P) : kd_MI (S := Unit) l yX2_negative wsX2_negative { frames := 0, cells := 0, slots := 0, locals := 0 } [.ref h0, .int (nI a0)] D vwCl cI cJ [(h0, .inr (2, [.int (nI P)]))] (fun _ => nI (pNeg P a0)) (fun _ => [(h0, .inr (2, [.int (nI P)]))]) 0 0 := by
  refine kd_enterI (cc := cX2_negative) (maxL := 2) (by decide) rfl (Nat.le_of_ble_eq_true rfl) ?_
  intro p e s m args below meth c A ls Q hx hb hr hts hown hlk hnm hml hP hK hD hA hS hl ret
  have hl : lv_has ls 2 [(0, .ref h0), (1, .int (nI a0))] := hl
  have hown : s.vm.findClass RX2 = some m.cls := hown
  have i_X2 : ∀ w ∈ wsX20, w ∈ wsX2_negative := by decide +kernel
  have fl15 := hts (.fieldLink RX2 15 "KrylovDesk$Modulus" "prime" "I") (by decide +kernel)
  refine lv_iload_n hx hb dX2_negative_0 rfl (lv_at hl 1 rfl) ?_
  refine kd_ne0 (tgt := 8) hx hb dX2_negative_1 (by decide) (by omega) (fun c_1 => ?_) (fun c_1 => ?_)
  · skip
    refine lv_aload_n hx hb dX2_negative_8 rfl (lv_at hl 0 rfl) ?_
    refine va_get (D := D) (ci := 2) (v := .int (nI P)) (C := RX2) (T := TX2) (N := 1) hx hb hts i_X2 hown hK hP 0 rfl rfl 0 (by decide) fl15 (fun _ h9 => h9) rfl dX2_negative_9 ?_
    refine lv_iload_n hx hb dX2_negative_12 rfl (lv_at hl 1 rfl) ?_
    refine kd_sub hx hb (by omega) dX2_negative_13 ?_
    exact ret () _ _ _ _ _ dX2_negative_14 (by unfold pNeg; simp [c_1]) hS (hP.sub [0] rfl) (hD.sub [0] (by decide) rfl)
  · skip
    refine lv_iconst (v := (nI 0)) hx hb dX2_negative_4 (by decide) ?_
    refine lv_goto (tgt := 14) hx hb dX2_negative_5 (by decide) ?_
    exact ret () _ _ _ _ _ dX2_negative_14 (by unfold pNeg; simp [c_1]) hS (hP.sub [0] rfl) (hD.sub [0] (by decide) rfl)

set_option maxHeartbeats 4000000 in
set_option maxRecDepth 100000 in
/-- a value modulo P -/
theorem c_X2_reduce (l : Launch) (D : va_G) (cI cJ : ClassId) (h0 P : Nat) (v0 : Int32) (g1 : 2 ≤ P) (g2 : P ≤ 46337) : kd_MI (S := Unit) l yX2_reduce wsX2_reduce { frames := 0, cells := 0, slots := 0, locals := 0 } [.ref h0, .int v0] D vwCl cI cJ [(h0, .inr (2, [.int (nI P)]))] (fun _ => nI (pRed P v0)) (fun _ => [(h0, .inr (2, [.int (nI P)]))]) 0 0 := by
  refine kd_enterI (cc := cX2_reduce) (maxL := 3) (by decide) rfl (Nat.le_of_ble_eq_true rfl) ?_
  intro p e s m args below meth c A ls Q hx hb hr hts hown hlk hnm hml hP hK hD hA hS hl ret
  have hl : lv_has ls 3 [(0, .ref h0), (1, .int v0)] := hl
  have hown : s.vm.findClass RX2 = some m.cls := hown
  have i_X2 : ∀ w ∈ wsX20, w ∈ wsX2_reduce := by decide +kernel
  have fl15 := hts (.fieldLink RX2 15 "KrylovDesk$Modulus" "prime" "I") (by decide +kernel)
  refine lv_iload_n hx hb dX2_reduce_0 rfl (lv_at hl 1 rfl) ?_
  refine lv_aload_n hx hb dX2_reduce_1 rfl (lv_at hl 0 rfl) ?_
  refine va_get (D := D) (ci := 2) (v := .int (nI P)) (C := RX2) (T := TX2) (N := 1) hx hb hts i_X2 hown hK hP 0 rfl rfl 0 (by decide) fl15 (fun _ h9 => h9) rfl dX2_reduce_2 ?_
  refine lv_irem hx hb dX2_reduce_5 (nI_ne0 (by omega) (by omega)) ?_
  refine lv_istore_n (lv' := [(2, .int (v0 - v0 / (nI P) * (nI P))), (0, .ref h0), (1, .int v0)]) hx hb dX2_reduce_6 rfl hl (by decide) rfl (fun ls hl => ?_)
  refine lv_iload_n hx hb dX2_reduce_7 rfl (lv_at hl 0 rfl) ?_
  refine lv_if_ge (tgt := 20) hx hb dX2_reduce_8 (by decide) (fun c_8 => ?_) (fun c_8 => ?_)
  · skip
    refine lv_iload_n hx hb dX2_reduce_20 rfl (lv_at hl 0 rfl) ?_
    exact ret () _ _ _ _ _ dX2_reduce_21 (by first | exact red_pos (by omega) (by omega) c_8 | exact red_neg (by omega) (by omega) c_8) hS (hP.sub [0] rfl) (hD.sub [0] (by decide) rfl)
  · skip
    refine lv_iload_n hx hb dX2_reduce_11 rfl (lv_at hl 0 rfl) ?_
    refine lv_aload_n hx hb dX2_reduce_12 rfl (lv_at hl 1 rfl) ?_
    refine va_get (D := D) (ci := 2) (v := .int (nI P)) (C := RX2) (T := TX2) (N := 1) hx hb hts i_X2 hown hK hP 0 rfl rfl 0 (by decide) fl15 (fun _ h9 => h9) rfl dX2_reduce_13 ?_
    refine lv_iadd hx hb dX2_reduce_16 ?_
    refine lv_goto (tgt := 21) hx hb dX2_reduce_17 (by decide) ?_
    exact ret () _ _ _ _ _ dX2_reduce_21 (by first | exact red_pos (by omega) (by omega) c_8 | exact red_neg (by omega) (by omega) c_8) hS (hP.sub [0] rfl) (hD.sub [0] (by decide) rfl)

set_option maxHeartbeats 4000000 in
set_option maxRecDepth 100000 in
/-- a to the power P - 2 -/
theorem c_X2_inverse (l : Launch) (D : va_G) (cI cJ : ClassId) (h0 P a0 : Nat) (g1 : 2 ≤ P) (g2 : P ≤ 46337) (g3 : a0 < P) : kd_MI (S := Unit) l yX2_inverse wsX2_inverse { frames := 1, cells := 0, slots := 0, locals := 23 } [.ref h0, .int (nI a0)] D vwCl cI cJ [(h0, .inr (2, [.int (nI P)]))] (fun _ => nI (pInv P a0)) (fun _ => [(h0, .inr (2, [.int (nI P)]))]) 0 0 := by
  refine kd_enterI (cc := cX2_inverse) (maxL := 5) (by decide) rfl (Nat.le_of_ble_eq_true rfl) ?_
  intro p e s m args below meth c A ls Q hx hb hr hts hown hlk hnm hml hP hK hD hA hS hl ret
  have hl : lv_has ls 5 [(0, .ref h0), (1, .int (nI a0))] := hl
  have hown : s.vm.findClass RX2 = some m.cls := hown
  have i_X2 : ∀ w ∈ wsX20, w ∈ wsX2_inverse := by decide +kernel
  have fl15 := hts (.fieldLink RX2 15 "KrylovDesk$Modulus" "prime" "I") (by decide +kernel)
  refine lv_iconst (v := (nI 1)) hx hb dX2_inverse_0 (by decide) ?_
  refine lv_istore_n (lv' := [(2, .int (nI 1)), (0, .ref h0), (1, .int (nI a0))]) hx hb dX2_inverse_1 rfl hl (by decide) rfl (fun ls hl => ?_)
  refine lv_iload_n hx hb dX2_inverse_2 rfl (lv_at hl 2 rfl) ?_
  refine lv_istore_n (lv' := [(3, .int (nI a0)), (2, .int (nI 1)), (0, .ref h0), (1, .int (nI a0))]) hx hb dX2_inverse_3 rfl hl (by decide) rfl (fun ls hl => ?_)
  refine lv_aload_n hx hb dX2_inverse_4 rfl (lv_at hl 2 rfl) ?_
  refine va_get (D := D) (ci := 2) (v := .int (nI P)) (C := RX2) (T := TX2) (N := 1) hx hb hts i_X2 hown hK hP 0 rfl rfl 0 (by decide) fl15 (fun _ h9 => h9) rfl dX2_inverse_5 ?_
  refine lv_iconst (v := (nI 2)) hx hb dX2_inverse_8 (by decide) ?_
  refine kd_sub hx hb (by omega) dX2_inverse_9 ?_
  refine lv_istore (lv' := [(4, .int (nI (P - 2))), (3, .int (nI a0)), (2, .int (nI 1)), (0, .ref h0), (1, .int (nI a0))]) hx hb dX2_inverse_10 hl (by decide) rfl (fun ls hl => ?_)
  have lp : ∀ (k_lp : Nat) (left : Nat) (res : Nat) (sq : Nat) (H : Heap) (locs : List Loc) (ls : Array Slot), (left < k_lp) → (left < 46337) → (res < P) → (sq < P) → ((res * sq ^ left) % P = pInv P a0) → va_P D vwCl [(h0, .inr (2, [.int (nI P)]))] H → va_D A [(h0, .inr (2, [.int (nI P)]))] → va_S A s.heap H locs → lv_has ls 5 [(4, .int (nI left)), (3, .int (nI sq)), (2, .int (nI res)), (0, .ref h0)] → W p l e { frames := 1, cells := 0, slots := 0, locals := 23 } s m args below meth c H locs 0 0 Q (F0 m 12 ls []) := by
    intro k_lp
    induction k_lp with
    | zero => intro left res sq H locs ls i1 i0 i2 i3 i4 hP hD hS hl; omega
    | succ k_lp ih_lp =>
      intro left res sq H locs ls i1 i0 i2 i3 i4 hP hD hS hl
      refine lv_iload hx hb dX2_inverse_12 (lv_at hl 0 rfl) ?_
      refine kd_le0 (tgt := 50) hx hb dX2_inverse_14 (by decide) (by omega) (fun c_14 => ?_) (fun c_14 => ?_)
      · skip
        refine lv_iload_n hx hb dX2_inverse_50 rfl (lv_at hl 2 rfl) ?_
        exact ret () _ _ _ _ _ dX2_inverse_51 (by rw [← i4, c_14, Nat.pow_zero, Nat.mul_one, Nat.mod_eq_of_lt i2]) hS (hP.sub [0] rfl) (hD.sub [0] (by decide) rfl)
      · skip
        refine lv_iload hx hb dX2_inverse_17 (lv_at hl 0 rfl) ?_
        refine lv_iconst (v := (nI 2)) hx hb dX2_inverse_19 (by decide) ?_
        refine kd_rem hx hb (by omega) (by omega) (by omega) dX2_inverse_20 ?_
        refine lv_iconst (v := (nI 1)) hx hb dX2_inverse_21 (by decide) ?_
        refine kd_ne (tgt := 33) hx hb dX2_inverse_22 (by decide) (by omega) (by omega) (fun c_22 => ?_) (fun c_22 => ?_)
        · skip
          refine lv_aload_n hx hb dX2_inverse_33 rfl (lv_at hl 3 rfl) ?_
          refine lv_iconst (v := (nI 0)) hx hb dX2_inverse_34 (by decide) ?_
          refine lv_iload_n hx hb dX2_inverse_35 rfl (lv_at hl 1 rfl) ?_
          refine lv_iload_n hx hb dX2_inverse_36 rfl (lv_at hl 1 rfl) ?_
          refine kd_VI (As := [.int (nI 0), .int (nI sq), .int (nI sq)]) (rest := []) (Wr := []) ⟨hx, hb, hml, hown, hts⟩ (c_X2_plusProduct l D cI cJ h0 P 0 sq sq g1 g2 (by omega) i3 i3) (cwV 3 hts gX2_inverse_X2_plusProduct rfl rfl rfl (by decide +kernel) ⟨Nat.le_of_ble_eq_true rfl, Nat.le_of_ble_eq_true rfl⟩) hK hP hD hS hA [0] [] rfl rfl (by decide) (by decide) 0 rfl rfl rfl rfl hl.1 (Nat.le_of_ble_eq_true rfl) dX2_inverse_37 ⟨Nat.le_of_ble_eq_true rfl, Nat.le_of_ble_eq_true rfl⟩ (fun _ H locs hP hD hS => ?_)
          have hP : va_P D vwCl [(h0, .inr (2, [.int (nI P)]))] H := hP
          have hD : va_D A [(h0, .inr (2, [.int (nI P)]))] := hD
          refine lv_istore_n (lv' := [(3, .int (nI ((0 + sq * sq) % P))), (4, .int (nI left)), (2, .int (nI res)), (0, .ref h0)]) hx hb dX2_inverse_40 rfl hl (by decide) rfl (fun ls hl => ?_)
          refine lv_iload hx hb dX2_inverse_41 (lv_at hl 1 rfl) ?_
          refine lv_iconst (v := (nI 2)) hx hb dX2_inverse_43 (by decide) ?_
          refine kd_div hx hb (by omega) (by omega) (by omega) dX2_inverse_44 ?_
          refine lv_istore (lv' := [(4, .int (nI (left / 2))), (3, .int (nI ((0 + sq * sq) % P))), (2, .int (nI res)), (0, .ref h0)]) hx hb dX2_inverse_45 hl (by decide) rfl (fun ls hl => ?_)
          refine lv_goto (tgt := 12) hx hb dX2_inverse_47 (by decide) ?_
          exact ih_lp (left / 2) res ((0 + sq * sq) % P) _ _ _ (by omega) (by omega) i2 (Nat.mod_lt _ (by omega)) (by rw [← i4, pw_sq, show 2 * (left / 2) = left by omega]) (hP.sub [0] rfl) (hD.sub [0] (by decide) rfl) hS (lv_sub hl [0, 1, 2, 3] rfl)
        · skip
          refine lv_aload_n hx hb dX2_inverse_25 rfl (lv_at hl 3 rfl) ?_
          refine lv_iconst (v := (nI 0)) hx hb dX2_inverse_26 (by decide) ?_
          refine lv_iload_n hx hb dX2_inverse_27 rfl (lv_at hl 2 rfl) ?_
          refine lv_iload_n hx hb dX2_inverse_28 rfl (lv_at hl 1 rfl) ?_
          refine kd_VI (As := [.int (nI 0), .int (nI res), .int (nI sq)]) (rest := []) (Wr := []) ⟨hx, hb, hml, hown, hts⟩ (c_X2_plusProduct l D cI cJ h0 P 0 res sq g1 g2 (by omega) i2 i3) (cwV 3 hts gX2_inverse_X2_plusProduct rfl rfl rfl (by decide +kernel) ⟨Nat.le_of_ble_eq_true rfl, Nat.le_of_ble_eq_true rfl⟩) hK hP hD hS hA [0] [] rfl rfl (by decide) (by decide) 0 rfl rfl rfl rfl hl.1 (Nat.le_of_ble_eq_true rfl) dX2_inverse_29 ⟨Nat.le_of_ble_eq_true rfl, Nat.le_of_ble_eq_true rfl⟩ (fun _ H locs hP hD hS => ?_)
          have hP : va_P D vwCl [(h0, .inr (2, [.int (nI P)]))] H := hP
          have hD : va_D A [(h0, .inr (2, [.int (nI P)]))] := hD
          refine lv_istore_n (lv' := [(2, .int (nI ((0 + res * sq) % P))), (4, .int (nI left)), (3, .int (nI sq)), (0, .ref h0)]) hx hb dX2_inverse_32 rfl hl (by decide) rfl (fun ls hl => ?_)
          refine lv_aload_n hx hb dX2_inverse_33 rfl (lv_at hl 3 rfl) ?_
          refine lv_iconst (v := (nI 0)) hx hb dX2_inverse_34 (by decide) ?_
          refine lv_iload_n hx hb dX2_inverse_35 rfl (lv_at hl 2 rfl) ?_
          refine lv_iload_n hx hb dX2_inverse_36 rfl (lv_at hl 2 rfl) ?_
          refine kd_VI (As := [.int (nI 0), .int (nI sq), .int (nI sq)]) (rest := []) (Wr := []) ⟨hx, hb, hml, hown, hts⟩ (c_X2_plusProduct l D cI cJ h0 P 0 sq sq g1 g2 (by omega) i3 i3) (cwV 3 hts gX2_inverse_X2_plusProduct rfl rfl rfl (by decide +kernel) ⟨Nat.le_of_ble_eq_true rfl, Nat.le_of_ble_eq_true rfl⟩) hK hP hD hS hA [0] [] rfl rfl (by decide) (by decide) 0 rfl rfl rfl rfl hl.1 (Nat.le_of_ble_eq_true rfl) dX2_inverse_37 ⟨Nat.le_of_ble_eq_true rfl, Nat.le_of_ble_eq_true rfl⟩ (fun _ H locs hP hD hS => ?_)
          have hP : va_P D vwCl [(h0, .inr (2, [.int (nI P)]))] H := hP
          have hD : va_D A [(h0, .inr (2, [.int (nI P)]))] := hD
          refine lv_istore_n (lv' := [(3, .int (nI ((0 + sq * sq) % P))), (2, .int (nI ((0 + res * sq) % P))), (4, .int (nI left)), (0, .ref h0)]) hx hb dX2_inverse_40 rfl hl (by decide) rfl (fun ls hl => ?_)
          refine lv_iload hx hb dX2_inverse_41 (lv_at hl 2 rfl) ?_
          refine lv_iconst (v := (nI 2)) hx hb dX2_inverse_43 (by decide) ?_
          refine kd_div hx hb (by omega) (by omega) (by omega) dX2_inverse_44 ?_
          refine lv_istore (lv' := [(4, .int (nI (left / 2))), (3, .int (nI ((0 + sq * sq) % P))), (2, .int (nI ((0 + res * sq) % P))), (0, .ref h0)]) hx hb dX2_inverse_45 hl (by decide) rfl (fun ls hl => ?_)
          refine lv_goto (tgt := 12) hx hb dX2_inverse_47 (by decide) ?_
          exact ih_lp (left / 2) ((0 + res * sq) % P) ((0 + sq * sq) % P) _ _ _ (by omega) (by omega) (Nat.mod_lt _ (by omega)) (Nat.mod_lt _ (by omega)) (by rw [← i4, pw_odd, show 2 * (left / 2) + 1 = left by omega]) (hP.sub [0] rfl) (hD.sub [0] (by decide) rfl) hS (lv_sub hl [0, 1, 2, 3] rfl)
  exact lp P (P - 2) 1 a0 _ _ _ (by omega) (by omega) (by omega) g3 (by rw [Nat.one_mul]; rfl) (hP.sub [0] rfl) (hD.sub [0] (by decide) rfl) hS (lv_sub hl [0, 1, 2, 3] rfl)
