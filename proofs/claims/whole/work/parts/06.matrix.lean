set_option maxHeartbeats 4000000 in
set_option maxRecDepth 100000 in
/-- every place becomes v0 -/
theorem c_J7_fill_53178 (l : Launch) (D : va_G) (cI cJ : ClassId) (h0 n v0 : Nat) (f0 : Nat → Nat) (g1 : n < 2 ^ 31) : kd_MV (S := Unit) l yJ7_fill_53178 wsJ7_fill_53178 { frames := 0, cells := 0, slots := 0, locals := 0 } [.ref h0, .int (nI v0)] D vwCl cI cJ [(h0, kd_ar cI n f0)] (fun _ => [(h0, kd_ar cI n (fun _ => v0))]) 0 0 := by
  refine kd_enterV (cc := cJ7_fill_53178) (maxL := 4) (by decide) rfl (Nat.le_of_ble_eq_true rfl) ?_
  intro p e s m args below meth c A ls Q hx hb hr hts hown hlk hnm hml hP hK hD hA hS hl ret
  have hl : lv_has ls 4 [(0, .ref h0), (1, .int (nI v0))] := hl
  have hown : s.vm.findClass RJ7 = some m.cls := hown
  refine lv_iconst (v := (nI 0)) hx hb dJ7_fill_53178_0 (by decide) ?_
  refine lv_istore_n (lv' := [(2, .int (nI 0)), (0, .ref h0), (1, .int (nI v0))]) hx hb dJ7_fill_53178_1 rfl hl (by decide) rfl (fun ls hl => ?_)
  refine lv_aload_n hx hb dJ7_fill_53178_2 rfl (lv_at hl 1 rfl) ?_
  refine kd_alen hx hb hK hP 0 rfl dJ7_fill_53178_3 ?_
  refine lv_istore_n (lv' := [(3, .int (nI n)), (2, .int (nI 0)), (0, .ref h0), (1, .int (nI v0))]) hx hb dJ7_fill_53178_4 rfl hl (by decide) rfl (fun ls hl => ?_)
  have lp : ∀ (k_lp : Nat) (i : Nat) (x : Nat → Nat) (H : Heap) (locs : List Loc) (ls : Array Slot), (n - i < k_lp) → (i ≤ n) → (∀ j, j < i → x j = v0) → va_P D vwCl [(h0, kd_ar cI n x)] H → va_D A [(h0, kd_ar cI n x)] → va_S A s.heap H locs → lv_has ls 4 [(2, .int (nI i)), (3, .int (nI n)), (0, .ref h0), (1, .int (nI v0))] → W p l e { frames := 0, cells := 0, slots := 0, locals := 0 } s m args below meth c H locs 0 0 Q (F0 m 5 ls []) := by
    intro k_lp
    induction k_lp with
    | zero => intro i x H locs ls i1 i2 i3 hP hD hS hl; omega
    | succ k_lp ih_lp =>
      intro i x H locs ls i1 i2 i3 hP hD hS hl
      refine lv_iload_n hx hb dJ7_fill_53178_5 rfl (lv_at hl 0 rfl) ?_
      refine lv_iload_n hx hb dJ7_fill_53178_6 rfl (lv_at hl 1 rfl) ?_
      refine kd_ge (tgt := 20) hx hb dJ7_fill_53178_7 (by decide) (by omega) (by omega) (fun c_7 => ?_) (fun c_7 => ?_)
      · skip
        obtain ⟨hP, hD⟩ := kd_swap (g := (fun _ => v0)) hP hD 0 rfl (fun j hj => i3 j (by omega))
        have hP : va_P D vwCl [(h0, kd_ar cI n (fun _ => v0))] H := hP
        have hD : va_D A [(h0, kd_ar cI n (fun _ => v0))] := hD
        exact ret () _ _ _ _ dJ7_fill_53178_20 hS (hP.sub [0] rfl) (hD.sub [0] (by decide) rfl)
      · skip
        refine lv_aload_n hx hb dJ7_fill_53178_10 rfl (lv_at hl 2 rfl) ?_
        refine lv_iload_n hx hb dJ7_fill_53178_11 rfl (lv_at hl 0 rfl) ?_
        refine lv_iload_n hx hb dJ7_fill_53178_12 rfl (lv_at hl 3 rfl) ?_
        refine kd_ast hx hb hK hP hD hS 0 rfl i (by omega) (by omega) dJ7_fill_53178_13 (fun H locs hP hD hS => ?_)
        have hP : va_P D vwCl [(h0, kd_ar cI n (va_up x i v0))] H := hP
        have hD : va_D A [(h0, kd_ar cI n (va_up x i v0))] := hD
        refine lv_iinc (v := (nI (i + 1))) (lv' := [(2, .int (nI (i + 1))), (3, .int (nI n)), (0, .ref h0), (1, .int (nI v0))]) hx hb dJ7_fill_53178_14 hl (k := 0) rfl (nI_1 _) (by decide) rfl (fun ls hl => ?_)
        refine lv_goto (tgt := 5) hx hb dJ7_fill_53178_17 (by decide) ?_
        exact ih_lp (i + 1) (va_up x i v0) _ _ _ (by omega) (by omega) (lt_up i3) (hP.sub [0] rfl) (hD.sub [0] (by decide) rfl) hS (lv_sub hl [0, 1, 2, 3] rfl)
  exact lp (n + 1) 0 f0 _ _ _ (by omega) (by omega) (fun j hj => by omega) (hP.sub [0] rfl) (hD.sub [0] (by decide) rfl) hS (lv_sub hl [1, 0, 2, 3] rfl)

set_option maxHeartbeats 4000000 in
set_option maxRecDepth 100000 in
/-- the generator begins with 1 -/
theorem c_X0_init (l : Launch) (D : va_G) (cI cJ : ClassId) (h0 z0 : Nat) : kd_MV (S := Unit) l yX0_init wsX0_init { frames := 1, cells := 0, slots := 0, locals := 12 } [.ref h0] D vwCl cI cJ [(h0, .inr (0, [.int (nI z0)]))] (fun _ => [(h0, .inr (0, [.int (nI 1)]))]) 0 0 := by
  refine kd_enterV (cc := cX0_init) (maxL := 1) (by decide) rfl (Nat.le_of_ble_eq_true rfl) ?_
  intro p e s m args below meth c A ls Q hx hb hr hts hown hlk hnm hml hP hK hD hA hS hl ret
  have hl : lv_has ls 1 [(0, .ref h0)] := hl
  have hown : s.vm.findClass RX0 = some m.cls := hown
  have i_X0 : ∀ w ∈ wsX00, w ∈ wsX0_init := by decide +kernel
  have fl7 := hts (.fieldLink RX0 7 "KrylovDesk$Generator" "state" "I") (by decide +kernel)
  refine lv_aload_n hx hb dX0_init_0 rfl (lv_at hl 0 rfl) ?_
  refine W.objInit hx hb hown (hts (.methodLink RX0 1 objectInit) (by decide +kernel)) (hts (.instanceMethod objectInit) (by decide +kernel)) (hts (.code objectInit ⟨#[0xb1]⟩ 1 none) (List.mem_of_getElem? (i := 3) rfl)) rfl (by rw [hml]; exact hl.1) rfl dX0_init_1 (Nat.le_of_ble_eq_true rfl) (Nat.le_of_ble_eq_true rfl) ?_
  refine W.eq (g2 := F0 m 4 ls []) rfl ?_
  refine lv_aload_n hx hb dX0_init_4 rfl (lv_at hl 0 rfl) ?_
  refine lv_iconst (v := (nI 1)) hx hb dX0_init_5 (by decide) ?_
  refine va_put (D := D) (ci := 0) (v := .int (nI 1)) (ty := .int) (C := RX0) (T := TX0) (N := 1) hx hb hts i_X0 tyX0 tyX0_ok nmX0 hown hK hP hD hS 0 rfl rfl 0 (by decide) fl7 (fun _ h9 => h9) rfl (by decide +kernel) rfl rfl (Nat.le_of_ble_eq_true rfl) dX0_init_6 (fun H locs hP hD hS => ?_)
  have hP : va_P D vwCl [(h0, .inr (0, [.int (nI 1)]))] H := hP
  have hD : va_D A [(h0, .inr (0, [.int (nI 1)]))] := hD
  exact ret () _ _ _ _ dX0_init_9 hS (hP.sub [0] rfl) (hD.sub [0] (by decide) rfl)

set_option maxHeartbeats 4000000 in
set_option maxRecDepth 100000 in
/-- the lower 31 bits -/
theorem c_X0_restart (l : Launch) (D : va_G) (cI cJ : ClassId) (h0 g0 : Nat) (v0 : Int32) : kd_MV (S := Unit) l yX0_restart wsX0_restart { frames := 0, cells := 0, slots := 0, locals := 0 } [.ref h0, .int v0] D vwCl cI cJ [(h0, .inr (0, [.int (nI g0)]))] (fun _ => [(h0, .inr (0, [.int (nI (pSeed v0))]))]) 0 0 := by
  refine kd_enterV (cc := cX0_restart) (maxL := 2) (by decide) rfl (Nat.le_of_ble_eq_true rfl) ?_
  intro p e s m args below meth c A ls Q hx hb hr hts hown hlk hnm hml hP hK hD hA hS hl ret
  have hl : lv_has ls 2 [(0, .ref h0), (1, .int v0)] := hl
  have hown : s.vm.findClass RX0 = some m.cls := hown
  have kc13 := hts (.constant RX0 13 (2147483647)) (by decide +kernel)
  have i_X0 : ∀ w ∈ wsX00, w ∈ wsX0_restart := by decide +kernel
  have fl7 := hts (.fieldLink RX0 7 "KrylovDesk$Generator" "state" "I") (by decide +kernel)
  refine lv_aload_n hx hb dX0_restart_0 rfl (lv_at hl 0 rfl) ?_
  refine lv_iload_n hx hb dX0_restart_1 rfl (lv_at hl 1 rfl) ?_
  refine lv_ldc (v := (nI 2147483647)) hx hb hown kc13 dX0_restart_2 ?_
  refine lv_iand hx hb dX0_restart_4 ?_
  rw [pSeed_eq]
  refine va_put (D := D) (ci := 0) (v := .int (nI (pSeed v0))) (ty := .int) (C := RX0) (T := TX0) (N := 1) hx hb hts i_X0 tyX0 tyX0_ok nmX0 hown hK hP hD hS 0 rfl rfl 0 (by decide) fl7 (fun _ h9 => h9) rfl (by decide +kernel) rfl rfl (Nat.le_of_ble_eq_true rfl) dX0_restart_5 (fun H locs hP hD hS => ?_)
  have hP : va_P D vwCl [(h0, .inr (0, [.int (nI (pSeed v0))]))] H := hP
  have hD : va_D A [(h0, .inr (0, [.int (nI (pSeed v0))]))] := hD
  exact ret () _ _ _ _ dX0_restart_8 hS (hP.sub [0] rfl) (hD.sub [0] (by decide) rfl)

set_option maxHeartbeats 4000000 in
set_option maxRecDepth 100000 in
/-- the next number, cut off -/
theorem c_X0_next (l : Launch) (D : va_G) (cI cJ : ClassId) (h0 g0 : Nat) : kd_MI (S := Unit) l yX0_next wsX0_next { frames := 0, cells := 0, slots := 0, locals := 0 } [.ref h0] D vwCl cI cJ [(h0, .inr (0, [.int (nI g0)]))] (fun _ => nI (pGen g0 / 65536)) (fun _ => [(h0, .inr (0, [.int (nI (pGen g0))]))]) 0 0 := by
  refine kd_enterI (cc := cX0_next) (maxL := 1) (by decide) rfl (Nat.le_of_ble_eq_true rfl) ?_
  intro p e s m args below meth c A ls Q hx hb hr hts hown hlk hnm hml hP hK hD hA hS hl ret
  have hl : lv_has ls 1 [(0, .ref h0)] := hl
  have hown : s.vm.findClass RX0 = some m.cls := hown
  have kc14 := hts (.constant RX0 14 (1103515245)) (by decide +kernel)
  have i_X0 : ∀ w ∈ wsX00, w ∈ wsX0_next := by decide +kernel
  have fl7 := hts (.fieldLink RX0 7 "KrylovDesk$Generator" "state" "I") (by decide +kernel)
  have kc13 := hts (.constant RX0 13 (2147483647)) (by decide +kernel)
  have kc15 := hts (.constant RX0 15 (65536)) (by decide +kernel)
  refine lv_aload_n hx hb dX0_next_0 rfl (lv_at hl 0 rfl) ?_
  refine lv_ldc (v := (nI 1103515245)) hx hb hown kc14 dX0_next_1 ?_
  refine lv_aload_n hx hb dX0_next_3 rfl (lv_at hl 0 rfl) ?_
  refine va_get (D := D) (ci := 0) (v := .int (nI g0)) (C := RX0) (T := TX0) (N := 1) hx hb hts i_X0 hown hK hP 0 rfl rfl 0 (by decide) fl7 (fun _ h9 => h9) rfl dX0_next_4 ?_
  refine kd_mul hx hb dX0_next_7 ?_
  refine lv_sipush (v := (nI 12345)) hx hb dX0_next_8 (by decide) ?_
  refine kd_add hx hb dX0_next_11 ?_
  refine lv_ldc (v := (nI 2147483647)) hx hb hown kc13 dX0_next_12 ?_
  refine lv_iand hx hb dX0_next_14 ?_
  rw [pGen_eq]
  refine va_put (D := D) (ci := 0) (v := .int (nI (pGen g0))) (ty := .int) (C := RX0) (T := TX0) (N := 1) hx hb hts i_X0 tyX0 tyX0_ok nmX0 hown hK hP hD hS 0 rfl rfl 0 (by decide) fl7 (fun _ h9 => h9) rfl (by decide +kernel) rfl rfl (Nat.le_of_ble_eq_true rfl) dX0_next_15 (fun H locs hP hD hS => ?_)
  have hP : va_P D vwCl [(h0, .inr (0, [.int (nI (pGen g0))]))] H := hP
  have hD : va_D A [(h0, .inr (0, [.int (nI (pGen g0))]))] := hD
  refine lv_aload_n hx hb dX0_next_18 rfl (lv_at hl 0 rfl) ?_
  refine va_get (D := D) (ci := 0) (v := .int (nI (pGen g0))) (C := RX0) (T := TX0) (N := 1) hx hb hts i_X0 hown hK hP 0 rfl rfl 0 (by decide) fl7 (fun _ h9 => h9) rfl dX0_next_19 ?_
  refine lv_ldc (v := (nI 65536)) hx hb hown kc15 dX0_next_22 ?_
  refine kd_div hx hb (pGen_lt g0) (by omega) (by omega) dX0_next_24 ?_
  exact ret () _ _ _ _ _ dX0_next_25 rfl hS (hP.sub [0] rfl) (hD.sub [0] (by decide) rfl)

set_option maxHeartbeats 4000000 in
set_option maxRecDepth 100000 in
/-- whether there is no room -/
theorem c_X1_isFull (l : Launch) (D : va_G) (cI cJ : ClassId) (h0 aM aR aC aV aS room held prod : Nat) (vals : Nat → Nat) (g4 : room ≤ 100) (g5 : held ≤ room) : kd_MI (S := Unit) l yX1_isFull wsX1_isFull { frames := 0, cells := 0, slots := 0, locals := 0 } [.ref h0] D vwCl cI cJ [(h0, .inr (1, [.ref aM, .ref aR, .ref aC, .ref aV, .ref aS, .int (nI held), .int (nI prod)])), (aV, kd_ar cI room vals)] (fun _ => nI (pB (room ≤ held))) (fun _ => [(h0, .inr (1, [.ref aM, .ref aR, .ref aC, .ref aV, .ref aS, .int (nI held), .int (nI prod)])), (aV, kd_ar cI room vals)]) 0 0 := by
  refine kd_enterZ (cc := cX1_isFull) (maxL := 1) (by decide) rfl (Nat.le_of_ble_eq_true rfl) (fun _ => pB_01 _) ?_
  intro p e s m args below meth c A ls Q hx hb hr hts hown hlk hnm hml hP hK hD hA hS hl ret
  have hl : lv_has ls 1 [(0, .ref h0)] := hl
  have hown : s.vm.findClass RX1 = some m.cls := hown
  have i_X1 : ∀ w ∈ wsX10, w ∈ wsX1_isFull := by decide +kernel
  have fl26 := hts (.fieldLink RX1 26 "KrylovDesk$Matrix" "held" "I") (by decide +kernel)
  have fl20 := hts (.fieldLink RX1 20 "KrylovDesk$Matrix" "values" "[I") (by decide +kernel)
  refine lv_aload_n hx hb dX1_isFull_0 rfl (lv_at hl 0 rfl) ?_
  refine va_get (D := D) (ci := 1) (v := .int (nI held)) (C := RX1) (T := TX1) (N := 7) hx hb hts i_X1 hown hK hP 0 rfl rfl 5 (by decide) fl26 (fun _ h9 => h9) rfl dX1_isFull_1 ?_
  refine lv_aload_n hx hb dX1_isFull_4 rfl (lv_at hl 0 rfl) ?_
  refine va_get (D := D) (ci := 1) (v := .ref aV) (C := RX1) (T := TX1) (N := 7) hx hb hts i_X1 hown hK hP 0 rfl rfl 3 (by decide) fl20 (fun _ h9 => h9) rfl dX1_isFull_5 ?_
  refine kd_alen hx hb hK hP 1 rfl dX1_isFull_8 ?_
  refine kd_lt (tgt := 16) hx hb dX1_isFull_9 (by decide) (by omega) (by omega) (fun c_9 => ?_) (fun c_9 => ?_)
  · skip
    refine lv_iconst (v := (nI 0)) hx hb dX1_isFull_16 (by decide) ?_
    exact ret () _ _ _ _ _ dX1_isFull_17 (by first | rw [pB_t (by omega)] | rw [pB_f (by omega)]) hS (hP.sub [0, 1] rfl) (hD.sub [0, 1] (by decide) rfl)
  · skip
    refine lv_iconst (v := (nI 1)) hx hb dX1_isFull_12 (by decide) ?_
    refine lv_goto (tgt := 17) hx hb dX1_isFull_13 (by decide) ?_
    exact ret () _ _ _ _ _ dX1_isFull_17 (by first | rw [pB_t (by omega)] | rw [pB_f (by omega)]) hS (hP.sub [0, 1] rfl) (hD.sub [0, 1] (by decide) rfl)

set_option maxHeartbeats 4000000 in
set_option maxRecDepth 100000 in
/-- one more entry -/
theorem c_X1_put (l : Launch) (D : va_G) (cI cJ : ClassId) (h0 aM aR aC aV aS : Nat) (n room held prod : Nat) (rows cols vals : Nat → Nat) (r0 c0 v0 : Nat) (g4 : room ≤ 100) (g5 : held < room) : kd_MV (S := Unit) l yX1_put wsX1_put { frames := 0, cells := 0, slots := 0, locals := 0 } [.ref h0, .int (nI r0), .int (nI c0), .int (nI v0)] D vwCl cI cJ [(h0, .inr (1, [.ref aM, .ref aR, .ref aC, .ref aV, .ref aS, .int (nI held), .int (nI prod)])), (aR, kd_ar cI room rows), (aC, kd_ar cI room cols), (aV, kd_ar cI room vals)] (fun _ => [(h0, .inr (1, [.ref aM, .ref aR, .ref aC, .ref aV, .ref aS, .int (nI (held + 1)), .int (nI prod)])), (aR, kd_ar cI room (va_up rows held r0)), (aC, kd_ar cI room (va_up cols held c0)), (aV, kd_ar cI room (va_up vals held v0))]) 0 0 := by
  refine kd_enterV (cc := cX1_put) (maxL := 4) (by decide) rfl (Nat.le_of_ble_eq_true rfl) ?_
  intro p e s m args below meth c A ls Q hx hb hr hts hown hlk hnm hml hP hK hD hA hS hl ret
  have hl : lv_has ls 4 [(0, .ref h0), (1, .int (nI r0)), (2, .int (nI c0)), (3, .int (nI v0))] := hl
  have hown : s.vm.findClass RX1 = some m.cls := hown
  have i_X1 : ∀ w ∈ wsX10, w ∈ wsX1_put := by decide +kernel
  have fl13 := hts (.fieldLink RX1 13 "KrylovDesk$Matrix" "rows" "[I") (by decide +kernel)
  have fl26 := hts (.fieldLink RX1 26 "KrylovDesk$Matrix" "held" "I") (by decide +kernel)
  have fl17 := hts (.fieldLink RX1 17 "KrylovDesk$Matrix" "columns" "[I") (by decide +kernel)
  have fl20 := hts (.fieldLink RX1 20 "KrylovDesk$Matrix" "values" "[I") (by decide +kernel)
  refine lv_aload_n hx hb dX1_put_0 rfl (lv_at hl 0 rfl) ?_
  refine va_get (D := D) (ci := 1) (v := .ref aR) (C := RX1) (T := TX1) (N := 7) hx hb hts i_X1 hown hK hP 0 rfl rfl 1 (by decide) fl13 (fun _ h9 => h9) rfl dX1_put_1 ?_
  refine lv_aload_n hx hb dX1_put_4 rfl (lv_at hl 0 rfl) ?_
  refine va_get (D := D) (ci := 1) (v := .int (nI held)) (C := RX1) (T := TX1) (N := 7) hx hb hts i_X1 hown hK hP 0 rfl rfl 5 (by decide) fl26 (fun _ h9 => h9) rfl dX1_put_5 ?_
  refine lv_iload_n hx hb dX1_put_8 rfl (lv_at hl 1 rfl) ?_
  refine kd_ast hx hb hK hP hD hS 1 rfl held (by omega) (by omega) dX1_put_9 (fun H locs hP hD hS => ?_)
  have hP : va_P D vwCl [(h0, .inr (1, [.ref aM, .ref aR, .ref aC, .ref aV, .ref aS, .int (nI held), .int (nI prod)])), (aR, kd_ar cI room (va_up rows held r0)), (aC, kd_ar cI room cols), (aV, kd_ar cI room vals)] H := hP
  have hD : va_D A [(h0, .inr (1, [.ref aM, .ref aR, .ref aC, .ref aV, .ref aS, .int (nI held), .int (nI prod)])), (aR, kd_ar cI room (va_up rows held r0)), (aC, kd_ar cI room cols), (aV, kd_ar cI room vals)] := hD
  refine lv_aload_n hx hb dX1_put_10 rfl (lv_at hl 0 rfl) ?_
  refine va_get (D := D) (ci := 1) (v := .ref aC) (C := RX1) (T := TX1) (N := 7) hx hb hts i_X1 hown hK hP 0 rfl rfl 2 (by decide) fl17 (fun _ h9 => h9) rfl dX1_put_11 ?_
  refine lv_aload_n hx hb dX1_put_14 rfl (lv_at hl 0 rfl) ?_
  refine va_get (D := D) (ci := 1) (v := .int (nI held)) (C := RX1) (T := TX1) (N := 7) hx hb hts i_X1 hown hK hP 0 rfl rfl 5 (by decide) fl26 (fun _ h9 => h9) rfl dX1_put_15 ?_
  refine lv_iload_n hx hb dX1_put_18 rfl (lv_at hl 2 rfl) ?_
  refine kd_ast hx hb hK hP hD hS 2 rfl held (by omega) (by omega) dX1_put_19 (fun H locs hP hD hS => ?_)
  have hP : va_P D vwCl [(h0, .inr (1, [.ref aM, .ref aR, .ref aC, .ref aV, .ref aS, .int (nI held), .int (nI prod)])), (aR, kd_ar cI room (va_up rows held r0)), (aC, kd_ar cI room (va_up cols held c0)), (aV, kd_ar cI room vals)] H := hP
  have hD : va_D A [(h0, .inr (1, [.ref aM, .ref aR, .ref aC, .ref aV, .ref aS, .int (nI held), .int (nI prod)])), (aR, kd_ar cI room (va_up rows held r0)), (aC, kd_ar cI room (va_up cols held c0)), (aV, kd_ar cI room vals)] := hD
  refine lv_aload_n hx hb dX1_put_20 rfl (lv_at hl 0 rfl) ?_
  refine va_get (D := D) (ci := 1) (v := .ref aV) (C := RX1) (T := TX1) (N := 7) hx hb hts i_X1 hown hK hP 0 rfl rfl 3 (by decide) fl20 (fun _ h9 => h9) rfl dX1_put_21 ?_
  refine lv_aload_n hx hb dX1_put_24 rfl (lv_at hl 0 rfl) ?_
  refine va_get (D := D) (ci := 1) (v := .int (nI held)) (C := RX1) (T := TX1) (N := 7) hx hb hts i_X1 hown hK hP 0 rfl rfl 5 (by decide) fl26 (fun _ h9 => h9) rfl dX1_put_25 ?_
  refine lv_iload_n hx hb dX1_put_28 rfl (lv_at hl 3 rfl) ?_
  refine kd_ast hx hb hK hP hD hS 3 rfl held (by omega) (by omega) dX1_put_29 (fun H locs hP hD hS => ?_)
  have hP : va_P D vwCl [(h0, .inr (1, [.ref aM, .ref aR, .ref aC, .ref aV, .ref aS, .int (nI held), .int (nI prod)])), (aR, kd_ar cI room (va_up rows held r0)), (aC, kd_ar cI room (va_up cols held c0)), (aV, kd_ar cI room (va_up vals held v0))] H := hP
  have hD : va_D A [(h0, .inr (1, [.ref aM, .ref aR, .ref aC, .ref aV, .ref aS, .int (nI held), .int (nI prod)])), (aR, kd_ar cI room (va_up rows held r0)), (aC, kd_ar cI room (va_up cols held c0)), (aV, kd_ar cI room (va_up vals held v0))] := hD
  refine lv_aload_n hx hb dX1_put_30 rfl (lv_at hl 0 rfl) ?_
  refine lv_dup hx hb dX1_put_31 rfl ?_
  refine va_get (D := D) (ci := 1) (v := .int (nI held)) (C := RX1) (T := TX1) (N := 7) hx hb hts i_X1 hown hK hP 0 rfl rfl 5 (by decide) fl26 (fun _ h9 => h9) rfl dX1_put_32 ?_
  refine lv_iconst (v := (nI 1)) hx hb dX1_put_35 (by decide) ?_
  refine kd_add hx hb dX1_put_36 ?_
  refine va_put (D := D) (ci := 1) (v := .int (nI (held + 1))) (ty := .int) (C := RX1) (T := TX1) (N := 7) hx hb hts i_X1 tyX1 tyX1_ok nmX1 hown hK hP hD hS 0 rfl rfl 5 (by decide) fl26 (fun _ h9 => h9) rfl (by decide +kernel) rfl rfl (Nat.le_of_ble_eq_true rfl) dX1_put_37 (fun H locs hP hD hS => ?_)
  have hP : va_P D vwCl [(h0, .inr (1, [.ref aM, .ref aR, .ref aC, .ref aV, .ref aS, .int (nI (held + 1)), .int (nI prod)])), (aR, kd_ar cI room (va_up rows held r0)), (aC, kd_ar cI room (va_up cols held c0)), (aV, kd_ar cI room (va_up vals held v0))] H := hP
  have hD : va_D A [(h0, .inr (1, [.ref aM, .ref aR, .ref aC, .ref aV, .ref aS, .int (nI (held + 1)), .int (nI prod)])), (aR, kd_ar cI room (va_up rows held r0)), (aC, kd_ar cI room (va_up cols held c0)), (aV, kd_ar cI room (va_up vals held v0))] := hD
  exact ret () _ _ _ _ dX1_put_40 hS (hP.sub [0, 1, 2, 3] rfl) (hD.sub [0, 1, 2, 3] (by decide) rfl)

set_option maxHeartbeats 4000000 in
set_option maxRecDepth 100000 in
/-- a product: the vector becomes the matrix times it -/
theorem c_X1_apply (l : Launch) (D : va_G) (cI cJ : ClassId) (h0 aM aR aC aV aS : Nat) (P n room held prod : Nat) (rows cols vals sums : Nat → Nat) (aX : Nat) (vec : Nat → Nat) (g1 : 2 ≤ P) (g2 : P ≤ 46337) (g3 : n ≤ 16) (g4 : room ≤ 100) (g5 : held ≤ room) (g6 : ∀ i, i < held → rows i < n) (g9 : ∀ i, i < held → cols i < n) (g7 : ∀ i, i < held → vals i < P) (g8 : ∀ j, j < n → vec j < P) : kd_MV (S := Unit) l yX1_apply wsX1_apply { frames := 1, cells := 0, slots := 0, locals := 64 } [.ref h0, .ref aX] D vwCl cI cJ [(h0, .inr (1, [.ref aM, .ref aR, .ref aC, .ref aV, .ref aS, .int (nI held), .int (nI prod)])), (aM, .inr (2, [.int (nI P)])), (aR, kd_ar cI room rows), (aC, kd_ar cI room cols), (aV, kd_ar cI room vals), (aS, kd_ar cI n sums), (aX, kd_ar cI n vec)] (fun _ => [(h0, .inr (1, [.ref aM, .ref aR, .ref aC, .ref aV, .ref aS, .int (nI held), .int (nI (prod + 1))])), (aM, .inr (2, [.int (nI P)])), (aR, kd_ar cI room rows), (aC, kd_ar cI room cols), (aV, kd_ar cI room vals), (aS, kd_ar cI n (pAcc P rows cols vals vec held)), (aX, kd_ar cI n (pAcc P rows cols vals vec held))]) 0 0 := by
  refine kd_enterV (cc := cX1_apply) (maxL := 4) (by decide) rfl (Nat.le_of_ble_eq_true rfl) ?_
  intro p e s m args below meth c A ls Q hx hb hr hts hown hlk hnm hml hP hK hD hA hS hl ret
  have hl : lv_has ls 4 [(0, .ref h0), (1, .ref aX)] := hl
  have hown : s.vm.findClass RX1 = some m.cls := hown
  have i_X1 : ∀ w ∈ wsX10, w ∈ wsX1_apply := by decide +kernel
  have fl30 := hts (.fieldLink RX1 30 "KrylovDesk$Matrix" "productsMade" "I") (by decide +kernel)
  have fl23 := hts (.fieldLink RX1 23 "KrylovDesk$Matrix" "sums" "[I") (by decide +kernel)
  have fl26 := hts (.fieldLink RX1 26 "KrylovDesk$Matrix" "held" "I") (by decide +kernel)
  have fl13 := hts (.fieldLink RX1 13 "KrylovDesk$Matrix" "rows" "[I") (by decide +kernel)
  have fl7 := hts (.fieldLink RX1 7 "KrylovDesk$Matrix" "modulus" "LKrylovDesk$Modulus;") (by decide +kernel)
  have fl20 := hts (.fieldLink RX1 20 "KrylovDesk$Matrix" "values" "[I") (by decide +kernel)
  have fl17 := hts (.fieldLink RX1 17 "KrylovDesk$Matrix" "columns" "[I") (by decide +kernel)
  refine lv_aload_n hx hb dX1_apply_0 rfl (lv_at hl 0 rfl) ?_
  refine lv_dup hx hb dX1_apply_1 rfl ?_
  refine va_get (D := D) (ci := 1) (v := .int (nI prod)) (C := RX1) (T := TX1) (N := 7) hx hb hts i_X1 hown hK hP 0 rfl rfl 6 (by decide) fl30 (fun _ h9 => h9) rfl dX1_apply_2 ?_
  refine lv_iconst (v := (nI 1)) hx hb dX1_apply_5 (by decide) ?_
  refine kd_add hx hb dX1_apply_6 ?_
  refine va_put (D := D) (ci := 1) (v := .int (nI (prod + 1))) (ty := .int) (C := RX1) (T := TX1) (N := 7) hx hb hts i_X1 tyX1 tyX1_ok nmX1 hown hK hP hD hS 0 rfl rfl 6 (by decide) fl30 (fun _ h9 => h9) rfl (by decide +kernel) rfl rfl (Nat.le_of_ble_eq_true rfl) dX1_apply_7 (fun H locs hP hD hS => ?_)
  have hP : va_P D vwCl [(h0, .inr (1, [.ref aM, .ref aR, .ref aC, .ref aV, .ref aS, .int (nI held), .int (nI (prod + 1))])), (aM, .inr (2, [.int (nI P)])), (aR, kd_ar cI room rows), (aC, kd_ar cI room cols), (aV, kd_ar cI room vals), (aS, kd_ar cI n sums), (aX, kd_ar cI n vec)] H := hP
  have hD : va_D A [(h0, .inr (1, [.ref aM, .ref aR, .ref aC, .ref aV, .ref aS, .int (nI held), .int (nI (prod + 1))])), (aM, .inr (2, [.int (nI P)])), (aR, kd_ar cI room rows), (aC, kd_ar cI room cols), (aV, kd_ar cI room vals), (aS, kd_ar cI n sums), (aX, kd_ar cI n vec)] := hD
  refine lv_aload_n hx hb dX1_apply_10 rfl (lv_at hl 0 rfl) ?_
  refine va_get (D := D) (ci := 1) (v := .ref aS) (C := RX1) (T := TX1) (N := 7) hx hb hts i_X1 hown hK hP 0 rfl rfl 4 (by decide) fl23 (fun _ h9 => h9) rfl dX1_apply_11 ?_
  refine lv_iconst (v := (nI 0)) hx hb dX1_apply_14 (by decide) ?_
  refine kd_SV (As := [.ref aS, .int (nI 0)]) (rest := []) (Wr := [(h0, .inr (1, [.ref aM, .ref aR, .ref aC, .ref aV, .ref aS, .int (nI held), .int (nI (prod + 1))])), (aM, .inr (2, [.int (nI P)])), (aR, kd_ar cI room rows), (aC, kd_ar cI room cols), (aV, kd_ar cI room vals), (aX, kd_ar cI n vec)]) ⟨hx, hb, hml, hown, hts⟩ (c_J7_fill_53178 l D cI cJ aS n 0 sums (by omega)) (va_cwS 2 hts gX1_apply_J7_fill_53178 rfl rfl rfl (by decide +kernel) ⟨Nat.le_of_ble_eq_true rfl, Nat.le_of_ble_eq_true rfl⟩) hK hP hD hS hA [5] [0, 1, 2, 3, 4, 6] rfl rfl (by decide) (by decide) rfl rfl hl.1 (Nat.le_of_ble_eq_true rfl) dX1_apply_15 ⟨Nat.le_of_ble_eq_true rfl, Nat.le_of_ble_eq_true rfl⟩ (fun _ H locs hP hD hS => ?_)
  have hP : va_P D vwCl [(h0, .inr (1, [.ref aM, .ref aR, .ref aC, .ref aV, .ref aS, .int (nI held), .int (nI (prod + 1))])), (aM, .inr (2, [.int (nI P)])), (aR, kd_ar cI room rows), (aC, kd_ar cI room cols), (aV, kd_ar cI room vals), (aX, kd_ar cI n vec), (aS, kd_ar cI n (pAcc P rows cols vals vec 0))] H := hP
  have hD : va_D A [(h0, .inr (1, [.ref aM, .ref aR, .ref aC, .ref aV, .ref aS, .int (nI held), .int (nI (prod + 1))])), (aM, .inr (2, [.int (nI P)])), (aR, kd_ar cI room rows), (aC, kd_ar cI room cols), (aV, kd_ar cI room vals), (aX, kd_ar cI n vec), (aS, kd_ar cI n (pAcc P rows cols vals vec 0))] := hD
  refine lv_iconst (v := (nI 0)) hx hb dX1_apply_18 (by decide) ?_
  refine lv_istore_n (lv' := [(2, .int (nI 0)), (0, .ref h0), (1, .ref aX)]) hx hb dX1_apply_19 rfl hl (by decide) rfl (fun ls hl => ?_)
  have lp : ∀ (k_lp : Nat) (i : Nat) (H : Heap) (locs : List Loc) (ls : Array Slot), (held - i < k_lp) → (i ≤ held) → va_P D vwCl [(h0, .inr (1, [.ref aM, .ref aR, .ref aC, .ref aV, .ref aS, .int (nI held), .int (nI (prod + 1))])), (aM, .inr (2, [.int (nI P)])), (aR, kd_ar cI room rows), (aC, kd_ar cI room cols), (aV, kd_ar cI room vals), (aS, kd_ar cI n (pAcc P rows cols vals vec i)), (aX, kd_ar cI n vec)] H → va_D A [(h0, .inr (1, [.ref aM, .ref aR, .ref aC, .ref aV, .ref aS, .int (nI held), .int (nI (prod + 1))])), (aM, .inr (2, [.int (nI P)])), (aR, kd_ar cI room rows), (aC, kd_ar cI room cols), (aV, kd_ar cI room vals), (aS, kd_ar cI n (pAcc P rows cols vals vec i)), (aX, kd_ar cI n vec)] → va_S A s.heap H locs → lv_has ls 4 [(2, .int (nI i)), (0, .ref h0), (1, .ref aX)] → W p l e { frames := 1, cells := 0, slots := 0, locals := 64 } s m args below meth c H locs 0 0 Q (F0 m 20 ls []) := by
    intro k_lp
    induction k_lp with
    | zero => intro i H locs ls i1 i2 hP hD hS hl; omega
    | succ k_lp ih_lp =>
      intro i H locs ls i1 i2 hP hD hS hl
      refine lv_iload_n hx hb dX1_apply_20 rfl (lv_at hl 0 rfl) ?_
      refine lv_aload_n hx hb dX1_apply_21 rfl (lv_at hl 1 rfl) ?_
      refine va_get (D := D) (ci := 1) (v := .int (nI held)) (C := RX1) (T := TX1) (N := 7) hx hb hts i_X1 hown hK hP 0 rfl rfl 5 (by decide) fl26 (fun _ h9 => h9) rfl dX1_apply_22 ?_
      refine kd_ge (tgt := 74) hx hb dX1_apply_25 (by decide) (by omega) (by omega) (fun c_25 => ?_) (fun c_25 => ?_)
      · skip
        refine lv_aload_n hx hb dX1_apply_74 rfl (lv_at hl 1 rfl) ?_
        refine va_get (D := D) (ci := 1) (v := .ref aS) (C := RX1) (T := TX1) (N := 7) hx hb hts i_X1 hown hK hP 0 rfl rfl 4 (by decide) fl23 (fun _ h9 => h9) rfl dX1_apply_75 ?_
        refine lv_iconst (v := (nI 0)) hx hb dX1_apply_78 (by decide) ?_
        refine lv_aload_n hx hb dX1_apply_79 rfl (lv_at hl 2 rfl) ?_
        refine lv_iconst (v := (nI 0)) hx hb dX1_apply_80 (by decide) ?_
        refine lv_aload_n hx hb dX1_apply_81 rfl (lv_at hl 1 rfl) ?_
        refine va_get (D := D) (ci := 1) (v := .ref aS) (C := RX1) (T := TX1) (N := 7) hx hb hts i_X1 hown hK hP 0 rfl rfl 4 (by decide) fl23 (fun _ h9 => h9) rfl dX1_apply_82 ?_
        refine kd_alen hx hb hK hP 5 rfl dX1_apply_85 ?_
        refine kd_copy hx hb (hml.trans hl.1.symm) hown (hts (.methodLink RX1 45 arraycopyName) (by decide +kernel)) (hts (.native arraycopyName) (by decide +kernel)) (hts (.static arraycopyName) (by decide +kernel)) (hts (.initialized "java/lang/System") (by decide +kernel)) hK hP hD hS 5 6 rfl rfl (by omega) (by omega) (by omega) (Nat.le_of_ble_eq_true rfl) (by decide) dX1_apply_86 (fun H locs hP hD hS => ?_)
        have hP : va_P D vwCl [(h0, .inr (1, [.ref aM, .ref aR, .ref aC, .ref aV, .ref aS, .int (nI held), .int (nI (prod + 1))])), (aM, .inr (2, [.int (nI P)])), (aR, kd_ar cI room rows), (aC, kd_ar cI room cols), (aV, kd_ar cI room vals), (aS, kd_ar cI n (pAcc P rows cols vals vec i)), (aX, kd_ar cI n (va_cpy (pAcc P rows cols vals vec i) vec 0 0 n))] H := hP
        have hD : va_D A [(h0, .inr (1, [.ref aM, .ref aR, .ref aC, .ref aV, .ref aS, .int (nI held), .int (nI (prod + 1))])), (aM, .inr (2, [.int (nI P)])), (aR, kd_ar cI room rows), (aC, kd_ar cI room cols), (aV, kd_ar cI room vals), (aS, kd_ar cI n (pAcc P rows cols vals vec i)), (aX, kd_ar cI n (va_cpy (pAcc P rows cols vals vec i) vec 0 0 n))] := hD
        obtain ⟨hP, hD⟩ := kd_swap (g := (pAcc P rows cols vals vec i)) hP hD 6 rfl (fun j hj => cpy_all hj)
        have hP : va_P D vwCl [(h0, .inr (1, [.ref aM, .ref aR, .ref aC, .ref aV, .ref aS, .int (nI held), .int (nI (prod + 1))])), (aM, .inr (2, [.int (nI P)])), (aR, kd_ar cI room rows), (aC, kd_ar cI room cols), (aV, kd_ar cI room vals), (aS, kd_ar cI n (pAcc P rows cols vals vec i)), (aX, kd_ar cI n (pAcc P rows cols vals vec i))] H := hP
        have hD : va_D A [(h0, .inr (1, [.ref aM, .ref aR, .ref aC, .ref aV, .ref aS, .int (nI held), .int (nI (prod + 1))])), (aM, .inr (2, [.int (nI P)])), (aR, kd_ar cI room rows), (aC, kd_ar cI room cols), (aV, kd_ar cI room vals), (aS, kd_ar cI n (pAcc P rows cols vals vec i)), (aX, kd_ar cI n (pAcc P rows cols vals vec i))] := hD
        have e9 : i = held := by omega
        rw [e9] at hP hD
        exact ret () _ _ _ _ dX1_apply_89 hS (hP.sub [0, 1, 2, 3, 4, 5, 6] rfl) (hD.sub [0, 1, 2, 3, 4, 5, 6] (by decide) rfl)
      · skip
        refine lv_aload_n hx hb dX1_apply_28 rfl (lv_at hl 1 rfl) ?_
        refine va_get (D := D) (ci := 1) (v := .ref aR) (C := RX1) (T := TX1) (N := 7) hx hb hts i_X1 hown hK hP 0 rfl rfl 1 (by decide) fl13 (fun _ h9 => h9) rfl dX1_apply_29 ?_
        refine lv_iload_n hx hb dX1_apply_32 rfl (lv_at hl 0 rfl) ?_
        refine kd_ald hx hb hK hP 2 rfl i (by omega) (by omega) dX1_apply_33 ?_
        refine lv_istore_n (lv' := [(3, .int (nI (rows i))), (2, .int (nI i)), (0, .ref h0), (1, .ref aX)]) hx hb dX1_apply_34 rfl hl (by decide) rfl (fun ls hl => ?_)
        refine lv_aload_n hx hb dX1_apply_35 rfl (lv_at hl 2 rfl) ?_
        refine va_get (D := D) (ci := 1) (v := .ref aS) (C := RX1) (T := TX1) (N := 7) hx hb hts i_X1 hown hK hP 0 rfl rfl 4 (by decide) fl23 (fun _ h9 => h9) rfl dX1_apply_36 ?_
        refine lv_iload_n hx hb dX1_apply_39 rfl (lv_at hl 0 rfl) ?_
        refine lv_aload_n hx hb dX1_apply_40 rfl (lv_at hl 2 rfl) ?_
        refine va_get (D := D) (ci := 1) (v := .ref aM) (C := RX1) (T := TX1) (N := 7) hx hb hts i_X1 hown hK hP 0 rfl rfl 0 (by decide) fl7 (fun _ h9 => h9) rfl dX1_apply_41 ?_
        refine lv_aload_n hx hb dX1_apply_44 rfl (lv_at hl 2 rfl) ?_
        refine va_get (D := D) (ci := 1) (v := .ref aS) (C := RX1) (T := TX1) (N := 7) hx hb hts i_X1 hown hK hP 0 rfl rfl 4 (by decide) fl23 (fun _ h9 => h9) rfl dX1_apply_45 ?_
        refine lv_iload_n hx hb dX1_apply_48 rfl (lv_at hl 0 rfl) ?_
        refine kd_ald hx hb hK hP 5 rfl (rows i) (g6 i (by omega)) (by omega) dX1_apply_49 ?_
        refine lv_aload_n hx hb dX1_apply_50 rfl (lv_at hl 2 rfl) ?_
        refine va_get (D := D) (ci := 1) (v := .ref aV) (C := RX1) (T := TX1) (N := 7) hx hb hts i_X1 hown hK hP 0 rfl rfl 3 (by decide) fl20 (fun _ h9 => h9) rfl dX1_apply_51 ?_
        refine lv_iload_n hx hb dX1_apply_54 rfl (lv_at hl 1 rfl) ?_
        refine kd_ald hx hb hK hP 4 rfl i (by omega) (by omega) dX1_apply_55 ?_
        refine lv_aload_n hx hb dX1_apply_56 rfl (lv_at hl 3 rfl) ?_
        refine lv_aload_n hx hb dX1_apply_57 rfl (lv_at hl 2 rfl) ?_
        refine va_get (D := D) (ci := 1) (v := .ref aC) (C := RX1) (T := TX1) (N := 7) hx hb hts i_X1 hown hK hP 0 rfl rfl 2 (by decide) fl17 (fun _ h9 => h9) rfl dX1_apply_58 ?_
        refine lv_iload_n hx hb dX1_apply_61 rfl (lv_at hl 1 rfl) ?_
        refine kd_ald hx hb hK hP 3 rfl i (by omega) (by omega) dX1_apply_62 ?_
        refine kd_ald hx hb hK hP 6 rfl (cols i) (g9 i (by omega)) (by omega) dX1_apply_63 ?_
        refine kd_VI (As := [.int (nI ((pAcc P rows cols vals vec i) (rows i))), .int (nI (vals i)), .int (nI (vec (cols i)))]) (rest := [.int (nI (rows i)), .ref aS]) (Wr := [(h0, .inr (1, [.ref aM, .ref aR, .ref aC, .ref aV, .ref aS, .int (nI held), .int (nI (prod + 1))])), (aR, kd_ar cI room rows), (aC, kd_ar cI room cols), (aV, kd_ar cI room vals), (aS, kd_ar cI n (pAcc P rows cols vals vec i)), (aX, kd_ar cI n vec)]) ⟨hx, hb, hml, hown, hts⟩ (c_X2_plusProduct l D cI cJ aM P ((pAcc P rows cols vals vec i) (rows i)) (vals i) (vec (cols i)) g1 g2 (pAcc_lt (by omega) _ _ _ _ _ _) (g7 i (by omega)) (g8 _ (g9 i (by omega)))) (cwV 3 hts gX1_apply_X2_plusProduct rfl rfl rfl (by decide +kernel) ⟨Nat.le_of_ble_eq_true rfl, Nat.le_of_ble_eq_true rfl⟩) hK hP hD hS hA [1] [0, 2, 3, 4, 5, 6] rfl rfl (by decide) (by decide) 0 rfl rfl rfl rfl hl.1 (Nat.le_of_ble_eq_true rfl) dX1_apply_64 ⟨Nat.le_of_ble_eq_true rfl, Nat.le_of_ble_eq_true rfl⟩ (fun _ H locs hP hD hS => ?_)
        have hP : va_P D vwCl [(h0, .inr (1, [.ref aM, .ref aR, .ref aC, .ref aV, .ref aS, .int (nI held), .int (nI (prod + 1))])), (aR, kd_ar cI room rows), (aC, kd_ar cI room cols), (aV, kd_ar cI room vals), (aS, kd_ar cI n (pAcc P rows cols vals vec i)), (aX, kd_ar cI n vec), (aM, .inr (2, [.int (nI P)]))] H := hP
        have hD : va_D A [(h0, .inr (1, [.ref aM, .ref aR, .ref aC, .ref aV, .ref aS, .int (nI held), .int (nI (prod + 1))])), (aR, kd_ar cI room rows), (aC, kd_ar cI room cols), (aV, kd_ar cI room vals), (aS, kd_ar cI n (pAcc P rows cols vals vec i)), (aX, kd_ar cI n vec), (aM, .inr (2, [.int (nI P)]))] := hD
        refine kd_ast hx hb hK hP hD hS 4 rfl (rows i) (g6 i (by omega)) (by omega) dX1_apply_67 (fun H locs hP hD hS => ?_)
        have hP : va_P D vwCl [(h0, .inr (1, [.ref aM, .ref aR, .ref aC, .ref aV, .ref aS, .int (nI held), .int (nI (prod + 1))])), (aR, kd_ar cI room rows), (aC, kd_ar cI room cols), (aV, kd_ar cI room vals), (aS, kd_ar cI n (va_up (pAcc P rows cols vals vec i) (rows i) ((((pAcc P rows cols vals vec i) (rows i)) + (vals i) * (vec (cols i))) % P))), (aX, kd_ar cI n vec), (aM, .inr (2, [.int (nI P)]))] H := hP
        have hD : va_D A [(h0, .inr (1, [.ref aM, .ref aR, .ref aC, .ref aV, .ref aS, .int (nI held), .int (nI (prod + 1))])), (aR, kd_ar cI room rows), (aC, kd_ar cI room cols), (aV, kd_ar cI room vals), (aS, kd_ar cI n (va_up (pAcc P rows cols vals vec i) (rows i) ((((pAcc P rows cols vals vec i) (rows i)) + (vals i) * (vec (cols i))) % P))), (aX, kd_ar cI n vec), (aM, .inr (2, [.int (nI P)]))] := hD
        obtain ⟨hP, hD⟩ := kd_swap (g := (pAcc P rows cols vals vec (i + 1))) hP hD 4 rfl (fun _ _ => rfl)
        have hP : va_P D vwCl [(h0, .inr (1, [.ref aM, .ref aR, .ref aC, .ref aV, .ref aS, .int (nI held), .int (nI (prod + 1))])), (aR, kd_ar cI room rows), (aC, kd_ar cI room cols), (aV, kd_ar cI room vals), (aS, kd_ar cI n (pAcc P rows cols vals vec (i + 1))), (aX, kd_ar cI n vec), (aM, .inr (2, [.int (nI P)]))] H := hP
        have hD : va_D A [(h0, .inr (1, [.ref aM, .ref aR, .ref aC, .ref aV, .ref aS, .int (nI held), .int (nI (prod + 1))])), (aR, kd_ar cI room rows), (aC, kd_ar cI room cols), (aV, kd_ar cI room vals), (aS, kd_ar cI n (pAcc P rows cols vals vec (i + 1))), (aX, kd_ar cI n vec), (aM, .inr (2, [.int (nI P)]))] := hD
        refine lv_iinc (v := (nI (i + 1))) (lv' := [(2, .int (nI (i + 1))), (3, .int (nI (rows i))), (0, .ref h0), (1, .ref aX)]) hx hb dX1_apply_68 hl (k := 1) rfl (nI_1 _) (by decide) rfl (fun ls hl => ?_)
        refine lv_goto (tgt := 20) hx hb dX1_apply_71 (by decide) ?_
        exact ih_lp (i + 1) _ _ _ (by omega) (by omega) (hP.sub [0, 6, 1, 2, 3, 4, 5] rfl) (hD.sub [0, 6, 1, 2, 3, 4, 5] (by decide) rfl) hS (lv_sub hl [0, 2, 3] rfl)
  exact lp (held + 1) 0 _ _ _ (by omega) (by omega) (hP.sub [0, 1, 2, 3, 4, 6, 5] rfl) (hD.sub [0, 1, 2, 3, 4, 6, 5] (by decide) rfl) hS (lv_sub hl [0, 1, 2] rfl)
