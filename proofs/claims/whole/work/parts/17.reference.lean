set_option maxHeartbeats 4000000 in
set_option maxRecDepth 100000 in
/-- whether it is a prime -/
theorem c_X5_isPrime (l : Launch) (D : va_G) (cI cJ : ClassId) (k0 : Nat) (g1 : 2 ≤ k0) (g2 : k0 ≤ 46337) : kd_MI (S := Unit) l yX5_isPrime wsX5_isPrime { frames := 0, cells := 0, slots := 0, locals := 0 } [.int (nI k0)] D vwCl cI cJ [] (fun _ => nI (pB (pPrime k0))) (fun _ => []) 0 0 := by
  refine kd_enterZ (cc := cX5_isPrime) (maxL := 3) (by decide) rfl (Nat.le_of_ble_eq_true rfl) (fun _ => pB_01 _) ?_
  intro p e s m args below meth c A ls Q hx hb hr hts hown hlk hnm hml hP hK hD hA hS hl ret
  have hl : lv_has ls 3 [(0, .int (nI k0))] := hl
  have hown : s.vm.findClass RX5 = some m.cls := hown
  refine lv_iconst (v := (nI 1)) hx hb dX5_isPrime_0 (by decide) ?_
  refine lv_istore_n (lv' := [(1, .int (nI 1)), (0, .int (nI k0))]) hx hb dX5_isPrime_1 rfl hl (by decide) rfl (fun ls hl => ?_)
  refine lv_iconst (v := (nI 2)) hx hb dX5_isPrime_2 (by decide) ?_
  refine lv_istore_n (lv' := [(2, .int (nI 2)), (1, .int (nI 1)), (0, .int (nI k0))]) hx hb dX5_isPrime_3 rfl hl (by decide) rfl (fun ls hl => ?_)
  have lp : ∀ (k_lp : Nat) (d : Nat) (is : Nat) (H : Heap) (locs : List Loc) (ls : Array Slot), (216 - d < k_lp) → (d ≤ 216) → (2 ≤ d) → (is = pB (∀ x, x < d → 2 ≤ x → ¬ k0 % x = 0)) → (∀ x, x < d → 2 ≤ x → x * x ≤ k0) → va_P D vwCl [] H → va_D A [] → va_S A s.heap H locs → lv_has ls 3 [(2, .int (nI d)), (1, .int (nI is)), (0, .int (nI k0))] → W p l e { frames := 0, cells := 0, slots := 0, locals := 0 } s m args below meth c H locs 0 0 Q (F0 m 4 ls []) := by
    intro k_lp
    induction k_lp with
    | zero => intro d is H locs ls i1 i2 i3 i4 i5 hP hD hS hl; omega
    | succ k_lp ih_lp =>
      intro d is H locs ls i1 i2 i3 i4 i5 hP hD hS hl
      refine lv_iload_n hx hb dX5_isPrime_4 rfl (lv_at hl 0 rfl) ?_
      refine lv_iload_n hx hb dX5_isPrime_5 rfl (lv_at hl 0 rfl) ?_
      refine kd_mul hx hb dX5_isPrime_6 ?_
      refine lv_iload_n hx hb dX5_isPrime_7 rfl (lv_at hl 2 rfl) ?_
      refine kd_gt (tgt := 33) hx hb dX5_isPrime_8 (by decide) (sq_b i2) (by omega) (fun c_8 => ?_) (fun c_8 => ?_)
      · skip
        refine lv_iload_n hx hb dX5_isPrime_33 rfl (lv_at hl 1 rfl) ?_
        exact ret () _ _ _ _ _ dX5_isPrime_34 (by rw [i4]; exact congrArg nI (pB_iff ⟨fun q => pPrime_end c_8 q, fun q x hx h2 => q x (by omega) h2 (i5 x hx h2)⟩)) hS (hP.sub [] rfl) (hD.sub [] (by decide) rfl)
      · skip
        refine lv_iload_n hx hb dX5_isPrime_11 rfl (lv_at hl 1 rfl) ?_
        refine kd_eq0 (tgt := 33) hx hb dX5_isPrime_12 (by decide) (by rw [i4]; have := pB_lt (∀ x, x < d → 2 ≤ x → ¬ k0 % x = 0); omega) (fun c_12 => ?_) (fun c_12 => ?_)
        · skip
          refine lv_iload_n hx hb dX5_isPrime_33 rfl (lv_at hl 1 rfl) ?_
          exact ret () _ _ _ _ _ dX5_isPrime_34 (by rw [c_12, pB_f (fun q => pB_e0 (i4.symm.trans c_12) (fun x hx h2 => q x (by omega) h2 (i5 x hx h2)))]) hS (hP.sub [] rfl) (hD.sub [] (by decide) rfl)
        · skip
          refine lv_iload_n hx hb dX5_isPrime_15 rfl (lv_at hl 2 rfl) ?_
          refine lv_iload_n hx hb dX5_isPrime_16 rfl (lv_at hl 0 rfl) ?_
          refine kd_rem hx hb (by omega) (by omega) (by omega) dX5_isPrime_17 ?_
          refine kd_eq0 (tgt := 25) hx hb dX5_isPrime_18 (by decide) (by have := Nat.mod_lt k0 (show 0 < d by omega); omega) (fun c_18 => ?_) (fun c_18 => ?_)
          · skip
            refine lv_iconst (v := (nI 0)) hx hb dX5_isPrime_25 (by decide) ?_
            refine lv_istore_n (lv' := [(1, .int (nI 0)), (2, .int (nI d)), (0, .int (nI k0))]) hx hb dX5_isPrime_26 rfl hl (by decide) rfl (fun ls hl => ?_)
            refine lv_iinc (v := (nI (d + 1))) (lv' := [(2, .int (nI (d + 1))), (1, .int (nI 0)), (0, .int (nI k0))]) hx hb dX5_isPrime_27 hl (k := 1) rfl (nI_1 _) (by decide) rfl (fun ls hl => ?_)
            refine lv_goto (tgt := 4) hx hb dX5_isPrime_30 (by decide) ?_
            exact ih_lp (d + 1) 0 _ _ _ (by have := sq_lt i2 (Nat.not_lt.mp c_8) g2; omega) (by have := sq_lt i2 (Nat.not_lt.mp c_8) g2; omega) (by omega) (by rw [pB_f (fun q => q d (by omega) i3 c_18)]) (lt_s (p := fun x => 2 ≤ x → x * x ≤ k0) i5 (fun _ => Nat.not_lt.mp c_8)) (hP.sub [] rfl) (hD.sub [] (by decide) rfl) hS (lv_sub hl [0, 1, 2] rfl)
          · skip
            refine lv_iconst (v := (nI 1)) hx hb dX5_isPrime_21 (by decide) ?_
            refine lv_goto (tgt := 26) hx hb dX5_isPrime_22 (by decide) ?_
            refine lv_istore_n (lv' := [(1, .int (nI 1)), (2, .int (nI d)), (0, .int (nI k0))]) hx hb dX5_isPrime_26 rfl hl (by decide) rfl (fun ls hl => ?_)
            refine lv_iinc (v := (nI (d + 1))) (lv' := [(2, .int (nI (d + 1))), (1, .int (nI 1)), (0, .int (nI k0))]) hx hb dX5_isPrime_27 hl (k := 1) rfl (nI_1 _) (by decide) rfl (fun ls hl => ?_)
            refine lv_goto (tgt := 4) hx hb dX5_isPrime_30 (by decide) ?_
            exact ih_lp (d + 1) 1 _ _ _ (by have := sq_lt i2 (Nat.not_lt.mp c_8) g2; omega) (by have := sq_lt i2 (Nat.not_lt.mp c_8) g2; omega) (by omega) (by rw [pB_t (lt_s (p := fun x => 2 ≤ x → ¬ k0 % x = 0) (pB_e1 (fun z => c_12 (i4.trans z))) (fun _ => c_18))]) (lt_s (p := fun x => 2 ≤ x → x * x ≤ k0) i5 (fun _ => Nat.not_lt.mp c_8)) (hP.sub [] rfl) (hD.sub [] (by decide) rfl) hS (lv_sub hl [0, 1, 2] rfl)
  exact lp 216 2 1 _ _ _ (by omega) (by omega) (by omega) (by rw [pB_t (fun x hx h2 => by omega)]) (fun x hx h2 => by omega) (hP.sub [] rfl) (hD.sub [] (by decide) rfl) hS (lv_sub hl [0, 1, 2] rfl)

set_option maxHeartbeats 4000000 in
set_option maxRecDepth 100000 in
/-- modulo P -/
theorem c_X5_within (l : Launch) (D : va_G) (cI cJ : ClassId) (h0 rR rC rV rRi rDr rVe rMa rRo rc rb rt rSo : Nat) (P n room held gg att prod rs ss : Nat) (dg : Int32) (v0 : Int64) (g1 : 2 ≤ P) (g2 : P ≤ 46337) (g3 : -2 ^ 40 ≤ v0.toInt ∧ v0.toInt < 2 ^ 40) : kd_ML (S := Unit) l yX5_within wsX5_within { frames := 0, cells := 0, slots := 0, locals := 0 } [.ref h0, .long v0] D vwCl cI cJ [(h0, .inr (5, [.int (nI P), .int (nI n), .int (nI room), .ref rR, .ref rC, .ref rV, .int (nI held), .ref rRi, .long (lN gg), .int (nI att), .int (nI prod), .ref rDr, .ref rVe, .ref rMa, .ref rRo, .int (nI rs), .ref rc, .ref rb, .ref rt, .int dg, .ref rSo, .int (nI ss)]))] (fun _ => lN (pRedL P v0)) (fun _ => [(h0, .inr (5, [.int (nI P), .int (nI n), .int (nI room), .ref rR, .ref rC, .ref rV, .int (nI held), .ref rRi, .long (lN gg), .int (nI att), .int (nI prod), .ref rDr, .ref rVe, .ref rMa, .ref rRo, .int (nI rs), .ref rc, .ref rb, .ref rt, .int dg, .ref rSo, .int (nI ss)]))]) 0 0 := by
  refine kd_enterL (cc := cX5_within) (maxL := 5) (by decide) rfl (Nat.le_of_ble_eq_true rfl) ?_
  intro p e s m args below meth c A ls Q hx hb hr hts hown hlk hnm hml hP hK hD hA hS hl ret
  have hl : lv_has ls 5 [(0, .ref h0), (1, .long v0)] := hl
  have hown : s.vm.findClass RX5 = some m.cls := hown
  have i_X5 : ∀ w ∈ wsX50, w ∈ wsX5_within := by decide +kernel
  have fl60 := hts (.fieldLink RX5 60 "KrylovDeskModel" "prime" "I") (by decide +kernel)
  refine lv_lload_n hx hb dX5_within_0 rfl (lv_at hl 1 rfl) ?_
  refine lv_aload_n hx hb dX5_within_1 rfl (lv_at hl 0 rfl) ?_
  refine va_get (D := D) (ci := 5) (v := .int (nI P)) (C := RX5) (T := TX5) (N := 22) hx hb hts i_X5 hown hK hP 0 rfl rfl 0 (by decide) fl60 (fun _ h9 => h9) rfl dX5_within_2 ?_
  refine kd_i2l hx hb (by omega) dX5_within_5 ?_
  refine lv_lrem hx hb dX5_within_6 (kd_lne (by omega) (by omega)) ?_
  refine lv_lstore_n (lv' := [(3, .long (v0 - v0 / (lN P) * (lN P))), (0, .ref h0), (1, .long v0)]) hx hb dX5_within_7 rfl hl (by decide) rfl (fun ls hl => ?_)
  refine lv_lload_n hx hb dX5_within_8 rfl (lv_at hl 0 rfl) ?_
  refine lv_lconst (v := lN 0) hx hb dX5_within_9 (by decide) ?_
  refine W.lcmp hx hb dX5_within_10 ?_
  refine lv_if_ge (tgt := 24) hx hb dX5_within_11 (by decide) (fun c_11 => ?_) (fun c_11 => ?_)
  · skip
    have c_11 := (lg_cmp_ge _ _).mp c_11
    refine lv_lload_n hx hb dX5_within_24 rfl (lv_at hl 0 rfl) ?_
    exact ret () _ _ _ _ _ dX5_within_25 (by first | exact redL_pos (by omega) g2 g3.1 g3.2 c_11 | exact redL_neg (by omega) g2 g3.1 g3.2 c_11) hS (hP.sub [0] rfl) (hD.sub [0] (by decide) rfl)
  · skip
    have c_11 := fun q => c_11 ((lg_cmp_ge _ _).mpr q)
    refine lv_lload_n hx hb dX5_within_14 rfl (lv_at hl 0 rfl) ?_
    refine lv_aload_n hx hb dX5_within_15 rfl (lv_at hl 1 rfl) ?_
    refine va_get (D := D) (ci := 5) (v := .int (nI P)) (C := RX5) (T := TX5) (N := 22) hx hb hts i_X5 hown hK hP 0 rfl rfl 0 (by decide) fl60 (fun _ h9 => h9) rfl dX5_within_16 ?_
    refine kd_i2l hx hb (by omega) dX5_within_19 ?_
    refine lv_ladd hx hb dX5_within_20 ?_
    refine lv_goto (tgt := 25) hx hb dX5_within_21 (by decide) ?_
    exact ret () _ _ _ _ _ dX5_within_25 (by first | exact redL_pos (by omega) g2 g3.1 g3.2 c_11 | exact redL_neg (by omega) g2 g3.1 g3.2 c_11) hS (hP.sub [0] rfl) (hD.sub [0] (by decide) rfl)

set_option maxHeartbeats 4000000 in
set_option maxRecDepth 100000 in
/-- nothing stands -/
theorem c_X5_forget (l : Launch) (D : va_G) (cI cJ : ClassId) (h0 rR rC rV rRi rDr rVe rMa rRo rc rb rt rSo : Nat) (P n room held gg att prod rs ss : Nat) (dg : Int32) : kd_MV (S := Unit) l yX5_forget wsX5_forget { frames := 0, cells := 0, slots := 0, locals := 0 } [.ref h0] D vwCl cI cJ [(h0, .inr (5, [.int (nI P), .int (nI n), .int (nI room), .ref rR, .ref rC, .ref rV, .int (nI held), .ref rRi, .long (lN gg), .int (nI att), .int (nI prod), .ref rDr, .ref rVe, .ref rMa, .ref rRo, .int (nI rs), .ref rc, .ref rb, .ref rt, .int dg, .ref rSo, .int (nI ss)]))] (fun _ => [(h0, .inr (5, [.int (nI P), .int (nI n), .int (nI room), .ref rR, .ref rC, .ref rV, .int (nI held), .ref rRi, .long (lN gg), .int (nI att), .int (nI prod), .ref rDr, .ref rVe, .ref rMa, .ref rRo, .int (nI 0), .ref rc, .ref rb, .ref rt, .int (-1), .ref rSo, .int (nI 0)]))]) 0 0 := by
  refine kd_enterV (cc := cX5_forget) (maxL := 1) (by decide) rfl (Nat.le_of_ble_eq_true rfl) ?_
  intro p e s m args below meth c A ls Q hx hb hr hts hown hlk hnm hml hP hK hD hA hS hl ret
  have hl : lv_has ls 1 [(0, .ref h0)] := hl
  have hown : s.vm.findClass RX5 = some m.cls := hown
  have i_X5 : ∀ w ∈ wsX50, w ∈ wsX5_forget := by decide +kernel
  have fl69 := hts (.fieldLink RX5 69 "KrylovDeskModel" "solved" "Z") (by decide +kernel)
  have fl73 := hts (.fieldLink RX5 73 "KrylovDeskModel" "hasRow" "Z") (by decide +kernel)
  have fl48 := hts (.fieldLink RX5 48 "KrylovDeskModel" "degree" "I") (by decide +kernel)
  refine lv_aload_n hx hb dX5_forget_0 rfl (lv_at hl 0 rfl) ?_
  refine lv_iconst (v := (nI 0)) hx hb dX5_forget_1 (by decide) ?_
  refine va_put (D := D) (ci := 5) (v := .int (nI 0)) (ty := .boolean) (C := RX5) (T := TX5) (N := 22) hx hb hts i_X5 tyX5 tyX5_ok nmX5 hown hK hP hD hS 0 rfl rfl 21 (by decide) fl69 (fun _ h9 => h9) rfl (by decide +kernel) rfl rfl (Nat.le_of_ble_eq_true rfl) dX5_forget_2 (fun H locs hP hD hS => ?_)
  have hP : va_P D vwCl [(h0, .inr (5, [.int (nI P), .int (nI n), .int (nI room), .ref rR, .ref rC, .ref rV, .int (nI held), .ref rRi, .long (lN gg), .int (nI att), .int (nI prod), .ref rDr, .ref rVe, .ref rMa, .ref rRo, .int (nI rs), .ref rc, .ref rb, .ref rt, .int dg, .ref rSo, .int (nI 0)]))] H := hP
  have hD : va_D A [(h0, .inr (5, [.int (nI P), .int (nI n), .int (nI room), .ref rR, .ref rC, .ref rV, .int (nI held), .ref rRi, .long (lN gg), .int (nI att), .int (nI prod), .ref rDr, .ref rVe, .ref rMa, .ref rRo, .int (nI rs), .ref rc, .ref rb, .ref rt, .int dg, .ref rSo, .int (nI 0)]))] := hD
  refine lv_aload_n hx hb dX5_forget_5 rfl (lv_at hl 0 rfl) ?_
  refine lv_iconst (v := (nI 0)) hx hb dX5_forget_6 (by decide) ?_
  refine va_put (D := D) (ci := 5) (v := .int (nI 0)) (ty := .boolean) (C := RX5) (T := TX5) (N := 22) hx hb hts i_X5 tyX5 tyX5_ok nmX5 hown hK hP hD hS 0 rfl rfl 15 (by decide) fl73 (fun _ h9 => h9) rfl (by decide +kernel) rfl rfl (Nat.le_of_ble_eq_true rfl) dX5_forget_7 (fun H locs hP hD hS => ?_)
  have hP : va_P D vwCl [(h0, .inr (5, [.int (nI P), .int (nI n), .int (nI room), .ref rR, .ref rC, .ref rV, .int (nI held), .ref rRi, .long (lN gg), .int (nI att), .int (nI prod), .ref rDr, .ref rVe, .ref rMa, .ref rRo, .int (nI 0), .ref rc, .ref rb, .ref rt, .int dg, .ref rSo, .int (nI 0)]))] H := hP
  have hD : va_D A [(h0, .inr (5, [.int (nI P), .int (nI n), .int (nI room), .ref rR, .ref rC, .ref rV, .int (nI held), .ref rRi, .long (lN gg), .int (nI att), .int (nI prod), .ref rDr, .ref rVe, .ref rMa, .ref rRo, .int (nI 0), .ref rc, .ref rb, .ref rt, .int dg, .ref rSo, .int (nI 0)]))] := hD
  refine lv_aload_n hx hb dX5_forget_10 rfl (lv_at hl 0 rfl) ?_
  refine lv_iconst (v := (-1)) hx hb dX5_forget_11 (by decide) ?_
  refine va_put (D := D) (ci := 5) (v := .int (-1)) (ty := .int) (C := RX5) (T := TX5) (N := 22) hx hb hts i_X5 tyX5 tyX5_ok nmX5 hown hK hP hD hS 0 rfl rfl 19 (by decide) fl48 (fun _ h9 => h9) rfl (by decide +kernel) rfl rfl (Nat.le_of_ble_eq_true rfl) dX5_forget_12 (fun H locs hP hD hS => ?_)
  have hP : va_P D vwCl [(h0, .inr (5, [.int (nI P), .int (nI n), .int (nI room), .ref rR, .ref rC, .ref rV, .int (nI held), .ref rRi, .long (lN gg), .int (nI att), .int (nI prod), .ref rDr, .ref rVe, .ref rMa, .ref rRo, .int (nI 0), .ref rc, .ref rb, .ref rt, .int (-1), .ref rSo, .int (nI 0)]))] H := hP
  have hD : va_D A [(h0, .inr (5, [.int (nI P), .int (nI n), .int (nI room), .ref rR, .ref rC, .ref rV, .int (nI held), .ref rRi, .long (lN gg), .int (nI att), .int (nI prod), .ref rDr, .ref rVe, .ref rMa, .ref rRo, .int (nI 0), .ref rc, .ref rb, .ref rt, .int (-1), .ref rSo, .int (nI 0)]))] := hD
  exact ret () _ _ _ _ dX5_forget_15 hS (hP.sub [0] rfl) (hD.sub [0] (by decide) rfl)

set_option maxHeartbeats 4000000 in
set_option maxRecDepth 100000 in
/-- a draw -/
theorem c_X5_draw (l : Launch) (D : va_G) (cI cJ : ClassId) (h0 rR rC rV rRi rDr rVe rMa rRo rc rb rt rSo : Nat) (P n room held gg att prod rs ss : Nat) (dg : Int32) (g1 : 2 ≤ P) (g2 : P ≤ 46337) (g3 : gg < 2 ^ 31) : kd_ML (S := Unit) l yX5_draw wsX5_draw { frames := 0, cells := 0, slots := 0, locals := 0 } [.ref h0] D vwCl cI cJ [(h0, .inr (5, [.int (nI P), .int (nI n), .int (nI room), .ref rR, .ref rC, .ref rV, .int (nI held), .ref rRi, .long (lN gg), .int (nI att), .int (nI prod), .ref rDr, .ref rVe, .ref rMa, .ref rRo, .int (nI rs), .ref rc, .ref rb, .ref rt, .int dg, .ref rSo, .int (nI ss)]))] (fun _ => lN (pGen gg / 65536 % P)) (fun _ => [(h0, .inr (5, [.int (nI P), .int (nI n), .int (nI room), .ref rR, .ref rC, .ref rV, .int (nI held), .ref rRi, .long (lN (pGen gg)), .int (nI att), .int (nI prod), .ref rDr, .ref rVe, .ref rMa, .ref rRo, .int (nI rs), .ref rc, .ref rb, .ref rt, .int dg, .ref rSo, .int (nI ss)]))]) 0 0 := by
  refine kd_enterL (cc := cX5_draw) (maxL := 1) (by decide) rfl (Nat.le_of_ble_eq_true rfl) ?_
  intro p e s m args below meth c A ls Q hx hb hr hts hown hlk hnm hml hP hK hD hA hS hl ret
  have hl : lv_has ls 1 [(0, .ref h0)] := hl
  have hown : s.vm.findClass RX5 = some m.cls := hown
  have kl87 := hts (.constantLong RX5 87 (1103515245)) (by decide +kernel)
  have i_X5 : ∀ w ∈ wsX50, w ∈ wsX5_draw := by decide +kernel
  have fl23 := hts (.fieldLink RX5 23 "KrylovDeskModel" "generator" "J") (by decide +kernel)
  have kl89 := hts (.constantLong RX5 89 (12345)) (by decide +kernel)
  have kl91 := hts (.constantLong RX5 91 (2147483648)) (by decide +kernel)
  have kl93 := hts (.constantLong RX5 93 (65536)) (by decide +kernel)
  have fl60 := hts (.fieldLink RX5 60 "KrylovDeskModel" "prime" "I") (by decide +kernel)
  refine lv_aload_n hx hb dX5_draw_0 rfl (lv_at hl 0 rfl) ?_
  refine lv_ldc2 (v := lN 1103515245) hx hb hown kl87 dX5_draw_1 ?_
  refine lv_aload_n hx hb dX5_draw_4 rfl (lv_at hl 0 rfl) ?_
  refine va_get (D := D) (ci := 5) (v := .long (lN gg)) (C := RX5) (T := TX5) (N := 22) hx hb hts i_X5 hown hK hP 0 rfl rfl 8 (by decide) fl23 (fun _ h9 => h9) rfl dX5_draw_5 ?_
  refine kd_lmul hx hb dX5_draw_8 ?_
  refine lv_ldc2 (v := lN 12345) hx hb hown kl89 dX5_draw_9 ?_
  refine kd_ladd hx hb dX5_draw_12 ?_
  refine lv_ldc2 (v := lN 2147483648) hx hb hown kl91 dX5_draw_13 ?_
  refine kd_lrem hx hb (by omega) (by omega) (by omega) dX5_draw_16 ?_
  rw [show (1103515245 * gg + 12345) % 2147483648 = pGen gg from rfl]
  refine va_put (D := D) (ci := 5) (v := .long (lN (pGen gg))) (ty := .long) (C := RX5) (T := TX5) (N := 22) hx hb hts i_X5 tyX5 tyX5_ok nmX5 hown hK hP hD hS 0 rfl rfl 8 (by decide) fl23 (fun _ h9 => h9) rfl (by decide +kernel) rfl rfl (Nat.le_of_ble_eq_true rfl) dX5_draw_17 (fun H locs hP hD hS => ?_)
  have hP : va_P D vwCl [(h0, .inr (5, [.int (nI P), .int (nI n), .int (nI room), .ref rR, .ref rC, .ref rV, .int (nI held), .ref rRi, .long (lN (pGen gg)), .int (nI att), .int (nI prod), .ref rDr, .ref rVe, .ref rMa, .ref rRo, .int (nI rs), .ref rc, .ref rb, .ref rt, .int dg, .ref rSo, .int (nI ss)]))] H := hP
  have hD : va_D A [(h0, .inr (5, [.int (nI P), .int (nI n), .int (nI room), .ref rR, .ref rC, .ref rV, .int (nI held), .ref rRi, .long (lN (pGen gg)), .int (nI att), .int (nI prod), .ref rDr, .ref rVe, .ref rMa, .ref rRo, .int (nI rs), .ref rc, .ref rb, .ref rt, .int dg, .ref rSo, .int (nI ss)]))] := hD
  refine lv_aload_n hx hb dX5_draw_20 rfl (lv_at hl 0 rfl) ?_
  refine va_get (D := D) (ci := 5) (v := .long (lN (pGen gg))) (C := RX5) (T := TX5) (N := 22) hx hb hts i_X5 hown hK hP 0 rfl rfl 8 (by decide) fl23 (fun _ h9 => h9) rfl dX5_draw_21 ?_
  refine lv_ldc2 (v := lN 65536) hx hb hown kl93 dX5_draw_24 ?_
  refine kd_ldiv hx hb (by have := pGen_lt gg; omega) (kd_lne (by omega) (by omega)) (by omega) (by omega) dX5_draw_27 ?_
  refine lv_aload_n hx hb dX5_draw_28 rfl (lv_at hl 0 rfl) ?_
  refine va_get (D := D) (ci := 5) (v := .int (nI P)) (C := RX5) (T := TX5) (N := 22) hx hb hts i_X5 hown hK hP 0 rfl rfl 0 (by decide) fl60 (fun _ h9 => h9) rfl dX5_draw_29 ?_
  refine kd_i2l hx hb (by omega) dX5_draw_32 ?_
  refine kd_lrem hx hb (by have := pGen_lt gg; omega) (by omega) (by omega) dX5_draw_33 ?_
  exact ret () _ _ _ _ _ dX5_draw_34 rfl hS (hP.sub [0] rfl) (hD.sub [0] (by decide) rfl)

set_option maxHeartbeats 4000000 in
set_option maxRecDepth 100000 in
/-- a power -/
theorem c_X5_power (l : Launch) (D : va_G) (cI cJ : ClassId) (h0 rR rC rV rRi rDr rVe rMa rRo rc rb rt rSo : Nat) (P n room held gg att prod rs ss : Nat) (dg : Int32) (a0 e0 : Nat) (g1 : 2 ≤ P) (g2 : P ≤ 46337) (g3 : a0 < P) (g4 : e0 < 2 ^ 31) : kd_ML (S := Unit) l yX5_power wsX5_power { frames := 0, cells := 0, slots := 0, locals := 0 } [.ref h0, .long (lN a0), .int (nI e0)] D vwCl cI cJ [(h0, .inr (5, [.int (nI P), .int (nI n), .int (nI room), .ref rR, .ref rC, .ref rV, .int (nI held), .ref rRi, .long (lN gg), .int (nI att), .int (nI prod), .ref rDr, .ref rVe, .ref rMa, .ref rRo, .int (nI rs), .ref rc, .ref rb, .ref rt, .int dg, .ref rSo, .int (nI ss)]))] (fun _ => lN (a0 ^ e0 % P)) (fun _ => [(h0, .inr (5, [.int (nI P), .int (nI n), .int (nI room), .ref rR, .ref rC, .ref rV, .int (nI held), .ref rRi, .long (lN gg), .int (nI att), .int (nI prod), .ref rDr, .ref rVe, .ref rMa, .ref rRo, .int (nI rs), .ref rc, .ref rb, .ref rt, .int dg, .ref rSo, .int (nI ss)]))]) 0 0 := by
  refine kd_enterL (cc := cX5_power) (maxL := 7) (by decide) rfl (Nat.le_of_ble_eq_true rfl) ?_
  intro p e s m args below meth c A ls Q hx hb hr hts hown hlk hnm hml hP hK hD hA hS hl ret
  have hl : lv_has ls 7 [(0, .ref h0), (1, .long (lN a0)), (3, .int (nI e0))] := hl
  have hown : s.vm.findClass RX5 = some m.cls := hown
  have i_X5 : ∀ w ∈ wsX50, w ∈ wsX5_power := by decide +kernel
  have fl60 := hts (.fieldLink RX5 60 "KrylovDeskModel" "prime" "I") (by decide +kernel)
  refine lv_lconst (v := lN 1) hx hb dX5_power_0 (by decide) ?_
  refine lv_lstore (lv' := [(4, .long (lN 1)), (0, .ref h0), (1, .long (lN a0)), (3, .int (nI e0))]) hx hb dX5_power_1 hl (by decide) rfl (fun ls hl => ?_)
  refine lv_bipush (v := (nI 30)) hx hb dX5_power_3 (by decide) ?_
  refine lv_istore (lv' := [(6, .int (nI 30)), (4, .long (lN 1)), (0, .ref h0), (1, .long (lN a0)), (3, .int (nI e0))]) hx hb dX5_power_5 hl (by decide) rfl (fun ls hl => ?_)
  rw [pBit_30] at hl
  have lp : ∀ (k_lp : Nat) (b : Nat) (p0 : Nat) (H : Heap) (locs : List Loc) (ls : Array Slot), (b < k_lp) → (b ≤ 31) → (p0 < P) → (p0 = a0 ^ (e0 / 2 ^ b) % P) → va_P D vwCl [(h0, .inr (5, [.int (nI P), .int (nI n), .int (nI room), .ref rR, .ref rC, .ref rV, .int (nI held), .ref rRi, .long (lN gg), .int (nI att), .int (nI prod), .ref rDr, .ref rVe, .ref rMa, .ref rRo, .int (nI rs), .ref rc, .ref rb, .ref rt, .int dg, .ref rSo, .int (nI ss)]))] H → va_D A [(h0, .inr (5, [.int (nI P), .int (nI n), .int (nI room), .ref rR, .ref rC, .ref rV, .int (nI held), .ref rRi, .long (lN gg), .int (nI att), .int (nI prod), .ref rDr, .ref rVe, .ref rMa, .ref rRo, .int (nI rs), .ref rc, .ref rb, .ref rt, .int dg, .ref rSo, .int (nI ss)]))] → va_S A s.heap H locs → lv_has ls 7 [(6, .int (pBit b)), (4, .long (lN p0)), (0, .ref h0), (1, .long (lN a0)), (3, .int (nI e0))] → W p l e { frames := 0, cells := 0, slots := 0, locals := 0 } s m args below meth c H locs 0 0 Q (F0 m 7 ls []) := by
    intro k_lp
    induction k_lp with
    | zero => intro b p0 H locs ls i1 i2 i3 i4 hP hD hS hl; omega
    | succ k_lp ih_lp =>
      intro b p0 H locs ls i1 i2 i3 i4 hP hD hS hl
      refine lv_iload hx hb dX5_power_7 (lv_at hl 0 rfl) ?_
      refine lv_if_lt (tgt := 53) hx hb dX5_power_9 (by decide) (fun c_9 => ?_) (fun c_9 => ?_)
      · skip
        refine lv_lload hx hb dX5_power_53 (lv_at hl 1 rfl) ?_
        exact ret () _ _ _ _ _ dX5_power_55 (by rw [i4, pBit_0 (by omega) c_9, Nat.pow_zero, Nat.div_one]) hS (hP.sub [0] rfl) (hD.sub [0] (by decide) rfl)
      · skip
        obtain ⟨b1, rfl⟩ := pBit_1 c_9
        rw [pBit_s] at hl
        refine lv_lload hx hb dX5_power_12 (lv_at hl 1 rfl) ?_
        refine lv_lload hx hb dX5_power_14 (lv_at hl 1 rfl) ?_
        refine kd_lmul hx hb dX5_power_16 ?_
        refine lv_aload_n hx hb dX5_power_17 rfl (lv_at hl 2 rfl) ?_
        refine va_get (D := D) (ci := 5) (v := .int (nI P)) (C := RX5) (T := TX5) (N := 22) hx hb hts i_X5 hown hK hP 0 rfl rfl 0 (by decide) fl60 (fun _ h9 => h9) rfl dX5_power_18 ?_
        refine kd_i2l hx hb (by omega) dX5_power_21 ?_
        refine kd_lrem hx hb (by have := mul_small g2 i3 i3; omega) (by omega) (by omega) dX5_power_22 ?_
        refine lv_lstore (lv' := [(4, .long (lN ((p0 * p0) % P))), (6, .int (nI b1)), (0, .ref h0), (1, .long (lN a0)), (3, .int (nI e0))]) hx hb dX5_power_23 hl (by decide) rfl (fun ls hl => ?_)
        refine lv_iload_n hx hb dX5_power_25 rfl (lv_at hl 4 rfl) ?_
        refine lv_iload hx hb dX5_power_26 (lv_at hl 1 rfl) ?_
        refine lv_ishr hx hb dX5_power_28 ?_
        rw [shr_eq g4 (by omega)]
        refine lv_iconst (v := (nI 1)) hx hb dX5_power_29 (by decide) ?_
        refine lv_iand hx hb dX5_power_30 ?_
        rw [and1_eq (Nat.lt_of_le_of_lt (Nat.div_le_self _ _) g4)]
        refine lv_iconst (v := (nI 1)) hx hb dX5_power_31 (by decide) ?_
        refine kd_ne (tgt := 47) hx hb dX5_power_32 (by decide) (by omega) (by omega) (fun c_32 => ?_) (fun c_32 => ?_)
        · skip
          refine lv_iinc (v := (pBit b1)) (lv' := [(6, .int (pBit b1)), (4, .long (lN ((p0 * p0) % P))), (0, .ref h0), (1, .long (lN a0)), (3, .int (nI e0))]) hx hb dX5_power_47 hl (k := 1) rfl (pBit_m b1) (by decide) rfl (fun ls hl => ?_)
          refine lv_goto (tgt := 7) hx hb dX5_power_50 (by decide) ?_
          exact ih_lp b1 ((p0 * p0) % P) _ _ _ (by omega) (by omega) (Nat.mod_lt _ (by omega)) (pow_0 i4 c_32) (hP.sub [0] rfl) (hD.sub [0] (by decide) rfl) hS (lv_sub hl [0, 1, 2, 3, 4] rfl)
        · skip
          refine lv_lload hx hb dX5_power_35 (lv_at hl 0 rfl) ?_
          refine lv_lload_n hx hb dX5_power_37 rfl (lv_at hl 3 rfl) ?_
          refine kd_lmul hx hb dX5_power_38 ?_
          refine lv_aload_n hx hb dX5_power_39 rfl (lv_at hl 2 rfl) ?_
          refine va_get (D := D) (ci := 5) (v := .int (nI P)) (C := RX5) (T := TX5) (N := 22) hx hb hts i_X5 hown hK hP 0 rfl rfl 0 (by decide) fl60 (fun _ h9 => h9) rfl dX5_power_40 ?_
          refine kd_i2l hx hb (by omega) dX5_power_43 ?_
          refine kd_lrem hx hb (by have := mul_small g2 (Nat.mod_lt (p0 * p0) (show 0 < P by omega)) g3; omega) (by omega) (by omega) dX5_power_44 ?_
          refine lv_lstore (lv' := [(4, .long (lN ((((p0 * p0) % P) * a0) % P))), (6, .int (nI b1)), (0, .ref h0), (1, .long (lN a0)), (3, .int (nI e0))]) hx hb dX5_power_45 hl (by decide) rfl (fun ls hl => ?_)
          refine lv_iinc (v := (pBit b1)) (lv' := [(6, .int (pBit b1)), (4, .long (lN ((((p0 * p0) % P) * a0) % P))), (0, .ref h0), (1, .long (lN a0)), (3, .int (nI e0))]) hx hb dX5_power_47 hl (k := 1) rfl (pBit_m b1) (by decide) rfl (fun ls hl => ?_)
          refine lv_goto (tgt := 7) hx hb dX5_power_50 (by decide) ?_
          exact ih_lp b1 ((((p0 * p0) % P) * a0) % P) _ _ _ (by omega) (by omega) (Nat.mod_lt _ (by omega)) (pow_1 i4 c_32) (hP.sub [0] rfl) (hD.sub [0] (by decide) rfl) hS (lv_sub hl [0, 1, 2, 3, 4] rfl)
  exact lp 32 31 1 _ _ _ (by omega) (by omega) (by omega) (by rw [Nat.div_eq_of_lt (by omega), Nat.pow_zero, Nat.mod_eq_of_lt (by omega)]) (hP.sub [0] rfl) (hD.sub [0] (by decide) rfl) hS (lv_sub hl [0, 1, 2, 3, 4] rfl)

set_option maxHeartbeats 4000000 in
set_option maxRecDepth 100000 in
/-- to the power P - 2 -/
theorem c_X5_inverse (l : Launch) (D : va_G) (cI cJ : ClassId) (h0 rR rC rV rRi rDr rVe rMa rRo rc rb rt rSo : Nat) (P n room held gg att prod rs ss : Nat) (dg : Int32) (a0 : Nat) (g1 : 2 ≤ P) (g2 : P ≤ 46337) (g3 : a0 < P) : kd_ML (S := Unit) l yX5_inverse wsX5_inverse { frames := 1, cells := 0, slots := 0, locals := 26 } [.ref h0, .long (lN a0)] D vwCl cI cJ [(h0, .inr (5, [.int (nI P), .int (nI n), .int (nI room), .ref rR, .ref rC, .ref rV, .int (nI held), .ref rRi, .long (lN gg), .int (nI att), .int (nI prod), .ref rDr, .ref rVe, .ref rMa, .ref rRo, .int (nI rs), .ref rc, .ref rb, .ref rt, .int dg, .ref rSo, .int (nI ss)]))] (fun _ => lN (pInv P a0)) (fun _ => [(h0, .inr (5, [.int (nI P), .int (nI n), .int (nI room), .ref rR, .ref rC, .ref rV, .int (nI held), .ref rRi, .long (lN gg), .int (nI att), .int (nI prod), .ref rDr, .ref rVe, .ref rMa, .ref rRo, .int (nI rs), .ref rc, .ref rb, .ref rt, .int dg, .ref rSo, .int (nI ss)]))]) 0 0 := by
  refine kd_enterL (cc := cX5_inverse) (maxL := 3) (by decide) rfl (Nat.le_of_ble_eq_true rfl) ?_
  intro p e s m args below meth c A ls Q hx hb hr hts hown hlk hnm hml hP hK hD hA hS hl ret
  have hl : lv_has ls 3 [(0, .ref h0), (1, .long (lN a0))] := hl
  have hown : s.vm.findClass RX5 = some m.cls := hown
  have i_X5 : ∀ w ∈ wsX50, w ∈ wsX5_inverse := by decide +kernel
  have fl60 := hts (.fieldLink RX5 60 "KrylovDeskModel" "prime" "I") (by decide +kernel)
  refine lv_aload_n hx hb dX5_inverse_0 rfl (lv_at hl 0 rfl) ?_
  refine lv_lload_n hx hb dX5_inverse_1 rfl (lv_at hl 1 rfl) ?_
  refine lv_aload_n hx hb dX5_inverse_2 rfl (lv_at hl 0 rfl) ?_
  refine va_get (D := D) (ci := 5) (v := .int (nI P)) (C := RX5) (T := TX5) (N := 22) hx hb hts i_X5 hown hK hP 0 rfl rfl 0 (by decide) fl60 (fun _ h9 => h9) rfl dX5_inverse_3 ?_
  refine lv_iconst (v := (nI 2)) hx hb dX5_inverse_6 (by decide) ?_
  refine kd_sub hx hb (by omega) dX5_inverse_7 ?_
  refine kd_VL (As := [.long (lN a0), .int (nI (P - 2))]) (rest := []) (Wr := []) ⟨hx, hb, hml, hown, hts⟩ (c_X5_power l D cI cJ h0 rR rC rV rRi rDr rVe rMa rRo rc rb rt rSo P n room held gg att prod rs ss dg a0 (P - 2) g1 g2 g3 (by omega)) (cwV 2 hts gX5_inverse_X5_power rfl rfl rfl (by decide +kernel) ⟨Nat.le_of_ble_eq_true rfl, Nat.le_of_ble_eq_true rfl⟩) hK hP hD hS hA [0] [] rfl rfl (by decide) (by decide) 0 rfl rfl rfl rfl hl.1 (Nat.le_of_ble_eq_true rfl) dX5_inverse_8 ⟨Nat.le_of_ble_eq_true rfl, Nat.le_of_ble_eq_true rfl⟩ (fun _ H locs hP hD hS => ?_)
  have hP : va_P D vwCl [(h0, .inr (5, [.int (nI P), .int (nI n), .int (nI room), .ref rR, .ref rC, .ref rV, .int (nI held), .ref rRi, .long (lN gg), .int (nI att), .int (nI prod), .ref rDr, .ref rVe, .ref rMa, .ref rRo, .int (nI rs), .ref rc, .ref rb, .ref rt, .int dg, .ref rSo, .int (nI ss)]))] H := hP
  have hD : va_D A [(h0, .inr (5, [.int (nI P), .int (nI n), .int (nI room), .ref rR, .ref rC, .ref rV, .int (nI held), .ref rRi, .long (lN gg), .int (nI att), .int (nI prod), .ref rDr, .ref rVe, .ref rMa, .ref rRo, .int (nI rs), .ref rc, .ref rb, .ref rt, .int dg, .ref rSo, .int (nI ss)]))] := hD
  exact ret () _ _ _ _ _ dX5_inverse_11 rfl hS (hP.sub [0] rfl) (hD.sub [0] (by decide) rfl)

set_option maxHeartbeats 4000000 in
set_option maxRecDepth 100000 in
/-- a product -/
theorem c_X5_product (l : Launch) (D : va_G) (cI cJ : ClassId) (h0 rR rC rV rRi rDr rVe rMa rRo rc rb rt rSo : Nat) (P n room held gg att prod rs ss : Nat) (dg : Int32) (rows cols vals ve x ma : Nat → Nat) (g1 : 2 ≤ P) (g2 : P ≤ 46337) (g4 : n ≤ 16) (g5 : room ≤ 100) (g6 : held ≤ room) (g7 : ∀ i, i < held → rows i < n) (g8 : ∀ i, i < held → cols i < n) (g9 : ∀ i, i < held → vals i < P) (g10 : ∀ j, j < n → ve j < P) : kd_MV (S := Nat → Nat) l yX5_product wsX5_product { frames := 0, cells := 0, slots := 0, locals := 0 } [.ref h0] D vwCl cI cJ [(h0, .inr (5, [.int (nI P), .int (nI n), .int (nI room), .ref rR, .ref rC, .ref rV, .int (nI held), .ref rRi, .long (lN gg), .int (nI att), .int (nI prod), .ref rDr, .ref rVe, .ref rMa, .ref rRo, .int (nI rs), .ref rc, .ref rb, .ref rt, .int dg, .ref rSo, .int (nI ss)])), (rR, kd_ar cI 100 rows), (rC, kd_ar cI 100 cols), (rV, kd_al cJ 100 vals), (rVe, kd_al cJ 16 (pMix n ve x)), (rMa, kd_al cJ 16 ma)] (fun u9 => [(h0, .inr (5, [.int (nI P), .int (nI n), .int (nI room), .ref rR, .ref rC, .ref rV, .int (nI held), .ref rRi, .long (lN gg), .int (nI att), .int (nI (prod + 1)), .ref rDr, .ref rVe, .ref rMa, .ref rRo, .int (nI rs), .ref rc, .ref rb, .ref rt, .int dg, .ref rSo, .int (nI ss)])), (rR, kd_ar cI 100 rows), (rC, kd_ar cI 100 cols), (rV, kd_al cJ 100 vals), (rVe, kd_al cJ 16 (pMix n (pAcc P rows cols vals ve held) x)), (rMa, kd_al cJ 16 u9)]) 0 0 := by
  refine kd_enterV (cc := cX5_product) (maxL := 2) (by decide) rfl (Nat.le_of_ble_eq_true rfl) ?_
  intro p e s m args below meth c A ls Q hx hb hr hts hown hlk hnm hml hP hK hD hA hS hl ret
  have hl : lv_has ls 2 [(0, .ref h0)] := hl
  have hown : s.vm.findClass RX5 = some m.cls := hown
  have i_X5 : ∀ w ∈ wsX50, w ∈ wsX5_product := by decide +kernel
  have fl95 := hts (.fieldLink RX5 95 "KrylovDeskModel" "products" "I") (by decide +kernel)
  have fl63 := hts (.fieldLink RX5 63 "KrylovDeskModel" "n" "I") (by decide +kernel)
  have fl76 := hts (.fieldLink RX5 76 "KrylovDeskModel" "entries" "I") (by decide +kernel)
  have fl30 := hts (.fieldLink RX5 30 "KrylovDeskModel" "vector" "[J") (by decide +kernel)
  have fl33 := hts (.fieldLink RX5 33 "KrylovDeskModel" "made" "[J") (by decide +kernel)
  have fl7 := hts (.fieldLink RX5 7 "KrylovDeskModel" "rows" "[I") (by decide +kernel)
  have fl16 := hts (.fieldLink RX5 16 "KrylovDeskModel" "values" "[J") (by decide +kernel)
  have fl13 := hts (.fieldLink RX5 13 "KrylovDeskModel" "columns" "[I") (by decide +kernel)
  have fl60 := hts (.fieldLink RX5 60 "KrylovDeskModel" "prime" "I") (by decide +kernel)
  refine lv_aload_n hx hb dX5_product_0 rfl (lv_at hl 0 rfl) ?_
  refine lv_dup hx hb dX5_product_1 rfl ?_
  refine va_get (D := D) (ci := 5) (v := .int (nI prod)) (C := RX5) (T := TX5) (N := 22) hx hb hts i_X5 hown hK hP 0 rfl rfl 10 (by decide) fl95 (fun _ h9 => h9) rfl dX5_product_2 ?_
  refine lv_iconst (v := (nI 1)) hx hb dX5_product_5 (by decide) ?_
  refine kd_add hx hb dX5_product_6 ?_
  refine va_put (D := D) (ci := 5) (v := .int (nI (prod + 1))) (ty := .int) (C := RX5) (T := TX5) (N := 22) hx hb hts i_X5 tyX5 tyX5_ok nmX5 hown hK hP hD hS 0 rfl rfl 10 (by decide) fl95 (fun _ h9 => h9) rfl (by decide +kernel) rfl rfl (Nat.le_of_ble_eq_true rfl) dX5_product_7 (fun H locs hP hD hS => ?_)
  have hP : va_P D vwCl [(h0, .inr (5, [.int (nI P), .int (nI n), .int (nI room), .ref rR, .ref rC, .ref rV, .int (nI held), .ref rRi, .long (lN gg), .int (nI att), .int (nI (prod + 1)), .ref rDr, .ref rVe, .ref rMa, .ref rRo, .int (nI rs), .ref rc, .ref rb, .ref rt, .int dg, .ref rSo, .int (nI ss)])), (rR, kd_ar cI 100 rows), (rC, kd_ar cI 100 cols), (rV, kd_al cJ 100 vals), (rVe, kd_al cJ 16 (pMix n ve x)), (rMa, kd_al cJ 16 ma)] H := hP
  have hD : va_D A [(h0, .inr (5, [.int (nI P), .int (nI n), .int (nI room), .ref rR, .ref rC, .ref rV, .int (nI held), .ref rRi, .long (lN gg), .int (nI att), .int (nI (prod + 1)), .ref rDr, .ref rVe, .ref rMa, .ref rRo, .int (nI rs), .ref rc, .ref rb, .ref rt, .int dg, .ref rSo, .int (nI ss)])), (rR, kd_ar cI 100 rows), (rC, kd_ar cI 100 cols), (rV, kd_al cJ 100 vals), (rVe, kd_al cJ 16 (pMix n ve x)), (rMa, kd_al cJ 16 ma)] := hD
  refine lv_iconst (v := (nI 0)) hx hb dX5_product_10 (by decide) ?_
  refine lv_istore_n (lv' := [(1, .int (nI 0)), (0, .ref h0)]) hx hb dX5_product_11 rfl hl (by decide) rfl (fun ls hl => ?_)
  have lp : ∀ (k_lp : Nat) (i : Nat) (y : Nat → Nat) (H : Heap) (locs : List Loc) (ls : Array Slot), (n - i < k_lp) → (i ≤ n) → (∀ j, j < i → y j = 0) → va_P D vwCl [(h0, .inr (5, [.int (nI P), .int (nI n), .int (nI room), .ref rR, .ref rC, .ref rV, .int (nI held), .ref rRi, .long (lN gg), .int (nI att), .int (nI (prod + 1)), .ref rDr, .ref rVe, .ref rMa, .ref rRo, .int (nI rs), .ref rc, .ref rb, .ref rt, .int dg, .ref rSo, .int (nI ss)])), (rR, kd_ar cI 100 rows), (rC, kd_ar cI 100 cols), (rV, kd_al cJ 100 vals), (rVe, kd_al cJ 16 (pMix n ve x)), (rMa, kd_al cJ 16 y)] H → va_D A [(h0, .inr (5, [.int (nI P), .int (nI n), .int (nI room), .ref rR, .ref rC, .ref rV, .int (nI held), .ref rRi, .long (lN gg), .int (nI att), .int (nI (prod + 1)), .ref rDr, .ref rVe, .ref rMa, .ref rRo, .int (nI rs), .ref rc, .ref rb, .ref rt, .int dg, .ref rSo, .int (nI ss)])), (rR, kd_ar cI 100 rows), (rC, kd_ar cI 100 cols), (rV, kd_al cJ 100 vals), (rVe, kd_al cJ 16 (pMix n ve x)), (rMa, kd_al cJ 16 y)] → va_S A s.heap H locs → lv_has ls 2 [(1, .int (nI i)), (0, .ref h0)] → W p l e { frames := 0, cells := 0, slots := 0, locals := 0 } s m args below meth c H locs 0 0 Q (F0 m 12 ls []) := by
    intro k_lp
    induction k_lp with
    | zero => intro i y H locs ls i1 i2 i3 hP hD hS hl; omega
    | succ k_lp ih_lp =>
      intro i y H locs ls i1 i2 i3 hP hD hS hl
      refine lv_iload_n hx hb dX5_product_12 rfl (lv_at hl 0 rfl) ?_
      refine lv_aload_n hx hb dX5_product_13 rfl (lv_at hl 1 rfl) ?_
      refine va_get (D := D) (ci := 5) (v := .int (nI n)) (C := RX5) (T := TX5) (N := 22) hx hb hts i_X5 hown hK hP 0 rfl rfl 1 (by decide) fl63 (fun _ h9 => h9) rfl dX5_product_14 ?_
      refine kd_ge (tgt := 33) hx hb dX5_product_17 (by decide) (by omega) (by omega) (fun c_17 => ?_) (fun c_17 => ?_)
      · skip
        refine lv_iconst (v := (nI 0)) hx hb dX5_product_33 (by decide) ?_
        refine lv_istore_n (lv' := [(1, .int (nI 0)), (0, .ref h0)]) hx hb dX5_product_34 rfl hl (by decide) rfl (fun ls hl => ?_)
        obtain ⟨hP, hD⟩ := kd_swapL (g := (pMix n (pAcc P rows cols vals ve 0) y)) hP hD 5 rfl (fun j hj => pMix_of (f := (pAcc P rows cols vals ve 0)) (fun j hj => i3 j (by omega)) j)
        have hP : va_P D vwCl [(h0, .inr (5, [.int (nI P), .int (nI n), .int (nI room), .ref rR, .ref rC, .ref rV, .int (nI held), .ref rRi, .long (lN gg), .int (nI att), .int (nI (prod + 1)), .ref rDr, .ref rVe, .ref rMa, .ref rRo, .int (nI rs), .ref rc, .ref rb, .ref rt, .int dg, .ref rSo, .int (nI ss)])), (rR, kd_ar cI 100 rows), (rC, kd_ar cI 100 cols), (rV, kd_al cJ 100 vals), (rVe, kd_al cJ 16 (pMix n ve x)), (rMa, kd_al cJ 16 (pMix n (pAcc P rows cols vals ve 0) y))] H := hP
        have hD : va_D A [(h0, .inr (5, [.int (nI P), .int (nI n), .int (nI room), .ref rR, .ref rC, .ref rV, .int (nI held), .ref rRi, .long (lN gg), .int (nI att), .int (nI (prod + 1)), .ref rDr, .ref rVe, .ref rMa, .ref rRo, .int (nI rs), .ref rc, .ref rb, .ref rt, .int dg, .ref rSo, .int (nI ss)])), (rR, kd_ar cI 100 rows), (rC, kd_ar cI 100 cols), (rV, kd_al cJ 100 vals), (rVe, kd_al cJ 16 (pMix n ve x)), (rMa, kd_al cJ 16 (pMix n (pAcc P rows cols vals ve 0) y))] := hD
        have lq : ∀ (k_lq : Nat) (i : Nat) (H : Heap) (locs : List Loc) (ls : Array Slot), (held - i < k_lq) → (i ≤ held) → va_P D vwCl [(h0, .inr (5, [.int (nI P), .int (nI n), .int (nI room), .ref rR, .ref rC, .ref rV, .int (nI held), .ref rRi, .long (lN gg), .int (nI att), .int (nI (prod + 1)), .ref rDr, .ref rVe, .ref rMa, .ref rRo, .int (nI rs), .ref rc, .ref rb, .ref rt, .int dg, .ref rSo, .int (nI ss)])), (rR, kd_ar cI 100 rows), (rC, kd_ar cI 100 cols), (rV, kd_al cJ 100 vals), (rVe, kd_al cJ 16 (pMix n ve x)), (rMa, kd_al cJ 16 (pMix n (pAcc P rows cols vals ve i) y))] H → va_D A [(h0, .inr (5, [.int (nI P), .int (nI n), .int (nI room), .ref rR, .ref rC, .ref rV, .int (nI held), .ref rRi, .long (lN gg), .int (nI att), .int (nI (prod + 1)), .ref rDr, .ref rVe, .ref rMa, .ref rRo, .int (nI rs), .ref rc, .ref rb, .ref rt, .int dg, .ref rSo, .int (nI ss)])), (rR, kd_ar cI 100 rows), (rC, kd_ar cI 100 cols), (rV, kd_al cJ 100 vals), (rVe, kd_al cJ 16 (pMix n ve x)), (rMa, kd_al cJ 16 (pMix n (pAcc P rows cols vals ve i) y))] → va_S A s.heap H locs → lv_has ls 2 [(1, .int (nI i)), (0, .ref h0)] → W p l e { frames := 0, cells := 0, slots := 0, locals := 0 } s m args below meth c H locs 0 0 Q (F0 m 35 ls []) := by
          intro k_lq
          induction k_lq with
          | zero => intro i H locs ls j1 j2 hP hD hS hl; omega
          | succ k_lq ih_lq =>
            intro i H locs ls j1 j2 hP hD hS hl
            refine lv_iload_n hx hb dX5_product_35 rfl (lv_at hl 0 rfl) ?_
            refine lv_aload_n hx hb dX5_product_36 rfl (lv_at hl 1 rfl) ?_
            refine va_get (D := D) (ci := 5) (v := .int (nI held)) (C := RX5) (T := TX5) (N := 22) hx hb hts i_X5 hown hK hP 0 rfl rfl 6 (by decide) fl76 (fun _ h9 => h9) rfl dX5_product_37 ?_
            refine kd_ge (tgt := 96) hx hb dX5_product_40 (by decide) (by omega) (by omega) (fun c_40 => ?_) (fun c_40 => ?_)
            · skip
              refine lv_iconst (v := (nI 0)) hx hb dX5_product_96 (by decide) ?_
              refine lv_istore_n (lv' := [(1, .int (nI 0)), (0, .ref h0)]) hx hb dX5_product_97 rfl hl (by decide) rfl (fun ls hl => ?_)
              have e9 : i = held := by omega
              rw [e9] at hP hD
              have lr : ∀ (k_lr : Nat) (i : Nat) (v : Nat → Nat) (H : Heap) (locs : List Loc) (ls : Array Slot), (n - i < k_lr) → (i ≤ n) → (∀ j, v j = if j < i then (pAcc P rows cols vals ve held) j else pMix n ve x j) → va_P D vwCl [(h0, .inr (5, [.int (nI P), .int (nI n), .int (nI room), .ref rR, .ref rC, .ref rV, .int (nI held), .ref rRi, .long (lN gg), .int (nI att), .int (nI (prod + 1)), .ref rDr, .ref rVe, .ref rMa, .ref rRo, .int (nI rs), .ref rc, .ref rb, .ref rt, .int dg, .ref rSo, .int (nI ss)])), (rR, kd_ar cI 100 rows), (rC, kd_ar cI 100 cols), (rV, kd_al cJ 100 vals), (rVe, kd_al cJ 16 v), (rMa, kd_al cJ 16 (pMix n (pAcc P rows cols vals ve held) y))] H → va_D A [(h0, .inr (5, [.int (nI P), .int (nI n), .int (nI room), .ref rR, .ref rC, .ref rV, .int (nI held), .ref rRi, .long (lN gg), .int (nI att), .int (nI (prod + 1)), .ref rDr, .ref rVe, .ref rMa, .ref rRo, .int (nI rs), .ref rc, .ref rb, .ref rt, .int dg, .ref rSo, .int (nI ss)])), (rR, kd_ar cI 100 rows), (rC, kd_ar cI 100 cols), (rV, kd_al cJ 100 vals), (rVe, kd_al cJ 16 v), (rMa, kd_al cJ 16 (pMix n (pAcc P rows cols vals ve held) y))] → va_S A s.heap H locs → lv_has ls 2 [(1, .int (nI i)), (0, .ref h0)] → W p l e { frames := 0, cells := 0, slots := 0, locals := 0 } s m args below meth c H locs 0 0 Q (F0 m 98 ls []) := by
                intro k_lr
                induction k_lr with
                | zero => intro i v H locs ls k1 k2 k3 hP hD hS hl; omega
                | succ k_lr ih_lr =>
                  intro i v H locs ls k1 k2 k3 hP hD hS hl
                  refine lv_iload_n hx hb dX5_product_98 rfl (lv_at hl 0 rfl) ?_
                  refine lv_aload_n hx hb dX5_product_99 rfl (lv_at hl 1 rfl) ?_
                  refine va_get (D := D) (ci := 5) (v := .int (nI n)) (C := RX5) (T := TX5) (N := 22) hx hb hts i_X5 hown hK hP 0 rfl rfl 1 (by decide) fl63 (fun _ h9 => h9) rfl dX5_product_100 ?_
                  refine kd_ge (tgt := 124) hx hb dX5_product_103 (by decide) (by omega) (by omega) (fun c_103 => ?_) (fun c_103 => ?_)
                  · skip
                    obtain ⟨hP, hD⟩ := kd_swapL (g := (pMix n (pAcc P rows cols vals ve held) x)) hP hD 4 rfl (fun j hj => mix_end k3 (by omega))
                    have hP : va_P D vwCl [(h0, .inr (5, [.int (nI P), .int (nI n), .int (nI room), .ref rR, .ref rC, .ref rV, .int (nI held), .ref rRi, .long (lN gg), .int (nI att), .int (nI (prod + 1)), .ref rDr, .ref rVe, .ref rMa, .ref rRo, .int (nI rs), .ref rc, .ref rb, .ref rt, .int dg, .ref rSo, .int (nI ss)])), (rR, kd_ar cI 100 rows), (rC, kd_ar cI 100 cols), (rV, kd_al cJ 100 vals), (rVe, kd_al cJ 16 (pMix n (pAcc P rows cols vals ve held) x)), (rMa, kd_al cJ 16 (pMix n (pAcc P rows cols vals ve held) y))] H := hP
                    have hD : va_D A [(h0, .inr (5, [.int (nI P), .int (nI n), .int (nI room), .ref rR, .ref rC, .ref rV, .int (nI held), .ref rRi, .long (lN gg), .int (nI att), .int (nI (prod + 1)), .ref rDr, .ref rVe, .ref rMa, .ref rRo, .int (nI rs), .ref rc, .ref rb, .ref rt, .int dg, .ref rSo, .int (nI ss)])), (rR, kd_ar cI 100 rows), (rC, kd_ar cI 100 cols), (rV, kd_al cJ 100 vals), (rVe, kd_al cJ 16 (pMix n (pAcc P rows cols vals ve held) x)), (rMa, kd_al cJ 16 (pMix n (pAcc P rows cols vals ve held) y))] := hD
                    exact ret (pMix n (pAcc P rows cols vals ve held) y) _ _ _ _ dX5_product_124 hS (hP.sub [0, 1, 2, 3, 4, 5] rfl) (hD.sub [0, 1, 2, 3, 4, 5] (by decide) rfl)
                  · skip
                    refine lv_aload_n hx hb dX5_product_106 rfl (lv_at hl 1 rfl) ?_
                    refine va_get (D := D) (ci := 5) (v := .ref rVe) (C := RX5) (T := TX5) (N := 22) hx hb hts i_X5 hown hK hP 0 rfl rfl 12 (by decide) fl30 (fun _ h9 => h9) rfl dX5_product_107 ?_
                    refine lv_iload_n hx hb dX5_product_110 rfl (lv_at hl 0 rfl) ?_
                    refine lv_aload_n hx hb dX5_product_111 rfl (lv_at hl 1 rfl) ?_
                    refine va_get (D := D) (ci := 5) (v := .ref rMa) (C := RX5) (T := TX5) (N := 22) hx hb hts i_X5 hown hK hP 0 rfl rfl 13 (by decide) fl33 (fun _ h9 => h9) rfl dX5_product_112 ?_
                    refine lv_iload_n hx hb dX5_product_115 rfl (lv_at hl 0 rfl) ?_
                    refine kd_lald hx hb hK hP 5 rfl i (by omega) (by omega) dX5_product_116 ?_
                    rw [pMix_lt (show i < n by omega)]
                    refine kd_last hx hb hK hP hD hS 4 rfl i (by omega) (by omega) dX5_product_117 (fun H locs hP hD hS => ?_)
                    have hP : va_P D vwCl [(h0, .inr (5, [.int (nI P), .int (nI n), .int (nI room), .ref rR, .ref rC, .ref rV, .int (nI held), .ref rRi, .long (lN gg), .int (nI att), .int (nI (prod + 1)), .ref rDr, .ref rVe, .ref rMa, .ref rRo, .int (nI rs), .ref rc, .ref rb, .ref rt, .int dg, .ref rSo, .int (nI ss)])), (rR, kd_ar cI 100 rows), (rC, kd_ar cI 100 cols), (rV, kd_al cJ 100 vals), (rVe, kd_al cJ 16 (va_up v i ((pAcc P rows cols vals ve held) i))), (rMa, kd_al cJ 16 (pMix n (pAcc P rows cols vals ve held) y))] H := hP
                    have hD : va_D A [(h0, .inr (5, [.int (nI P), .int (nI n), .int (nI room), .ref rR, .ref rC, .ref rV, .int (nI held), .ref rRi, .long (lN gg), .int (nI att), .int (nI (prod + 1)), .ref rDr, .ref rVe, .ref rMa, .ref rRo, .int (nI rs), .ref rc, .ref rb, .ref rt, .int dg, .ref rSo, .int (nI ss)])), (rR, kd_ar cI 100 rows), (rC, kd_ar cI 100 cols), (rV, kd_al cJ 100 vals), (rVe, kd_al cJ 16 (va_up v i ((pAcc P rows cols vals ve held) i))), (rMa, kd_al cJ 16 (pMix n (pAcc P rows cols vals ve held) y))] := hD
                    refine lv_iinc (v := (nI (i + 1))) (lv' := [(1, .int (nI (i + 1))), (0, .ref h0)]) hx hb dX5_product_118 hl (k := 0) rfl (nI_1 _) (by decide) rfl (fun ls hl => ?_)
                    refine lv_goto (tgt := 98) hx hb dX5_product_121 (by decide) ?_
                    exact ih_lr (i + 1) (va_up v i ((pAcc P rows cols vals ve held) i)) _ _ _ (by omega) (by omega) (fun j => lt_upg (y := (pAcc P rows cols vals ve held)) k3 j) (hP.sub [0, 1, 2, 3, 4, 5] rfl) (hD.sub [0, 1, 2, 3, 4, 5] (by decide) rfl) hS (lv_sub hl [0, 1] rfl)
              exact lr (n + 1) 0 (pMix n ve x) _ _ _ (by omega) (by omega) (fun j => by rw [if_neg (by omega)]) (hP.sub [0, 1, 2, 3, 4, 5] rfl) (hD.sub [0, 1, 2, 3, 4, 5] (by decide) rfl) hS (lv_sub hl [0, 1] rfl)
            · skip
              refine lv_aload_n hx hb dX5_product_43 rfl (lv_at hl 1 rfl) ?_
              refine va_get (D := D) (ci := 5) (v := .ref rMa) (C := RX5) (T := TX5) (N := 22) hx hb hts i_X5 hown hK hP 0 rfl rfl 13 (by decide) fl33 (fun _ h9 => h9) rfl dX5_product_44 ?_
              refine lv_aload_n hx hb dX5_product_47 rfl (lv_at hl 1 rfl) ?_
              refine va_get (D := D) (ci := 5) (v := .ref rR) (C := RX5) (T := TX5) (N := 22) hx hb hts i_X5 hown hK hP 0 rfl rfl 3 (by decide) fl7 (fun _ h9 => h9) rfl dX5_product_48 ?_
              refine lv_iload_n hx hb dX5_product_51 rfl (lv_at hl 0 rfl) ?_
              refine kd_ald hx hb hK hP 1 rfl i (by omega) (by omega) dX5_product_52 ?_
              refine lv_aload_n hx hb dX5_product_53 rfl (lv_at hl 1 rfl) ?_
              refine va_get (D := D) (ci := 5) (v := .ref rMa) (C := RX5) (T := TX5) (N := 22) hx hb hts i_X5 hown hK hP 0 rfl rfl 13 (by decide) fl33 (fun _ h9 => h9) rfl dX5_product_54 ?_
              refine lv_aload_n hx hb dX5_product_57 rfl (lv_at hl 1 rfl) ?_
              refine va_get (D := D) (ci := 5) (v := .ref rR) (C := RX5) (T := TX5) (N := 22) hx hb hts i_X5 hown hK hP 0 rfl rfl 3 (by decide) fl7 (fun _ h9 => h9) rfl dX5_product_58 ?_
              refine lv_iload_n hx hb dX5_product_61 rfl (lv_at hl 0 rfl) ?_
              refine kd_ald hx hb hK hP 1 rfl i (by omega) (by omega) dX5_product_62 ?_
              refine kd_lald hx hb hK hP 5 rfl (rows i) (by have := g7 i (by omega); omega) (by omega) dX5_product_63 ?_
              rw [pMix_lt (g7 i (by omega))]
              refine lv_aload_n hx hb dX5_product_64 rfl (lv_at hl 1 rfl) ?_
              refine va_get (D := D) (ci := 5) (v := .ref rV) (C := RX5) (T := TX5) (N := 22) hx hb hts i_X5 hown hK hP 0 rfl rfl 5 (by decide) fl16 (fun _ h9 => h9) rfl dX5_product_65 ?_
              refine lv_iload_n hx hb dX5_product_68 rfl (lv_at hl 0 rfl) ?_
              refine kd_lald hx hb hK hP 3 rfl i (by omega) (by omega) dX5_product_69 ?_
              refine lv_aload_n hx hb dX5_product_70 rfl (lv_at hl 1 rfl) ?_
              refine va_get (D := D) (ci := 5) (v := .ref rVe) (C := RX5) (T := TX5) (N := 22) hx hb hts i_X5 hown hK hP 0 rfl rfl 12 (by decide) fl30 (fun _ h9 => h9) rfl dX5_product_71 ?_
              refine lv_aload_n hx hb dX5_product_74 rfl (lv_at hl 1 rfl) ?_
              refine va_get (D := D) (ci := 5) (v := .ref rC) (C := RX5) (T := TX5) (N := 22) hx hb hts i_X5 hown hK hP 0 rfl rfl 4 (by decide) fl13 (fun _ h9 => h9) rfl dX5_product_75 ?_
              refine lv_iload_n hx hb dX5_product_78 rfl (lv_at hl 0 rfl) ?_
              refine kd_ald hx hb hK hP 2 rfl i (by omega) (by omega) dX5_product_79 ?_
              refine kd_lald hx hb hK hP 4 rfl (cols i) (by have := g8 i (by omega); omega) (by omega) dX5_product_80 ?_
              rw [pMix_lt (g8 i (by omega))]
              refine kd_lmul hx hb dX5_product_81 ?_
              refine kd_ladd hx hb dX5_product_82 ?_
              refine lv_aload_n hx hb dX5_product_83 rfl (lv_at hl 1 rfl) ?_
              refine va_get (D := D) (ci := 5) (v := .int (nI P)) (C := RX5) (T := TX5) (N := 22) hx hb hts i_X5 hown hK hP 0 rfl rfl 0 (by decide) fl60 (fun _ h9 => h9) rfl dX5_product_84 ?_
              refine kd_i2l hx hb (by omega) dX5_product_87 ?_
              refine kd_lrem hx hb (by have := mul_small g2 (g9 i (by omega)) (g10 _ (g8 i (by omega))); have := pAcc_lt (P := P) (by omega) rows cols vals ve i (rows i); omega) (by omega) (by omega) dX5_product_88 ?_
              refine kd_last hx hb hK hP hD hS 5 rfl (rows i) (by have := g7 i (by omega); omega) (by omega) dX5_product_89 (fun H locs hP hD hS => ?_)
              have hP : va_P D vwCl [(h0, .inr (5, [.int (nI P), .int (nI n), .int (nI room), .ref rR, .ref rC, .ref rV, .int (nI held), .ref rRi, .long (lN gg), .int (nI att), .int (nI (prod + 1)), .ref rDr, .ref rVe, .ref rMa, .ref rRo, .int (nI rs), .ref rc, .ref rb, .ref rt, .int dg, .ref rSo, .int (nI ss)])), (rR, kd_ar cI 100 rows), (rC, kd_ar cI 100 cols), (rV, kd_al cJ 100 vals), (rVe, kd_al cJ 16 (pMix n ve x)), (rMa, kd_al cJ 16 (va_up (pMix n (pAcc P rows cols vals ve i) y) (rows i) (((pAcc P rows cols vals ve i (rows i)) + ((vals i) * (ve (cols i)))) % P)))] H := hP
              have hD : va_D A [(h0, .inr (5, [.int (nI P), .int (nI n), .int (nI room), .ref rR, .ref rC, .ref rV, .int (nI held), .ref rRi, .long (lN gg), .int (nI att), .int (nI (prod + 1)), .ref rDr, .ref rVe, .ref rMa, .ref rRo, .int (nI rs), .ref rc, .ref rb, .ref rt, .int dg, .ref rSo, .int (nI ss)])), (rR, kd_ar cI 100 rows), (rC, kd_ar cI 100 cols), (rV, kd_al cJ 100 vals), (rVe, kd_al cJ 16 (pMix n ve x)), (rMa, kd_al cJ 16 (va_up (pMix n (pAcc P rows cols vals ve i) y) (rows i) (((pAcc P rows cols vals ve i (rows i)) + ((vals i) * (ve (cols i)))) % P)))] := hD
              obtain ⟨hP, hD⟩ := kd_swapL (g := (pMix n (pAcc P rows cols vals ve (i + 1)) y)) hP hD 5 rfl (fun j hj => pMix_up (g7 i (by omega)) j)
              have hP : va_P D vwCl [(h0, .inr (5, [.int (nI P), .int (nI n), .int (nI room), .ref rR, .ref rC, .ref rV, .int (nI held), .ref rRi, .long (lN gg), .int (nI att), .int (nI (prod + 1)), .ref rDr, .ref rVe, .ref rMa, .ref rRo, .int (nI rs), .ref rc, .ref rb, .ref rt, .int dg, .ref rSo, .int (nI ss)])), (rR, kd_ar cI 100 rows), (rC, kd_ar cI 100 cols), (rV, kd_al cJ 100 vals), (rVe, kd_al cJ 16 (pMix n ve x)), (rMa, kd_al cJ 16 (pMix n (pAcc P rows cols vals ve (i + 1)) y))] H := hP
              have hD : va_D A [(h0, .inr (5, [.int (nI P), .int (nI n), .int (nI room), .ref rR, .ref rC, .ref rV, .int (nI held), .ref rRi, .long (lN gg), .int (nI att), .int (nI (prod + 1)), .ref rDr, .ref rVe, .ref rMa, .ref rRo, .int (nI rs), .ref rc, .ref rb, .ref rt, .int dg, .ref rSo, .int (nI ss)])), (rR, kd_ar cI 100 rows), (rC, kd_ar cI 100 cols), (rV, kd_al cJ 100 vals), (rVe, kd_al cJ 16 (pMix n ve x)), (rMa, kd_al cJ 16 (pMix n (pAcc P rows cols vals ve (i + 1)) y))] := hD
              refine lv_iinc (v := (nI (i + 1))) (lv' := [(1, .int (nI (i + 1))), (0, .ref h0)]) hx hb dX5_product_90 hl (k := 0) rfl (nI_1 _) (by decide) rfl (fun ls hl => ?_)
              refine lv_goto (tgt := 35) hx hb dX5_product_93 (by decide) ?_
              exact ih_lq (i + 1) _ _ _ (by omega) (by omega) (hP.sub [0, 1, 2, 3, 4, 5] rfl) (hD.sub [0, 1, 2, 3, 4, 5] (by decide) rfl) hS (lv_sub hl [0, 1] rfl)
        exact lq (held + 1) 0 _ _ _ (by omega) (by omega) (hP.sub [0, 1, 2, 3, 4, 5] rfl) (hD.sub [0, 1, 2, 3, 4, 5] (by decide) rfl) hS (lv_sub hl [0, 1] rfl)
      · skip
        refine lv_aload_n hx hb dX5_product_20 rfl (lv_at hl 1 rfl) ?_
        refine va_get (D := D) (ci := 5) (v := .ref rMa) (C := RX5) (T := TX5) (N := 22) hx hb hts i_X5 hown hK hP 0 rfl rfl 13 (by decide) fl33 (fun _ h9 => h9) rfl dX5_product_21 ?_
        refine lv_iload_n hx hb dX5_product_24 rfl (lv_at hl 0 rfl) ?_
        refine lv_lconst (v := lN 0) hx hb dX5_product_25 (by decide) ?_
        refine kd_last hx hb hK hP hD hS 5 rfl i (by omega) (by omega) dX5_product_26 (fun H locs hP hD hS => ?_)
        have hP : va_P D vwCl [(h0, .inr (5, [.int (nI P), .int (nI n), .int (nI room), .ref rR, .ref rC, .ref rV, .int (nI held), .ref rRi, .long (lN gg), .int (nI att), .int (nI (prod + 1)), .ref rDr, .ref rVe, .ref rMa, .ref rRo, .int (nI rs), .ref rc, .ref rb, .ref rt, .int dg, .ref rSo, .int (nI ss)])), (rR, kd_ar cI 100 rows), (rC, kd_ar cI 100 cols), (rV, kd_al cJ 100 vals), (rVe, kd_al cJ 16 (pMix n ve x)), (rMa, kd_al cJ 16 (va_up y i 0))] H := hP
        have hD : va_D A [(h0, .inr (5, [.int (nI P), .int (nI n), .int (nI room), .ref rR, .ref rC, .ref rV, .int (nI held), .ref rRi, .long (lN gg), .int (nI att), .int (nI (prod + 1)), .ref rDr, .ref rVe, .ref rMa, .ref rRo, .int (nI rs), .ref rc, .ref rb, .ref rt, .int dg, .ref rSo, .int (nI ss)])), (rR, kd_ar cI 100 rows), (rC, kd_ar cI 100 cols), (rV, kd_al cJ 100 vals), (rVe, kd_al cJ 16 (pMix n ve x)), (rMa, kd_al cJ 16 (va_up y i 0))] := hD
        refine lv_iinc (v := (nI (i + 1))) (lv' := [(1, .int (nI (i + 1))), (0, .ref h0)]) hx hb dX5_product_27 hl (k := 0) rfl (nI_1 _) (by decide) rfl (fun ls hl => ?_)
        refine lv_goto (tgt := 12) hx hb dX5_product_30 (by decide) ?_
        exact ih_lp (i + 1) (va_up y i 0) _ _ _ (by omega) (by omega) (lt_up i3) (hP.sub [0, 1, 2, 3, 4, 5] rfl) (hD.sub [0, 1, 2, 3, 4, 5] (by decide) rfl) hS (lv_sub hl [0, 1] rfl)
  exact lp (n + 1) 0 ma _ _ _ (by omega) (by omega) (fun j hj => by omega) (hP.sub [0, 1, 2, 3, 4, 5] rfl) (hD.sub [0, 1, 2, 3, 4, 5] (by decide) rfl) hS (lv_sub hl [0, 1] rfl)
