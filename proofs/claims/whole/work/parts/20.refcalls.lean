set_option maxHeartbeats 4000000 in
set_option maxRecDepth 100000 in
/-- entry -/
theorem c_X5_entry (l : Launch) (D : va_G) (cI cJ : ClassId) (h0 rR rC rV rRi rDr rVe rMa rRo rc rb rt rSo : Nat) (P n room held gg att prod rs ss : Nat) (dg : Int32) (rows cols vals : Nat → Nat) (r0 c0 v0 : Int32) (g1 : 2 ≤ P) (g2 : P ≤ 46337) (g4 : n ≤ 16) (g5 : room ≤ 100) (g6 : held ≤ room) : kd_MI (S := Unit) l yX5_entry wsX5_entry { frames := 1, cells := 0, slots := 0, locals := 24 } [.ref h0, .int r0, .int c0, .int v0] D vwCl cI cJ [(h0, .inr (5, [.int (nI P), .int (nI n), .int (nI room), .ref rR, .ref rC, .ref rV, .int (nI held), .ref rRi, .long (lN gg), .int (nI att), .int (nI prod), .ref rDr, .ref rVe, .ref rMa, .ref rRo, .int (nI rs), .ref rc, .ref rb, .ref rt, .int dg, .ref rSo, .int (nI ss)])), (rR, kd_ar cI 100 rows), (rC, kd_ar cI 100 cols), (rV, kd_al cJ 100 vals)] (fun _ => nI (pEntry n room held r0 c0)) (fun _ => [(h0, .inr (5, [.int (nI P), .int (nI n), .int (nI room), .ref rR, .ref rC, .ref rV, .int (nI (if pOkE n room held r0 c0 then held + 1 else held)), .ref rRi, .long (lN gg), .int (nI att), .int (nI prod), .ref rDr, .ref rVe, .ref rMa, .ref rRo, .int (nI (if pOkE n room held r0 c0 then 0 else rs)), .ref rc, .ref rb, .ref rt, .int (if pOkE n room held r0 c0 then (-1) else dg), .ref rSo, .int (nI (if pOkE n room held r0 c0 then 0 else ss))])), (rR, kd_ar cI 100 (if pOkE n room held r0 c0 then va_up rows held (pIx r0) else rows)), (rC, kd_ar cI 100 (if pOkE n room held r0 c0 then va_up cols held (pIx c0) else cols)), (rV, kd_al cJ 100 (if pOkE n room held r0 c0 then va_up vals held (pRed P v0) else vals))]) 0 0 := by
  refine kd_enterI (cc := cX5_entry) (maxL := 4) (by decide) rfl (Nat.le_of_ble_eq_true rfl) ?_
  intro p e s m args below meth c A ls Q hx hb hr hts hown hlk hnm hml hP hK hD hA hS hl ret
  have hl : lv_has ls 4 [(0, .ref h0), (1, .int r0), (2, .int c0), (3, .int v0)] := hl
  have hown : s.vm.findClass RX5 = some m.cls := hown
  have i_X5 : ∀ w ∈ wsX50, w ∈ wsX5_entry := by decide +kernel
  have fl63 := hts (.fieldLink RX5 63 "KrylovDeskModel" "n" "I") (by decide +kernel)
  have fl76 := hts (.fieldLink RX5 76 "KrylovDeskModel" "entries" "I") (by decide +kernel)
  have fl66 := hts (.fieldLink RX5 66 "KrylovDeskModel" "room" "I") (by decide +kernel)
  have fl7 := hts (.fieldLink RX5 7 "KrylovDeskModel" "rows" "[I") (by decide +kernel)
  have fl13 := hts (.fieldLink RX5 13 "KrylovDeskModel" "columns" "[I") (by decide +kernel)
  have fl16 := hts (.fieldLink RX5 16 "KrylovDeskModel" "values" "[J") (by decide +kernel)
  refine lv_iload_n hx hb dX5_entry_0 rfl (lv_at hl 1 rfl) ?_
  refine lv_if_lt (tgt := 24) hx hb dX5_entry_1 (by decide) (fun c_1 => ?_) (fun c_1 => ?_)
  · skip
    refine lv_iconst (v := (nI 1)) hx hb dX5_entry_24 (by decide) ?_
    have e0 : ¬ (pPl n r0 ∧ pPl n c0) := fun q => pPl_neg c_1 q.1
    have e9 : ¬ pOkE n room held r0 c0 := fun q => e0 q.1
    simp only [if_neg e9] at ret
    exact ret () _ _ _ _ _ dX5_entry_25 (by unfold pEntry; rw [if_neg e0]) hS (hP.sub [0, 1, 2, 3] rfl) (hD.sub [0, 1, 2, 3] (by decide) rfl)
  · skip
    refine lv_iload_n hx hb dX5_entry_4 rfl (lv_at hl 1 rfl) ?_
    refine lv_aload_n hx hb dX5_entry_5 rfl (lv_at hl 0 rfl) ?_
    refine va_get (D := D) (ci := 5) (v := .int (nI n)) (C := RX5) (T := TX5) (N := 22) hx hb hts i_X5 hown hK hP 0 rfl rfl 1 (by decide) fl63 (fun _ h9 => h9) rfl dX5_entry_6 ?_
    refine lv_icmp_ge (tgt := 24) hx hb dX5_entry_9 (by decide) (fun c_9 => ?_) (fun c_9 => ?_)
    · skip
      refine lv_iconst (v := (nI 1)) hx hb dX5_entry_24 (by decide) ?_
      have e0 : ¬ (pPl n r0 ∧ pPl n c0) := fun q => pPl_big (by omega) c_9 q.1
      have e9 : ¬ pOkE n room held r0 c0 := fun q => e0 q.1
      simp only [if_neg e9] at ret
      exact ret () _ _ _ _ _ dX5_entry_25 (by unfold pEntry; rw [if_neg e0]) hS (hP.sub [0, 1, 2, 3] rfl) (hD.sub [0, 1, 2, 3] (by decide) rfl)
    · skip
      refine lv_iload_n hx hb dX5_entry_12 rfl (lv_at hl 2 rfl) ?_
      refine lv_if_lt (tgt := 24) hx hb dX5_entry_13 (by decide) (fun c_13 => ?_) (fun c_13 => ?_)
      · skip
        refine lv_iconst (v := (nI 1)) hx hb dX5_entry_24 (by decide) ?_
        have e0 : ¬ (pPl n r0 ∧ pPl n c0) := fun q => pPl_neg c_13 q.2
        have e9 : ¬ pOkE n room held r0 c0 := fun q => e0 q.1
        simp only [if_neg e9] at ret
        exact ret () _ _ _ _ _ dX5_entry_25 (by unfold pEntry; rw [if_neg e0]) hS (hP.sub [0, 1, 2, 3] rfl) (hD.sub [0, 1, 2, 3] (by decide) rfl)
      · skip
        refine lv_iload_n hx hb dX5_entry_16 rfl (lv_at hl 2 rfl) ?_
        refine lv_aload_n hx hb dX5_entry_17 rfl (lv_at hl 0 rfl) ?_
        refine va_get (D := D) (ci := 5) (v := .int (nI n)) (C := RX5) (T := TX5) (N := 22) hx hb hts i_X5 hown hK hP 0 rfl rfl 1 (by decide) fl63 (fun _ h9 => h9) rfl dX5_entry_18 ?_
        refine lv_icmp_lt (tgt := 26) hx hb dX5_entry_21 (by decide) (fun c_21 => ?_) (fun c_21 => ?_)
        · skip
          refine lv_aload_n hx hb dX5_entry_26 rfl (lv_at hl 0 rfl) ?_
          refine va_get (D := D) (ci := 5) (v := .int (nI held)) (C := RX5) (T := TX5) (N := 22) hx hb hts i_X5 hown hK hP 0 rfl rfl 6 (by decide) fl76 (fun _ h9 => h9) rfl dX5_entry_27 ?_
          refine lv_aload_n hx hb dX5_entry_30 rfl (lv_at hl 0 rfl) ?_
          refine va_get (D := D) (ci := 5) (v := .int (nI room)) (C := RX5) (T := TX5) (N := 22) hx hb hts i_X5 hown hK hP 0 rfl rfl 2 (by decide) fl66 (fun _ h9 => h9) rfl dX5_entry_31 ?_
          refine kd_ne (tgt := 39) hx hb dX5_entry_34 (by decide) (by omega) (by omega) (fun c_34 => ?_) (fun c_34 => ?_)
          · skip
            have eok : pOkE n room held r0 c0 := ⟨⟨pPl_in (by omega) c_1 c_9, pPl_in (by omega) c_13 (Int32.not_le.mpr c_21)⟩, by omega⟩
            have ean : pEntry n room held r0 c0 = 0 := by unfold pEntry; rw [if_pos eok.1, if_pos eok.2]
            rw [ean] at ret
            simp only [if_pos eok] at ret
            have q1 := pPl_ix eok.1.1
            have q2 := pPl_ix eok.1.2
            generalize pIx r0 = jr at q1 ret
            generalize pIx c0 = jc at q2 ret
            obtain ⟨e7, hjr⟩ := q1
            obtain ⟨e8, hjc⟩ := q2
            rw [e7, e8] at hl
            refine lv_aload_n hx hb dX5_entry_39 rfl (lv_at hl 0 rfl) ?_
            refine va_get (D := D) (ci := 5) (v := .ref rR) (C := RX5) (T := TX5) (N := 22) hx hb hts i_X5 hown hK hP 0 rfl rfl 3 (by decide) fl7 (fun _ h9 => h9) rfl dX5_entry_40 ?_
            refine lv_aload_n hx hb dX5_entry_43 rfl (lv_at hl 0 rfl) ?_
            refine va_get (D := D) (ci := 5) (v := .int (nI held)) (C := RX5) (T := TX5) (N := 22) hx hb hts i_X5 hown hK hP 0 rfl rfl 6 (by decide) fl76 (fun _ h9 => h9) rfl dX5_entry_44 ?_
            refine lv_iload_n hx hb dX5_entry_47 rfl (lv_at hl 1 rfl) ?_
            refine kd_ast hx hb hK hP hD hS 1 rfl held (by omega) (by omega) dX5_entry_48 (fun H locs hP hD hS => ?_)
            have hP : va_P D vwCl [(h0, .inr (5, [.int (nI P), .int (nI n), .int (nI room), .ref rR, .ref rC, .ref rV, .int (nI held), .ref rRi, .long (lN gg), .int (nI att), .int (nI prod), .ref rDr, .ref rVe, .ref rMa, .ref rRo, .int (nI rs), .ref rc, .ref rb, .ref rt, .int dg, .ref rSo, .int (nI ss)])), (rR, kd_ar cI 100 (va_up rows held jr)), (rC, kd_ar cI 100 cols), (rV, kd_al cJ 100 vals)] H := hP
            have hD : va_D A [(h0, .inr (5, [.int (nI P), .int (nI n), .int (nI room), .ref rR, .ref rC, .ref rV, .int (nI held), .ref rRi, .long (lN gg), .int (nI att), .int (nI prod), .ref rDr, .ref rVe, .ref rMa, .ref rRo, .int (nI rs), .ref rc, .ref rb, .ref rt, .int dg, .ref rSo, .int (nI ss)])), (rR, kd_ar cI 100 (va_up rows held jr)), (rC, kd_ar cI 100 cols), (rV, kd_al cJ 100 vals)] := hD
            refine lv_aload_n hx hb dX5_entry_49 rfl (lv_at hl 0 rfl) ?_
            refine va_get (D := D) (ci := 5) (v := .ref rC) (C := RX5) (T := TX5) (N := 22) hx hb hts i_X5 hown hK hP 0 rfl rfl 4 (by decide) fl13 (fun _ h9 => h9) rfl dX5_entry_50 ?_
            refine lv_aload_n hx hb dX5_entry_53 rfl (lv_at hl 0 rfl) ?_
            refine va_get (D := D) (ci := 5) (v := .int (nI held)) (C := RX5) (T := TX5) (N := 22) hx hb hts i_X5 hown hK hP 0 rfl rfl 6 (by decide) fl76 (fun _ h9 => h9) rfl dX5_entry_54 ?_
            refine lv_iload_n hx hb dX5_entry_57 rfl (lv_at hl 2 rfl) ?_
            refine kd_ast hx hb hK hP hD hS 2 rfl held (by omega) (by omega) dX5_entry_58 (fun H locs hP hD hS => ?_)
            have hP : va_P D vwCl [(h0, .inr (5, [.int (nI P), .int (nI n), .int (nI room), .ref rR, .ref rC, .ref rV, .int (nI held), .ref rRi, .long (lN gg), .int (nI att), .int (nI prod), .ref rDr, .ref rVe, .ref rMa, .ref rRo, .int (nI rs), .ref rc, .ref rb, .ref rt, .int dg, .ref rSo, .int (nI ss)])), (rR, kd_ar cI 100 (va_up rows held jr)), (rC, kd_ar cI 100 (va_up cols held jc)), (rV, kd_al cJ 100 vals)] H := hP
            have hD : va_D A [(h0, .inr (5, [.int (nI P), .int (nI n), .int (nI room), .ref rR, .ref rC, .ref rV, .int (nI held), .ref rRi, .long (lN gg), .int (nI att), .int (nI prod), .ref rDr, .ref rVe, .ref rMa, .ref rRo, .int (nI rs), .ref rc, .ref rb, .ref rt, .int dg, .ref rSo, .int (nI ss)])), (rR, kd_ar cI 100 (va_up rows held jr)), (rC, kd_ar cI 100 (va_up cols held jc)), (rV, kd_al cJ 100 vals)] := hD
            refine lv_aload_n hx hb dX5_entry_59 rfl (lv_at hl 0 rfl) ?_
            refine va_get (D := D) (ci := 5) (v := .ref rV) (C := RX5) (T := TX5) (N := 22) hx hb hts i_X5 hown hK hP 0 rfl rfl 5 (by decide) fl16 (fun _ h9 => h9) rfl dX5_entry_60 ?_
            refine lv_aload_n hx hb dX5_entry_63 rfl (lv_at hl 0 rfl) ?_
            refine va_get (D := D) (ci := 5) (v := .int (nI held)) (C := RX5) (T := TX5) (N := 22) hx hb hts i_X5 hown hK hP 0 rfl rfl 6 (by decide) fl76 (fun _ h9 => h9) rfl dX5_entry_64 ?_
            refine lv_aload_n hx hb dX5_entry_67 rfl (lv_at hl 0 rfl) ?_
            refine lv_iload_n hx hb dX5_entry_68 rfl (lv_at hl 3 rfl) ?_
            refine lv_i2l hx hb dX5_entry_69 rfl ?_
            refine kd_VL (As := [.long v0.toInt64]) (rest := [.int (nI held), .ref rV]) (Wr := [(rR, kd_ar cI 100 (va_up rows held jr)), (rC, kd_ar cI 100 (va_up cols held jc)), (rV, kd_al cJ 100 vals)]) ⟨hx, hb, hml, hown, hts⟩ (c_X5_within l D cI cJ h0 rR rC rV rRi rDr rVe rMa rRo rc rb rt rSo P n room held gg att prod rs ss dg (v0.toInt64) g1 g2 (int_rng v0)) (cwV 1 hts gX5_entry_X5_within rfl rfl rfl (by decide +kernel) ⟨Nat.le_of_ble_eq_true rfl, Nat.le_of_ble_eq_true rfl⟩) hK hP hD hS hA [0] [1, 2, 3] rfl rfl (by decide) (by decide) 0 rfl rfl rfl rfl hl.1 (Nat.le_of_ble_eq_true rfl) dX5_entry_70 ⟨Nat.le_of_ble_eq_true rfl, Nat.le_of_ble_eq_true rfl⟩ (fun _ H locs hP hD hS => ?_)
            have hP : va_P D vwCl [(rR, kd_ar cI 100 (va_up rows held jr)), (rC, kd_ar cI 100 (va_up cols held jc)), (rV, kd_al cJ 100 vals), (h0, .inr (5, [.int (nI P), .int (nI n), .int (nI room), .ref rR, .ref rC, .ref rV, .int (nI held), .ref rRi, .long (lN gg), .int (nI att), .int (nI prod), .ref rDr, .ref rVe, .ref rMa, .ref rRo, .int (nI rs), .ref rc, .ref rb, .ref rt, .int dg, .ref rSo, .int (nI ss)]))] H := hP
            have hD : va_D A [(rR, kd_ar cI 100 (va_up rows held jr)), (rC, kd_ar cI 100 (va_up cols held jc)), (rV, kd_al cJ 100 vals), (h0, .inr (5, [.int (nI P), .int (nI n), .int (nI room), .ref rR, .ref rC, .ref rV, .int (nI held), .ref rRi, .long (lN gg), .int (nI att), .int (nI prod), .ref rDr, .ref rVe, .ref rMa, .ref rRo, .int (nI rs), .ref rc, .ref rb, .ref rt, .int dg, .ref rSo, .int (nI ss)]))] := hD
            rw [pRedL_int]
            refine kd_last hx hb hK hP hD hS 2 rfl held (by omega) (by omega) dX5_entry_73 (fun H locs hP hD hS => ?_)
            have hP : va_P D vwCl [(rR, kd_ar cI 100 (va_up rows held jr)), (rC, kd_ar cI 100 (va_up cols held jc)), (rV, kd_al cJ 100 (va_up vals held (pRed P v0))), (h0, .inr (5, [.int (nI P), .int (nI n), .int (nI room), .ref rR, .ref rC, .ref rV, .int (nI held), .ref rRi, .long (lN gg), .int (nI att), .int (nI prod), .ref rDr, .ref rVe, .ref rMa, .ref rRo, .int (nI rs), .ref rc, .ref rb, .ref rt, .int dg, .ref rSo, .int (nI ss)]))] H := hP
            have hD : va_D A [(rR, kd_ar cI 100 (va_up rows held jr)), (rC, kd_ar cI 100 (va_up cols held jc)), (rV, kd_al cJ 100 (va_up vals held (pRed P v0))), (h0, .inr (5, [.int (nI P), .int (nI n), .int (nI room), .ref rR, .ref rC, .ref rV, .int (nI held), .ref rRi, .long (lN gg), .int (nI att), .int (nI prod), .ref rDr, .ref rVe, .ref rMa, .ref rRo, .int (nI rs), .ref rc, .ref rb, .ref rt, .int dg, .ref rSo, .int (nI ss)]))] := hD
            refine lv_aload_n hx hb dX5_entry_74 rfl (lv_at hl 0 rfl) ?_
            refine lv_dup hx hb dX5_entry_75 rfl ?_
            refine va_get (D := D) (ci := 5) (v := .int (nI held)) (C := RX5) (T := TX5) (N := 22) hx hb hts i_X5 hown hK hP 3 rfl rfl 6 (by decide) fl76 (fun _ h9 => h9) rfl dX5_entry_76 ?_
            refine lv_iconst (v := (nI 1)) hx hb dX5_entry_79 (by decide) ?_
            refine kd_add hx hb dX5_entry_80 ?_
            refine va_put (D := D) (ci := 5) (v := .int (nI (held + 1))) (ty := .int) (C := RX5) (T := TX5) (N := 22) hx hb hts i_X5 tyX5 tyX5_ok nmX5 hown hK hP hD hS 3 rfl rfl 6 (by decide) fl76 (fun _ h9 => h9) rfl (by decide +kernel) rfl rfl (Nat.le_of_ble_eq_true rfl) dX5_entry_81 (fun H locs hP hD hS => ?_)
            have hP : va_P D vwCl [(rR, kd_ar cI 100 (va_up rows held jr)), (rC, kd_ar cI 100 (va_up cols held jc)), (rV, kd_al cJ 100 (va_up vals held (pRed P v0))), (h0, .inr (5, [.int (nI P), .int (nI n), .int (nI room), .ref rR, .ref rC, .ref rV, .int (nI (held + 1)), .ref rRi, .long (lN gg), .int (nI att), .int (nI prod), .ref rDr, .ref rVe, .ref rMa, .ref rRo, .int (nI rs), .ref rc, .ref rb, .ref rt, .int dg, .ref rSo, .int (nI ss)]))] H := hP
            have hD : va_D A [(rR, kd_ar cI 100 (va_up rows held jr)), (rC, kd_ar cI 100 (va_up cols held jc)), (rV, kd_al cJ 100 (va_up vals held (pRed P v0))), (h0, .inr (5, [.int (nI P), .int (nI n), .int (nI room), .ref rR, .ref rC, .ref rV, .int (nI (held + 1)), .ref rRi, .long (lN gg), .int (nI att), .int (nI prod), .ref rDr, .ref rVe, .ref rMa, .ref rRo, .int (nI rs), .ref rc, .ref rb, .ref rt, .int dg, .ref rSo, .int (nI ss)]))] := hD
            refine lv_aload_n hx hb dX5_entry_84 rfl (lv_at hl 0 rfl) ?_
            refine kd_VV (As := []) (rest := []) (Wr := [(rR, kd_ar cI 100 (va_up rows held jr)), (rC, kd_ar cI 100 (va_up cols held jc)), (rV, kd_al cJ 100 (va_up vals held (pRed P v0)))]) ⟨hx, hb, hml, hown, hts⟩ (c_X5_forget l D cI cJ h0 rR rC rV rRi rDr rVe rMa rRo rc rb rt rSo P n room (held + 1) gg att prod rs ss dg) (cwV 0 hts gX5_entry_X5_forget rfl rfl rfl (by decide +kernel) ⟨Nat.le_of_ble_eq_true rfl, Nat.le_of_ble_eq_true rfl⟩) hK hP hD hS hA [3] [0, 1, 2] rfl rfl (by decide) (by decide) 0 rfl rfl rfl rfl hl.1 (Nat.le_of_ble_eq_true rfl) dX5_entry_85 ⟨Nat.le_of_ble_eq_true rfl, Nat.le_of_ble_eq_true rfl⟩ (fun _ H locs hP hD hS => ?_)
            have hP : va_P D vwCl [(rR, kd_ar cI 100 (va_up rows held jr)), (rC, kd_ar cI 100 (va_up cols held jc)), (rV, kd_al cJ 100 (va_up vals held (pRed P v0))), (h0, .inr (5, [.int (nI P), .int (nI n), .int (nI room), .ref rR, .ref rC, .ref rV, .int (nI (held + 1)), .ref rRi, .long (lN gg), .int (nI att), .int (nI prod), .ref rDr, .ref rVe, .ref rMa, .ref rRo, .int (nI 0), .ref rc, .ref rb, .ref rt, .int (-1), .ref rSo, .int (nI 0)]))] H := hP
            have hD : va_D A [(rR, kd_ar cI 100 (va_up rows held jr)), (rC, kd_ar cI 100 (va_up cols held jc)), (rV, kd_al cJ 100 (va_up vals held (pRed P v0))), (h0, .inr (5, [.int (nI P), .int (nI n), .int (nI room), .ref rR, .ref rC, .ref rV, .int (nI (held + 1)), .ref rRi, .long (lN gg), .int (nI att), .int (nI prod), .ref rDr, .ref rVe, .ref rMa, .ref rRo, .int (nI 0), .ref rc, .ref rb, .ref rt, .int (-1), .ref rSo, .int (nI 0)]))] := hD
            refine lv_iconst (v := (nI 0)) hx hb dX5_entry_88 (by decide) ?_
            exact ret () _ _ _ _ _ dX5_entry_89 rfl hS (hP.sub [3, 0, 1, 2] rfl) (hD.sub [3, 0, 1, 2] (by decide) rfl)
          · skip
            refine lv_iconst (v := (nI 2)) hx hb dX5_entry_37 (by decide) ?_
            have e9 : ¬ pOkE n room held r0 c0 := fun q => by have := q.2; omega
            simp only [if_neg e9] at ret
            exact ret () _ _ _ _ _ dX5_entry_38 (by unfold pEntry; rw [if_pos ⟨pPl_in (by omega) c_1 c_9, pPl_in (by omega) c_13 (Int32.not_le.mpr c_21)⟩, if_neg (by omega)]) hS (hP.sub [0, 1, 2, 3] rfl) (hD.sub [0, 1, 2, 3] (by decide) rfl)
        · skip
          refine lv_iconst (v := (nI 1)) hx hb dX5_entry_24 (by decide) ?_
          have e0 : ¬ (pPl n r0 ∧ pPl n c0) := fun q => pPl_big (by omega) (Int32.not_lt.mp c_21) q.2
          have e9 : ¬ pOkE n room held r0 c0 := fun q => e0 q.1
          simp only [if_neg e9] at ret
          exact ret () _ _ _ _ _ dX5_entry_25 (by unfold pEntry; rw [if_neg e0]) hS (hP.sub [0, 1, 2, 3] rfl) (hD.sub [0, 1, 2, 3] (by decide) rfl)

set_option maxHeartbeats 4000000 in
set_option maxRecDepth 100000 in
/-- side -/
theorem c_X5_side (l : Launch) (D : va_G) (cI cJ : ClassId) (h0 rR rC rV rRi rDr rVe rMa rRo rc rb rt rSo : Nat) (P n room held gg att prod rs ss : Nat) (dg : Int32) (b0 : Nat → Nat) (r0 v0 : Int32) (g1 : 2 ≤ P) (g2 : P ≤ 46337) (g4 : n ≤ 16) : kd_MI (S := Unit) l yX5_side wsX5_side { frames := 1, cells := 0, slots := 0, locals := 24 } [.ref h0, .int r0, .int v0] D vwCl cI cJ [(h0, .inr (5, [.int (nI P), .int (nI n), .int (nI room), .ref rR, .ref rC, .ref rV, .int (nI held), .ref rRi, .long (lN gg), .int (nI att), .int (nI prod), .ref rDr, .ref rVe, .ref rMa, .ref rRo, .int (nI rs), .ref rc, .ref rb, .ref rt, .int dg, .ref rSo, .int (nI ss)])), (rRi, kd_al cJ 16 b0)] (fun _ => nI (if pPl n r0 then 0 else 1)) (fun _ => [(h0, .inr (5, [.int (nI P), .int (nI n), .int (nI room), .ref rR, .ref rC, .ref rV, .int (nI held), .ref rRi, .long (lN gg), .int (nI att), .int (nI prod), .ref rDr, .ref rVe, .ref rMa, .ref rRo, .int (nI (if pPl n r0 then 0 else rs)), .ref rc, .ref rb, .ref rt, .int (if pPl n r0 then (-1) else dg), .ref rSo, .int (nI (if pPl n r0 then 0 else ss))])), (rRi, kd_al cJ 16 (if pPl n r0 then va_up b0 (pIx r0) (pRed P v0) else b0))]) 0 0 := by
  refine kd_enterI (cc := cX5_side) (maxL := 3) (by decide) rfl (Nat.le_of_ble_eq_true rfl) ?_
  intro p e s m args below meth c A ls Q hx hb hr hts hown hlk hnm hml hP hK hD hA hS hl ret
  have hl : lv_has ls 3 [(0, .ref h0), (1, .int r0), (2, .int v0)] := hl
  have hown : s.vm.findClass RX5 = some m.cls := hown
  have i_X5 : ∀ w ∈ wsX50, w ∈ wsX5_side := by decide +kernel
  have fl63 := hts (.fieldLink RX5 63 "KrylovDeskModel" "n" "I") (by decide +kernel)
  have fl20 := hts (.fieldLink RX5 20 "KrylovDeskModel" "right" "[J") (by decide +kernel)
  refine lv_iload_n hx hb dX5_side_0 rfl (lv_at hl 1 rfl) ?_
  refine lv_if_lt (tgt := 12) hx hb dX5_side_1 (by decide) (fun c_1 => ?_) (fun c_1 => ?_)
  · skip
    refine lv_iconst (v := (nI 1)) hx hb dX5_side_12 (by decide) ?_
    have e9 : ¬ pPl n r0 := pPl_neg c_1
    simp only [if_neg e9] at ret
    exact ret () _ _ _ _ _ dX5_side_13 rfl hS (hP.sub [0, 1] rfl) (hD.sub [0, 1] (by decide) rfl)
  · skip
    refine lv_iload_n hx hb dX5_side_4 rfl (lv_at hl 1 rfl) ?_
    refine lv_aload_n hx hb dX5_side_5 rfl (lv_at hl 0 rfl) ?_
    refine va_get (D := D) (ci := 5) (v := .int (nI n)) (C := RX5) (T := TX5) (N := 22) hx hb hts i_X5 hown hK hP 0 rfl rfl 1 (by decide) fl63 (fun _ h9 => h9) rfl dX5_side_6 ?_
    refine lv_icmp_lt (tgt := 14) hx hb dX5_side_9 (by decide) (fun c_9 => ?_) (fun c_9 => ?_)
    · skip
      have eok : pPl n r0 := pPl_in (by omega) c_1 (Int32.not_le.mpr c_9)
      simp only [if_pos eok] at ret
      have q1 := pPl_ix eok
      generalize pIx r0 = jr at q1 ret
      obtain ⟨e7, hjr⟩ := q1
      rw [e7] at hl
      refine lv_aload_n hx hb dX5_side_14 rfl (lv_at hl 0 rfl) ?_
      refine va_get (D := D) (ci := 5) (v := .ref rRi) (C := RX5) (T := TX5) (N := 22) hx hb hts i_X5 hown hK hP 0 rfl rfl 7 (by decide) fl20 (fun _ h9 => h9) rfl dX5_side_15 ?_
      refine lv_iload_n hx hb dX5_side_18 rfl (lv_at hl 1 rfl) ?_
      refine lv_aload_n hx hb dX5_side_19 rfl (lv_at hl 0 rfl) ?_
      refine lv_iload_n hx hb dX5_side_20 rfl (lv_at hl 2 rfl) ?_
      refine lv_i2l hx hb dX5_side_21 rfl ?_
      refine kd_VL (As := [.long v0.toInt64]) (rest := [.int (nI jr), .ref rRi]) (Wr := [(rRi, kd_al cJ 16 b0)]) ⟨hx, hb, hml, hown, hts⟩ (c_X5_within l D cI cJ h0 rR rC rV rRi rDr rVe rMa rRo rc rb rt rSo P n room held gg att prod rs ss dg (v0.toInt64) g1 g2 (int_rng v0)) (cwV 1 hts gX5_side_X5_within rfl rfl rfl (by decide +kernel) ⟨Nat.le_of_ble_eq_true rfl, Nat.le_of_ble_eq_true rfl⟩) hK hP hD hS hA [0] [1] rfl rfl (by decide) (by decide) 0 rfl rfl rfl rfl hl.1 (Nat.le_of_ble_eq_true rfl) dX5_side_22 ⟨Nat.le_of_ble_eq_true rfl, Nat.le_of_ble_eq_true rfl⟩ (fun _ H locs hP hD hS => ?_)
      have hP : va_P D vwCl [(rRi, kd_al cJ 16 b0), (h0, .inr (5, [.int (nI P), .int (nI n), .int (nI room), .ref rR, .ref rC, .ref rV, .int (nI held), .ref rRi, .long (lN gg), .int (nI att), .int (nI prod), .ref rDr, .ref rVe, .ref rMa, .ref rRo, .int (nI rs), .ref rc, .ref rb, .ref rt, .int dg, .ref rSo, .int (nI ss)]))] H := hP
      have hD : va_D A [(rRi, kd_al cJ 16 b0), (h0, .inr (5, [.int (nI P), .int (nI n), .int (nI room), .ref rR, .ref rC, .ref rV, .int (nI held), .ref rRi, .long (lN gg), .int (nI att), .int (nI prod), .ref rDr, .ref rVe, .ref rMa, .ref rRo, .int (nI rs), .ref rc, .ref rb, .ref rt, .int dg, .ref rSo, .int (nI ss)]))] := hD
      rw [pRedL_int]
      refine kd_last hx hb hK hP hD hS 0 rfl jr (by omega) (by omega) dX5_side_25 (fun H locs hP hD hS => ?_)
      have hP : va_P D vwCl [(rRi, kd_al cJ 16 (va_up b0 jr (pRed P v0))), (h0, .inr (5, [.int (nI P), .int (nI n), .int (nI room), .ref rR, .ref rC, .ref rV, .int (nI held), .ref rRi, .long (lN gg), .int (nI att), .int (nI prod), .ref rDr, .ref rVe, .ref rMa, .ref rRo, .int (nI rs), .ref rc, .ref rb, .ref rt, .int dg, .ref rSo, .int (nI ss)]))] H := hP
      have hD : va_D A [(rRi, kd_al cJ 16 (va_up b0 jr (pRed P v0))), (h0, .inr (5, [.int (nI P), .int (nI n), .int (nI room), .ref rR, .ref rC, .ref rV, .int (nI held), .ref rRi, .long (lN gg), .int (nI att), .int (nI prod), .ref rDr, .ref rVe, .ref rMa, .ref rRo, .int (nI rs), .ref rc, .ref rb, .ref rt, .int dg, .ref rSo, .int (nI ss)]))] := hD
      refine lv_aload_n hx hb dX5_side_26 rfl (lv_at hl 0 rfl) ?_
      refine kd_VV (As := []) (rest := []) (Wr := [(rRi, kd_al cJ 16 (va_up b0 jr (pRed P v0)))]) ⟨hx, hb, hml, hown, hts⟩ (c_X5_forget l D cI cJ h0 rR rC rV rRi rDr rVe rMa rRo rc rb rt rSo P n room held gg att prod rs ss dg) (cwV 0 hts gX5_side_X5_forget rfl rfl rfl (by decide +kernel) ⟨Nat.le_of_ble_eq_true rfl, Nat.le_of_ble_eq_true rfl⟩) hK hP hD hS hA [1] [0] rfl rfl (by decide) (by decide) 0 rfl rfl rfl rfl hl.1 (Nat.le_of_ble_eq_true rfl) dX5_side_27 ⟨Nat.le_of_ble_eq_true rfl, Nat.le_of_ble_eq_true rfl⟩ (fun _ H locs hP hD hS => ?_)
      have hP : va_P D vwCl [(rRi, kd_al cJ 16 (va_up b0 jr (pRed P v0))), (h0, .inr (5, [.int (nI P), .int (nI n), .int (nI room), .ref rR, .ref rC, .ref rV, .int (nI held), .ref rRi, .long (lN gg), .int (nI att), .int (nI prod), .ref rDr, .ref rVe, .ref rMa, .ref rRo, .int (nI 0), .ref rc, .ref rb, .ref rt, .int (-1), .ref rSo, .int (nI 0)]))] H := hP
      have hD : va_D A [(rRi, kd_al cJ 16 (va_up b0 jr (pRed P v0))), (h0, .inr (5, [.int (nI P), .int (nI n), .int (nI room), .ref rR, .ref rC, .ref rV, .int (nI held), .ref rRi, .long (lN gg), .int (nI att), .int (nI prod), .ref rDr, .ref rVe, .ref rMa, .ref rRo, .int (nI 0), .ref rc, .ref rb, .ref rt, .int (-1), .ref rSo, .int (nI 0)]))] := hD
      refine lv_iconst (v := (nI 0)) hx hb dX5_side_30 (by decide) ?_
      exact ret () _ _ _ _ _ dX5_side_31 rfl hS (hP.sub [1, 0] rfl) (hD.sub [1, 0] (by decide) rfl)
    · skip
      refine lv_iconst (v := (nI 1)) hx hb dX5_side_12 (by decide) ?_
      have e9 : ¬ pPl n r0 := pPl_big (by omega) (Int32.not_lt.mp c_9)
      simp only [if_neg e9] at ret
      exact ret () _ _ _ _ _ dX5_side_13 rfl hS (hP.sub [0, 1] rfl) (hD.sub [0, 1] (by decide) rfl)

set_option maxHeartbeats 4000000 in
set_option maxRecDepth 100000 in
/-- seed -/
theorem c_X5_seed (l : Launch) (D : va_G) (cI cJ : ClassId) (h0 rR rC rV rRi rDr rVe rMa rRo rc rb rt rSo : Nat) (P n room held gg att prod rs ss : Nat) (dg : Int32) (v0 : Int32) : kd_MV (S := Unit) l yX5_seed wsX5_seed { frames := 0, cells := 0, slots := 0, locals := 0 } [.ref h0, .int v0] D vwCl cI cJ [(h0, .inr (5, [.int (nI P), .int (nI n), .int (nI room), .ref rR, .ref rC, .ref rV, .int (nI held), .ref rRi, .long (lN gg), .int (nI att), .int (nI prod), .ref rDr, .ref rVe, .ref rMa, .ref rRo, .int (nI rs), .ref rc, .ref rb, .ref rt, .int dg, .ref rSo, .int (nI ss)]))] (fun _ => [(h0, .inr (5, [.int (nI P), .int (nI n), .int (nI room), .ref rR, .ref rC, .ref rV, .int (nI held), .ref rRi, .long (lN (pSeed v0)), .int (nI att), .int (nI prod), .ref rDr, .ref rVe, .ref rMa, .ref rRo, .int (nI rs), .ref rc, .ref rb, .ref rt, .int dg, .ref rSo, .int (nI ss)]))]) 0 0 := by
  refine kd_enterV (cc := cX5_seed) (maxL := 2) (by decide) rfl (Nat.le_of_ble_eq_true rfl) ?_
  intro p e s m args below meth c A ls Q hx hb hr hts hown hlk hnm hml hP hK hD hA hS hl ret
  have hl : lv_has ls 2 [(0, .ref h0), (1, .int v0)] := hl
  have hown : s.vm.findClass RX5 = some m.cls := hown
  have kc86 := hts (.constant RX5 86 (2147483647)) (by decide +kernel)
  have i_X5 : ∀ w ∈ wsX50, w ∈ wsX5_seed := by decide +kernel
  have fl23 := hts (.fieldLink RX5 23 "KrylovDeskModel" "generator" "J") (by decide +kernel)
  refine lv_aload_n hx hb dX5_seed_0 rfl (lv_at hl 0 rfl) ?_
  refine lv_iload_n hx hb dX5_seed_1 rfl (lv_at hl 1 rfl) ?_
  refine lv_ldc (v := (nI 2147483647)) hx hb hown kc86 dX5_seed_2 ?_
  refine lv_iand hx hb dX5_seed_4 ?_
  rw [pSeed_eq]
  refine kd_i2l hx hb (pSeed_lt v0) dX5_seed_5 ?_
  refine va_put (D := D) (ci := 5) (v := .long (lN (pSeed v0))) (ty := .long) (C := RX5) (T := TX5) (N := 22) hx hb hts i_X5 tyX5 tyX5_ok nmX5 hown hK hP hD hS 0 rfl rfl 8 (by decide) fl23 (fun _ h9 => h9) rfl (by decide +kernel) rfl rfl (Nat.le_of_ble_eq_true rfl) dX5_seed_6 (fun H locs hP hD hS => ?_)
  have hP : va_P D vwCl [(h0, .inr (5, [.int (nI P), .int (nI n), .int (nI room), .ref rR, .ref rC, .ref rV, .int (nI held), .ref rRi, .long (lN (pSeed v0)), .int (nI att), .int (nI prod), .ref rDr, .ref rVe, .ref rMa, .ref rRo, .int (nI rs), .ref rc, .ref rb, .ref rt, .int dg, .ref rSo, .int (nI ss)]))] H := hP
  have hD : va_D A [(h0, .inr (5, [.int (nI P), .int (nI n), .int (nI room), .ref rR, .ref rC, .ref rV, .int (nI held), .ref rRi, .long (lN (pSeed v0)), .int (nI att), .int (nI prod), .ref rDr, .ref rVe, .ref rMa, .ref rRo, .int (nI rs), .ref rc, .ref rb, .ref rt, .int dg, .ref rSo, .int (nI ss)]))] := hD
  exact ret () _ _ _ _ dX5_seed_9 hS (hP.sub [0] rfl) (hD.sub [0] (by decide) rfl)

set_option maxHeartbeats 4000000 in
set_option maxRecDepth 100000 in
/-- solution -/
theorem c_X5_solution (l : Launch) (D : va_G) (cI cJ : ClassId) (h0 rR rC rV rRi rDr rVe rMa rRo rc rb rt rSo : Nat) (P n room held gg att prod rs ss : Nat) (dg : Int32) (an xa : Nat → Nat) (i0 : Int32) (g4 : n ≤ 16) (g5 : ss < 2) : kd_MI (S := Unit) l yX5_solution wsX5_solution { frames := 0, cells := 0, slots := 0, locals := 0 } [.ref h0, .int i0] D vwCl cI cJ [(h0, .inr (5, [.int (nI P), .int (nI n), .int (nI room), .ref rR, .ref rC, .ref rV, .int (nI held), .ref rRi, .long (lN gg), .int (nI att), .int (nI prod), .ref rDr, .ref rVe, .ref rMa, .ref rRo, .int (nI rs), .ref rc, .ref rb, .ref rt, .int dg, .ref rSo, .int (nI ss)])), (rSo, kd_al cJ 16 (pMix n an xa))] (fun _ => pSol n ss an i0) (fun _ => [(h0, .inr (5, [.int (nI P), .int (nI n), .int (nI room), .ref rR, .ref rC, .ref rV, .int (nI held), .ref rRi, .long (lN gg), .int (nI att), .int (nI prod), .ref rDr, .ref rVe, .ref rMa, .ref rRo, .int (nI rs), .ref rc, .ref rb, .ref rt, .int dg, .ref rSo, .int (nI ss)])), (rSo, kd_al cJ 16 (pMix n an xa))]) 0 0 := by
  refine kd_enterI (cc := cX5_solution) (maxL := 2) (by decide) rfl (Nat.le_of_ble_eq_true rfl) ?_
  intro p e s m args below meth c A ls Q hx hb hr hts hown hlk hnm hml hP hK hD hA hS hl ret
  have hl : lv_has ls 2 [(0, .ref h0), (1, .int i0)] := hl
  have hown : s.vm.findClass RX5 = some m.cls := hown
  have i_X5 : ∀ w ∈ wsX50, w ∈ wsX5_solution := by decide +kernel
  have fl69 := hts (.fieldLink RX5 69 "KrylovDeskModel" "solved" "Z") (by decide +kernel)
  have fl63 := hts (.fieldLink RX5 63 "KrylovDeskModel" "n" "I") (by decide +kernel)
  have fl52 := hts (.fieldLink RX5 52 "KrylovDeskModel" "solution" "[J") (by decide +kernel)
  refine lv_aload_n hx hb dX5_solution_0 rfl (lv_at hl 0 rfl) ?_
  refine va_get (D := D) (ci := 5) (v := .int (nI ss)) (C := RX5) (T := TX5) (N := 22) hx hb hts i_X5 hown hK hP 0 rfl rfl 21 (by decide) fl69 (fun _ h9 => h9) rfl dX5_solution_1 ?_
  refine kd_eq0 (tgt := 29) hx hb dX5_solution_4 (by decide) (by omega) (fun c_4 => ?_) (fun c_4 => ?_)
  · skip
    refine lv_iconst (v := (-1)) hx hb dX5_solution_29 (by decide) ?_
    exact ret () _ _ _ _ _ dX5_solution_30 ((if_neg (fun q => q.1 c_4)).symm) hS (hP.sub [0, 1] rfl) (hD.sub [0, 1] (by decide) rfl)
  · skip
    refine lv_iload_n hx hb dX5_solution_7 rfl (lv_at hl 1 rfl) ?_
    refine lv_if_lt (tgt := 29) hx hb dX5_solution_8 (by decide) (fun c_8 => ?_) (fun c_8 => ?_)
    · skip
      refine lv_iconst (v := (-1)) hx hb dX5_solution_29 (by decide) ?_
      exact ret () _ _ _ _ _ dX5_solution_30 ((if_neg (fun q => pPl_neg c_8 q.2)).symm) hS (hP.sub [0, 1] rfl) (hD.sub [0, 1] (by decide) rfl)
    · skip
      refine lv_iload_n hx hb dX5_solution_11 rfl (lv_at hl 1 rfl) ?_
      refine lv_aload_n hx hb dX5_solution_12 rfl (lv_at hl 0 rfl) ?_
      refine va_get (D := D) (ci := 5) (v := .int (nI n)) (C := RX5) (T := TX5) (N := 22) hx hb hts i_X5 hown hK hP 0 rfl rfl 1 (by decide) fl63 (fun _ h9 => h9) rfl dX5_solution_13 ?_
      refine lv_icmp_ge (tgt := 29) hx hb dX5_solution_16 (by decide) (fun c_16 => ?_) (fun c_16 => ?_)
      · skip
        refine lv_iconst (v := (-1)) hx hb dX5_solution_29 (by decide) ?_
        exact ret () _ _ _ _ _ dX5_solution_30 ((if_neg (fun q => pPl_big (by omega) c_16 q.2)).symm) hS (hP.sub [0, 1] rfl) (hD.sub [0, 1] (by decide) rfl)
      · skip
        have eok : pPl n i0 := pPl_in (by omega) c_8 c_16
        have ean : pSol n ss an i0 = nI (an (pIx i0)) := if_pos ⟨c_4, eok⟩
        rw [ean] at ret
        have q1 := pPl_ix eok
        generalize pIx i0 = j at q1 ret
        obtain ⟨e7, hj⟩ := q1
        rw [e7] at hl
        refine lv_aload_n hx hb dX5_solution_19 rfl (lv_at hl 0 rfl) ?_
        refine va_get (D := D) (ci := 5) (v := .ref rSo) (C := RX5) (T := TX5) (N := 22) hx hb hts i_X5 hown hK hP 0 rfl rfl 20 (by decide) fl52 (fun _ h9 => h9) rfl dX5_solution_20 ?_
        refine lv_iload_n hx hb dX5_solution_23 rfl (lv_at hl 1 rfl) ?_
        refine kd_lald hx hb hK hP 1 rfl j (by omega) (by omega) dX5_solution_24 ?_
        rw [pMix_lt hj]
        refine kd_l2i hx hb dX5_solution_25 ?_
        refine lv_goto (tgt := 30) hx hb dX5_solution_26 (by decide) ?_
        exact ret () _ _ _ _ _ dX5_solution_30 rfl hS (hP.sub [0, 1] rfl) (hD.sub [0, 1] (by decide) rfl)

set_option maxHeartbeats 4000000 in
set_option maxRecDepth 100000 in
/-- degree -/
theorem c_X5_degree (l : Launch) (D : va_G) (cI cJ : ClassId) (h0 rR rC rV rRi rDr rVe rMa rRo rc rb rt rSo : Nat) (P n room held gg att prod rs ss : Nat) (dg : Int32) : kd_MI (S := Unit) l yX5_degree wsX5_degree { frames := 0, cells := 0, slots := 0, locals := 0 } [.ref h0] D vwCl cI cJ [(h0, .inr (5, [.int (nI P), .int (nI n), .int (nI room), .ref rR, .ref rC, .ref rV, .int (nI held), .ref rRi, .long (lN gg), .int (nI att), .int (nI prod), .ref rDr, .ref rVe, .ref rMa, .ref rRo, .int (nI rs), .ref rc, .ref rb, .ref rt, .int dg, .ref rSo, .int (nI ss)]))] (fun _ => dg) (fun _ => [(h0, .inr (5, [.int (nI P), .int (nI n), .int (nI room), .ref rR, .ref rC, .ref rV, .int (nI held), .ref rRi, .long (lN gg), .int (nI att), .int (nI prod), .ref rDr, .ref rVe, .ref rMa, .ref rRo, .int (nI rs), .ref rc, .ref rb, .ref rt, .int dg, .ref rSo, .int (nI ss)]))]) 0 0 := by
  refine kd_enterI (cc := cX5_degree) (maxL := 1) (by decide) rfl (Nat.le_of_ble_eq_true rfl) ?_
  intro p e s m args below meth c A ls Q hx hb hr hts hown hlk hnm hml hP hK hD hA hS hl ret
  have hl : lv_has ls 1 [(0, .ref h0)] := hl
  have hown : s.vm.findClass RX5 = some m.cls := hown
  have i_X5 : ∀ w ∈ wsX50, w ∈ wsX5_degree := by decide +kernel
  have fl48 := hts (.fieldLink RX5 48 "KrylovDeskModel" "degree" "I") (by decide +kernel)
  refine lv_aload_n hx hb dX5_degree_0 rfl (lv_at hl 0 rfl) ?_
  refine va_get (D := D) (ci := 5) (v := .int dg) (C := RX5) (T := TX5) (N := 22) hx hb hts i_X5 hown hK hP 0 rfl rfl 19 (by decide) fl48 (fun _ h9 => h9) rfl dX5_degree_1 ?_
  exact ret () _ _ _ _ _ dX5_degree_4 rfl hS (hP.sub [0] rfl) (hD.sub [0] (by decide) rfl)

set_option maxHeartbeats 4000000 in
set_option maxRecDepth 100000 in
/-- coefficient -/
theorem c_X5_coefficient (l : Launch) (D : va_G) (cI cJ : ClassId) (h0 rR rC rV rRi rDr rVe rMa rRo rc rb rt rSo : Nat) (P n room held gg att prod rs ss L : Nat) (C : Nat → Nat) (i0 : Int32) (g4 : n ≤ 16) (g6 : L ≤ 2 * n) : kd_MI (S := Unit) l yX5_coefficient wsX5_coefficient { frames := 0, cells := 0, slots := 0, locals := 0 } [.ref h0, .int i0] D vwCl cI cJ [(h0, .inr (5, [.int (nI P), .int (nI n), .int (nI room), .ref rR, .ref rC, .ref rV, .int (nI held), .ref rRi, .long (lN gg), .int (nI att), .int (nI prod), .ref rDr, .ref rVe, .ref rMa, .ref rRo, .int (nI rs), .ref rc, .ref rb, .ref rt, .int (pDeg rs L), .ref rSo, .int (nI ss)])), (rc, kd_al cJ 100 C)] (fun _ => pCoef rs L C i0) (fun _ => [(h0, .inr (5, [.int (nI P), .int (nI n), .int (nI room), .ref rR, .ref rC, .ref rV, .int (nI held), .ref rRi, .long (lN gg), .int (nI att), .int (nI prod), .ref rDr, .ref rVe, .ref rMa, .ref rRo, .int (nI rs), .ref rc, .ref rb, .ref rt, .int (pDeg rs L), .ref rSo, .int (nI ss)])), (rc, kd_al cJ 100 C)]) 0 0 := by
  refine kd_enterI (cc := cX5_coefficient) (maxL := 2) (by decide) rfl (Nat.le_of_ble_eq_true rfl) ?_
  intro p e s m args below meth c A ls Q hx hb hr hts hown hlk hnm hml hP hK hD hA hS hl ret
  have hl : lv_has ls 2 [(0, .ref h0), (1, .int i0)] := hl
  have hown : s.vm.findClass RX5 = some m.cls := hown
  have i_X5 : ∀ w ∈ wsX50, w ∈ wsX5_coefficient := by decide +kernel
  have fl48 := hts (.fieldLink RX5 48 "KrylovDeskModel" "degree" "I") (by decide +kernel)
  have fl39 := hts (.fieldLink RX5 39 "KrylovDeskModel" "c" "[J") (by decide +kernel)
  by_cases hrs : rs = 0
  · have e1 : pDeg rs L = -1 := if_pos hrs
    have e2 : pCoef rs L C i0 = -1 := if_neg (fun q => q.1 hrs)
    rw [e1] at hP hD ret
    rw [e2] at ret
    refine lv_aload_n hx hb dX5_coefficient_0 rfl (lv_at hl 0 rfl) ?_
    refine va_get (D := D) (ci := 5) (v := .int (-1)) (C := RX5) (T := TX5) (N := 22) hx hb hts i_X5 hown hK hP 0 rfl rfl 19 (by decide) fl48 (fun _ h9 => h9) rfl dX5_coefficient_1 ?_
    refine lv_if_lt (tgt := 19) hx hb dX5_coefficient_4 (by decide) (fun c_4 => ?_) (fun c_4 => ?_)
    · skip
      refine lv_iconst (v := (-1)) hx hb dX5_coefficient_19 (by decide) ?_
      refine lv_goto (tgt := 35) hx hb dX5_coefficient_20 (by decide) ?_
      exact ret () _ _ _ _ _ dX5_coefficient_35 rfl hS (hP.sub [0, 1] rfl) (hD.sub [0, 1] (by decide) rfl)
    · skip
      exact absurd (by decide) c_4
  · have e1 : pDeg rs L = nI L := if_neg hrs
    rw [e1] at hP hD ret
    refine lv_aload_n hx hb dX5_coefficient_0 rfl (lv_at hl 0 rfl) ?_
    refine va_get (D := D) (ci := 5) (v := .int (nI L)) (C := RX5) (T := TX5) (N := 22) hx hb hts i_X5 hown hK hP 0 rfl rfl 19 (by decide) fl48 (fun _ h9 => h9) rfl dX5_coefficient_1 ?_
    refine kd_lt0 (tgt := 19) hx hb dX5_coefficient_4 (by omega) (by decide) ?_
    refine lv_iload_n hx hb dX5_coefficient_7 rfl (lv_at hl 1 rfl) ?_
    refine lv_if_lt (tgt := 19) hx hb dX5_coefficient_8 (by decide) (fun c_8 => ?_) (fun c_8 => ?_)
    · skip
      refine lv_iconst (v := (-1)) hx hb dX5_coefficient_19 (by decide) ?_
      refine lv_goto (tgt := 35) hx hb dX5_coefficient_20 (by decide) ?_
      exact ret () _ _ _ _ _ dX5_coefficient_35 ((if_neg (fun q => pPl_neg c_8 q.2)).symm) hS (hP.sub [0, 1] rfl) (hD.sub [0, 1] (by decide) rfl)
    · skip
      refine lv_iload_n hx hb dX5_coefficient_11 rfl (lv_at hl 1 rfl) ?_
      refine lv_aload_n hx hb dX5_coefficient_12 rfl (lv_at hl 0 rfl) ?_
      refine va_get (D := D) (ci := 5) (v := .int (nI L)) (C := RX5) (T := TX5) (N := 22) hx hb hts i_X5 hown hK hP 0 rfl rfl 19 (by decide) fl48 (fun _ h9 => h9) rfl dX5_coefficient_13 ?_
      refine lv_icmp_le (tgt := 23) hx hb dX5_coefficient_16 (by decide) (fun c_16 => ?_) (fun c_16 => ?_)
      · skip
        have eok : pPl (L + 1) i0 := pPl_le (by omega) c_8 c_16
        have ean : pCoef rs L C i0 = nI (C (L - pIx i0)) := if_pos ⟨hrs, eok⟩
        rw [ean] at ret
        have q1 := pPl_ix eok
        generalize pIx i0 = j at q1 ret
        obtain ⟨e7, hj⟩ := q1
        rw [e7] at hl
        refine lv_aload_n hx hb dX5_coefficient_23 rfl (lv_at hl 0 rfl) ?_
        refine va_get (D := D) (ci := 5) (v := .ref rc) (C := RX5) (T := TX5) (N := 22) hx hb hts i_X5 hown hK hP 0 rfl rfl 16 (by decide) fl39 (fun _ h9 => h9) rfl dX5_coefficient_24 ?_
        refine lv_aload_n hx hb dX5_coefficient_27 rfl (lv_at hl 0 rfl) ?_
        refine va_get (D := D) (ci := 5) (v := .int (nI L)) (C := RX5) (T := TX5) (N := 22) hx hb hts i_X5 hown hK hP 0 rfl rfl 19 (by decide) fl48 (fun _ h9 => h9) rfl dX5_coefficient_28 ?_
        refine lv_iload_n hx hb dX5_coefficient_31 rfl (lv_at hl 1 rfl) ?_
        refine kd_sub hx hb (by omega) dX5_coefficient_32 ?_
        refine kd_lald hx hb hK hP 1 rfl (L - j) (by omega) (by omega) dX5_coefficient_33 ?_
        refine kd_l2i hx hb dX5_coefficient_34 ?_
        exact ret () _ _ _ _ _ dX5_coefficient_35 rfl hS (hP.sub [0, 1] rfl) (hD.sub [0, 1] (by decide) rfl)
      · skip
        refine lv_iconst (v := (-1)) hx hb dX5_coefficient_19 (by decide) ?_
        refine lv_goto (tgt := 35) hx hb dX5_coefficient_20 (by decide) ?_
        exact ret () _ _ _ _ _ dX5_coefficient_35 ((if_neg (fun q => pPl_gt (by omega) c_16 q.2)).symm) hS (hP.sub [0, 1] rfl) (hD.sub [0, 1] (by decide) rfl)

set_option maxHeartbeats 4000000 in
set_option maxRecDepth 100000 in
/-- number -/
theorem c_X5_number (l : Launch) (D : va_G) (cI cJ : ClassId) (h0 rR rC rV rRi rDr rVe rMa rRo rc rb rt rSo : Nat) (P n room held gg att prod rs ss : Nat) (dg : Int32) (nu xn : Nat → Nat) (i0 : Int32) (g4 : n ≤ 16) (g5 : rs < 2) : kd_MI (S := Unit) l yX5_number wsX5_number { frames := 0, cells := 0, slots := 0, locals := 0 } [.ref h0, .int i0] D vwCl cI cJ [(h0, .inr (5, [.int (nI P), .int (nI n), .int (nI room), .ref rR, .ref rC, .ref rV, .int (nI held), .ref rRi, .long (lN gg), .int (nI att), .int (nI prod), .ref rDr, .ref rVe, .ref rMa, .ref rRo, .int (nI rs), .ref rc, .ref rb, .ref rt, .int dg, .ref rSo, .int (nI ss)])), (rRo, kd_al cJ 32 (pMix (2 * n) nu xn))] (fun _ => pNum n rs nu i0) (fun _ => [(h0, .inr (5, [.int (nI P), .int (nI n), .int (nI room), .ref rR, .ref rC, .ref rV, .int (nI held), .ref rRi, .long (lN gg), .int (nI att), .int (nI prod), .ref rDr, .ref rVe, .ref rMa, .ref rRo, .int (nI rs), .ref rc, .ref rb, .ref rt, .int dg, .ref rSo, .int (nI ss)])), (rRo, kd_al cJ 32 (pMix (2 * n) nu xn))]) 0 0 := by
  refine kd_enterI (cc := cX5_number) (maxL := 2) (by decide) rfl (Nat.le_of_ble_eq_true rfl) ?_
  intro p e s m args below meth c A ls Q hx hb hr hts hown hlk hnm hml hP hK hD hA hS hl ret
  have hl : lv_has ls 2 [(0, .ref h0), (1, .int i0)] := hl
  have hown : s.vm.findClass RX5 = some m.cls := hown
  have i_X5 : ∀ w ∈ wsX50, w ∈ wsX5_number := by decide +kernel
  have fl73 := hts (.fieldLink RX5 73 "KrylovDeskModel" "hasRow" "Z") (by decide +kernel)
  have fl63 := hts (.fieldLink RX5 63 "KrylovDeskModel" "n" "I") (by decide +kernel)
  have fl36 := hts (.fieldLink RX5 36 "KrylovDeskModel" "row" "[J") (by decide +kernel)
  refine lv_aload_n hx hb dX5_number_0 rfl (lv_at hl 0 rfl) ?_
  refine va_get (D := D) (ci := 5) (v := .int (nI rs)) (C := RX5) (T := TX5) (N := 22) hx hb hts i_X5 hown hK hP 0 rfl rfl 15 (by decide) fl73 (fun _ h9 => h9) rfl dX5_number_1 ?_
  refine kd_eq0 (tgt := 31) hx hb dX5_number_4 (by decide) (by omega) (fun c_4 => ?_) (fun c_4 => ?_)
  · skip
    refine lv_iconst (v := (-1)) hx hb dX5_number_31 (by decide) ?_
    exact ret () _ _ _ _ _ dX5_number_32 ((if_neg (fun q => q.1 c_4)).symm) hS (hP.sub [0, 1] rfl) (hD.sub [0, 1] (by decide) rfl)
  · skip
    refine lv_iload_n hx hb dX5_number_7 rfl (lv_at hl 1 rfl) ?_
    refine lv_if_lt (tgt := 31) hx hb dX5_number_8 (by decide) (fun c_8 => ?_) (fun c_8 => ?_)
    · skip
      refine lv_iconst (v := (-1)) hx hb dX5_number_31 (by decide) ?_
      exact ret () _ _ _ _ _ dX5_number_32 ((if_neg (fun q => pPl_neg c_8 q.2)).symm) hS (hP.sub [0, 1] rfl) (hD.sub [0, 1] (by decide) rfl)
    · skip
      refine lv_iload_n hx hb dX5_number_11 rfl (lv_at hl 1 rfl) ?_
      refine lv_iconst (v := (nI 2)) hx hb dX5_number_12 (by decide) ?_
      refine lv_aload_n hx hb dX5_number_13 rfl (lv_at hl 0 rfl) ?_
      refine va_get (D := D) (ci := 5) (v := .int (nI n)) (C := RX5) (T := TX5) (N := 22) hx hb hts i_X5 hown hK hP 0 rfl rfl 1 (by decide) fl63 (fun _ h9 => h9) rfl dX5_number_14 ?_
      refine kd_mul hx hb dX5_number_17 ?_
      refine lv_icmp_ge (tgt := 31) hx hb dX5_number_18 (by decide) (fun c_18 => ?_) (fun c_18 => ?_)
      · skip
        refine lv_iconst (v := (-1)) hx hb dX5_number_31 (by decide) ?_
        exact ret () _ _ _ _ _ dX5_number_32 ((if_neg (fun q => pPl_big (by omega) c_18 q.2)).symm) hS (hP.sub [0, 1] rfl) (hD.sub [0, 1] (by decide) rfl)
      · skip
        have eok : pPl (2 * n) i0 := pPl_in (by omega) c_8 c_18
        have ean : pNum n rs nu i0 = nI (nu (pIx i0)) := if_pos ⟨c_4, eok⟩
        rw [ean] at ret
        have q1 := pPl_ix eok
        generalize pIx i0 = j at q1 ret
        obtain ⟨e7, hj⟩ := q1
        rw [e7] at hl
        refine lv_aload_n hx hb dX5_number_21 rfl (lv_at hl 0 rfl) ?_
        refine va_get (D := D) (ci := 5) (v := .ref rRo) (C := RX5) (T := TX5) (N := 22) hx hb hts i_X5 hown hK hP 0 rfl rfl 14 (by decide) fl36 (fun _ h9 => h9) rfl dX5_number_22 ?_
        refine lv_iload_n hx hb dX5_number_25 rfl (lv_at hl 1 rfl) ?_
        refine kd_lald hx hb hK hP 1 rfl j (by omega) (by omega) dX5_number_26 ?_
        rw [pMix_lt hj]
        refine kd_l2i hx hb dX5_number_27 ?_
        refine lv_goto (tgt := 32) hx hb dX5_number_28 (by decide) ?_
        exact ret () _ _ _ _ _ dX5_number_32 rfl hS (hP.sub [0, 1] rfl) (hD.sub [0, 1] (by decide) rfl)

set_option maxHeartbeats 4000000 in
set_option maxRecDepth 100000 in
/-- verify -/
theorem c_X5_verify (l : Launch) (D : va_G) (cI cJ : ClassId) (h0 rR rC rV rRi rDr rVe rMa rRo rc rb rt rSo : Nat) (P n room held gg att prod rs ss : Nat) (dg : Int32) (rows cols vals b0 ve ma an xa : Nat → Nat) (g : pOK P n room held rows cols vals b0) (g11 : ∀ j, j < n → an j < P) (g12 : ss < 2) : kd_MI (S := (Nat → Nat) × (Nat → Nat)) l yX5_verify wsX5_verify { frames := 2, cells := 0, slots := 0, locals := 43 } [.ref h0] D vwCl cI cJ [(h0, .inr (5, [.int (nI P), .int (nI n), .int (nI room), .ref rR, .ref rC, .ref rV, .int (nI held), .ref rRi, .long (lN gg), .int (nI att), .int (nI prod), .ref rDr, .ref rVe, .ref rMa, .ref rRo, .int (nI rs), .ref rc, .ref rb, .ref rt, .int dg, .ref rSo, .int (nI ss)])), (rR, kd_ar cI 100 rows), (rC, kd_ar cI 100 cols), (rV, kd_al cJ 100 vals), (rRi, kd_al cJ 16 b0), (rVe, kd_al cJ 16 ve), (rMa, kd_al cJ 16 ma), (rSo, kd_al cJ 16 (pMix n an xa))] (fun u9 => nI (pB (¬ ss = 0 ∧ pHolds P n rows cols vals held b0 an))) (fun u9 => [(h0, .inr (5, [.int (nI P), .int (nI n), .int (nI room), .ref rR, .ref rC, .ref rV, .int (nI held), .ref rRi, .long (lN gg), .int (nI att), .int (nI (if ss = 0 then prod else prod + 1)), .ref rDr, .ref rVe, .ref rMa, .ref rRo, .int (nI rs), .ref rc, .ref rb, .ref rt, .int dg, .ref rSo, .int (nI ss)])), (rR, kd_ar cI 100 rows), (rC, kd_ar cI 100 cols), (rV, kd_al cJ 100 vals), (rRi, kd_al cJ 16 b0), (rVe, kd_al cJ 16 u9.1), (rMa, kd_al cJ 16 u9.2), (rSo, kd_al cJ 16 (pMix n an xa))]) 0 0 := by
  refine kd_enterZ (cc := cX5_verify) (maxL := 1) (by decide) rfl (Nat.le_of_ble_eq_true rfl) (fun _ => pB_01 _) ?_
  intro p e s m args below meth c A ls Q hx hb hr hts hown hlk hnm hml hP hK hD hA hS hl ret
  have hl : lv_has ls 1 [(0, .ref h0)] := hl
  have hown : s.vm.findClass RX5 = some m.cls := hown
  have i_X5 : ∀ w ∈ wsX50, w ∈ wsX5_verify := by decide +kernel
  have fl69 := hts (.fieldLink RX5 69 "KrylovDeskModel" "solved" "Z") (by decide +kernel)
  refine lv_aload_n hx hb dX5_verify_0 rfl (lv_at hl 0 rfl) ?_
  refine va_get (D := D) (ci := 5) (v := .int (nI ss)) (C := RX5) (T := TX5) (N := 22) hx hb hts i_X5 hown hK hP 0 rfl rfl 21 (by decide) fl69 (fun _ h9 => h9) rfl dX5_verify_1 ?_
  refine kd_eq0 (tgt := 18) hx hb dX5_verify_4 (by decide) (by omega) (fun c_4 => ?_) (fun c_4 => ?_)
  · skip
    refine lv_iconst (v := (nI 0)) hx hb dX5_verify_18 (by decide) ?_
    rw [if_pos c_4] at ret
    exact ret (ve, ma) _ _ _ _ _ dX5_verify_19 (by rw [pB_f (fun q => q.1 c_4)]) hS (hP.sub [0, 1, 2, 3, 4, 5, 6, 7] rfl) (hD.sub [0, 1, 2, 3, 4, 5, 6, 7] (by decide) rfl)
  · skip
    refine lv_aload_n hx hb dX5_verify_7 rfl (lv_at hl 0 rfl) ?_
    refine kd_VI (As := []) (rest := []) (Wr := []) ⟨hx, hb, hml, hown, hts⟩ (c_X5_holds l D cI cJ h0 rR rC rV rRi rDr rVe rMa rRo rc rb rt rSo P n room held gg att prod rs ss dg rows cols vals b0 ve ma an xa g g11) (cwV 0 hts gX5_verify_X5_holds rfl rfl rfl (by decide +kernel) ⟨Nat.le_of_ble_eq_true rfl, Nat.le_of_ble_eq_true rfl⟩) hK hP hD hS hA [0, 1, 2, 3, 4, 5, 6, 7] [] rfl rfl (by decide) (by decide) 0 rfl rfl rfl rfl hl.1 (Nat.le_of_ble_eq_true rfl) dX5_verify_8 ⟨Nat.le_of_ble_eq_true rfl, Nat.le_of_ble_eq_true rfl⟩ (fun v9 H locs hP hD hS => ?_)
    have hP : va_P D vwCl [(h0, .inr (5, [.int (nI P), .int (nI n), .int (nI room), .ref rR, .ref rC, .ref rV, .int (nI held), .ref rRi, .long (lN gg), .int (nI att), .int (nI (prod + 1)), .ref rDr, .ref rVe, .ref rMa, .ref rRo, .int (nI rs), .ref rc, .ref rb, .ref rt, .int dg, .ref rSo, .int (nI ss)])), (rR, kd_ar cI 100 rows), (rC, kd_ar cI 100 cols), (rV, kd_al cJ 100 vals), (rRi, kd_al cJ 16 b0), (rVe, kd_al cJ 16 v9.1), (rMa, kd_al cJ 16 v9.2), (rSo, kd_al cJ 16 (pMix n an xa))] H := hP
    have hD : va_D A [(h0, .inr (5, [.int (nI P), .int (nI n), .int (nI room), .ref rR, .ref rC, .ref rV, .int (nI held), .ref rRi, .long (lN gg), .int (nI att), .int (nI (prod + 1)), .ref rDr, .ref rVe, .ref rMa, .ref rRo, .int (nI rs), .ref rc, .ref rb, .ref rt, .int dg, .ref rSo, .int (nI ss)])), (rR, kd_ar cI 100 rows), (rC, kd_ar cI 100 cols), (rV, kd_al cJ 100 vals), (rRi, kd_al cJ 16 b0), (rVe, kd_al cJ 16 v9.1), (rMa, kd_al cJ 16 v9.2), (rSo, kd_al cJ 16 (pMix n an xa))] := hD
    refine kd_eq0 (tgt := 18) hx hb dX5_verify_11 (by decide) (by have := pB_lt (pHolds P n rows cols vals held b0 an); omega) (fun c_11 => ?_) (fun c_11 => ?_)
    · skip
      refine lv_iconst (v := (nI 0)) hx hb dX5_verify_18 (by decide) ?_
      rw [if_neg c_4] at ret
      exact ret v9 _ _ _ _ _ dX5_verify_19 (by rw [pB_f (fun q => pB_e0 c_11 q.2)]) hS (hP.sub [0, 1, 2, 3, 4, 5, 6, 7] rfl) (hD.sub [0, 1, 2, 3, 4, 5, 6, 7] (by decide) rfl)
    · skip
      refine lv_iconst (v := (nI 1)) hx hb dX5_verify_14 (by decide) ?_
      refine lv_goto (tgt := 19) hx hb dX5_verify_15 (by decide) ?_
      rw [if_neg c_4] at ret
      exact ret v9 _ _ _ _ _ dX5_verify_19 (by rw [pB_t ⟨c_4, pB_e1 c_11⟩]) hS (hP.sub [0, 1, 2, 3, 4, 5, 6, 7] rfl) (hD.sub [0, 1, 2, 3, 4, 5, 6, 7] (by decide) rfl)

set_option maxHeartbeats 4000000 in
set_option maxRecDepth 100000 in
/-- products -/
theorem c_X5_products (l : Launch) (D : va_G) (cI cJ : ClassId) (h0 rR rC rV rRi rDr rVe rMa rRo rc rb rt rSo : Nat) (P n room held gg att prod rs ss : Nat) (dg : Int32) : kd_MI (S := Unit) l yX5_products wsX5_products { frames := 0, cells := 0, slots := 0, locals := 0 } [.ref h0] D vwCl cI cJ [(h0, .inr (5, [.int (nI P), .int (nI n), .int (nI room), .ref rR, .ref rC, .ref rV, .int (nI held), .ref rRi, .long (lN gg), .int (nI att), .int (nI prod), .ref rDr, .ref rVe, .ref rMa, .ref rRo, .int (nI rs), .ref rc, .ref rb, .ref rt, .int dg, .ref rSo, .int (nI ss)]))] (fun _ => nI prod) (fun _ => [(h0, .inr (5, [.int (nI P), .int (nI n), .int (nI room), .ref rR, .ref rC, .ref rV, .int (nI held), .ref rRi, .long (lN gg), .int (nI att), .int (nI prod), .ref rDr, .ref rVe, .ref rMa, .ref rRo, .int (nI rs), .ref rc, .ref rb, .ref rt, .int dg, .ref rSo, .int (nI ss)]))]) 0 0 := by
  refine kd_enterI (cc := cX5_products) (maxL := 1) (by decide) rfl (Nat.le_of_ble_eq_true rfl) ?_
  intro p e s m args below meth c A ls Q hx hb hr hts hown hlk hnm hml hP hK hD hA hS hl ret
  have hl : lv_has ls 1 [(0, .ref h0)] := hl
  have hown : s.vm.findClass RX5 = some m.cls := hown
  have i_X5 : ∀ w ∈ wsX50, w ∈ wsX5_products := by decide +kernel
  have fl95 := hts (.fieldLink RX5 95 "KrylovDeskModel" "products" "I") (by decide +kernel)
  refine lv_aload_n hx hb dX5_products_0 rfl (lv_at hl 0 rfl) ?_
  refine va_get (D := D) (ci := 5) (v := .int (nI prod)) (C := RX5) (T := TX5) (N := 22) hx hb hts i_X5 hown hK hP 0 rfl rfl 10 (by decide) fl95 (fun _ h9 => h9) rfl dX5_products_1 ?_
  exact ret () _ _ _ _ _ dX5_products_4 rfl hS (hP.sub [0] rfl) (hD.sub [0] (by decide) rfl)

set_option maxHeartbeats 4000000 in
set_option maxRecDepth 100000 in
/-- count -/
theorem c_X5_count (l : Launch) (D : va_G) (cI cJ : ClassId) (h0 rR rC rV rRi rDr rVe rMa rRo rc rb rt rSo : Nat) (P n room held gg att prod rs ss : Nat) (dg : Int32) (i0 : Int32) : kd_MI (S := Unit) l yX5_count wsX5_count { frames := 0, cells := 0, slots := 0, locals := 0 } [.ref h0, .int i0] D vwCl cI cJ [(h0, .inr (5, [.int (nI P), .int (nI n), .int (nI room), .ref rR, .ref rC, .ref rV, .int (nI held), .ref rRi, .long (lN gg), .int (nI att), .int (nI prod), .ref rDr, .ref rVe, .ref rMa, .ref rRo, .int (nI rs), .ref rc, .ref rb, .ref rt, .int dg, .ref rSo, .int (nI ss)]))] (fun _ => pCount P n held gg att i0) (fun _ => [(h0, .inr (5, [.int (nI P), .int (nI n), .int (nI room), .ref rR, .ref rC, .ref rV, .int (nI held), .ref rRi, .long (lN gg), .int (nI att), .int (nI prod), .ref rDr, .ref rVe, .ref rMa, .ref rRo, .int (nI rs), .ref rc, .ref rb, .ref rt, .int dg, .ref rSo, .int (nI ss)]))]) 0 0 := by
  refine kd_enterI (cc := cX5_count) (maxL := 2) (by decide) rfl (Nat.le_of_ble_eq_true rfl) ?_
  intro p e s m args below meth c A ls Q hx hb hr hts hown hlk hnm hml hP hK hD hA hS hl ret
  have hl : lv_has ls 2 [(0, .ref h0), (1, .int i0)] := hl
  have hown : s.vm.findClass RX5 = some m.cls := hown
  have i_X5 : ∀ w ∈ wsX50, w ∈ wsX5_count := by decide +kernel
  have fl60 := hts (.fieldLink RX5 60 "KrylovDeskModel" "prime" "I") (by decide +kernel)
  have fl63 := hts (.fieldLink RX5 63 "KrylovDeskModel" "n" "I") (by decide +kernel)
  have fl76 := hts (.fieldLink RX5 76 "KrylovDeskModel" "entries" "I") (by decide +kernel)
  have fl23 := hts (.fieldLink RX5 23 "KrylovDeskModel" "generator" "J") (by decide +kernel)
  have fl112 := hts (.fieldLink RX5 112 "KrylovDeskModel" "attempts" "I") (by decide +kernel)
  refine lv_iload_n hx hb dX5_count_0 rfl (lv_at hl 1 rfl) ?_
  by_cases s_0 : i0 = 0
  · subst s_0
    refine lv_tableIn (tgt := 36) hx hb dX5_count_1 (by decide) (by decide) rfl (by decide) ?_
    have hl := lv_sub hl [0] rfl
    refine lv_aload_n hx hb dX5_count_36 rfl (lv_at hl 0 rfl) ?_
    refine va_get (D := D) (ci := 5) (v := .int (nI P)) (C := RX5) (T := TX5) (N := 22) hx hb hts i_X5 hown hK hP 0 rfl rfl 0 (by decide) fl60 (fun _ h9 => h9) rfl dX5_count_37 ?_
    exact ret () _ _ _ _ _ dX5_count_40 rfl hS (hP.sub [0] rfl) (hD.sub [0] (by decide) rfl)
  by_cases s_1 : i0 = 1
  · subst s_1
    refine lv_tableIn (tgt := 41) hx hb dX5_count_1 (by decide) (by decide) rfl (by decide) ?_
    have hl := lv_sub hl [0] rfl
    refine lv_aload_n hx hb dX5_count_41 rfl (lv_at hl 0 rfl) ?_
    refine va_get (D := D) (ci := 5) (v := .int (nI n)) (C := RX5) (T := TX5) (N := 22) hx hb hts i_X5 hown hK hP 0 rfl rfl 1 (by decide) fl63 (fun _ h9 => h9) rfl dX5_count_42 ?_
    exact ret () _ _ _ _ _ dX5_count_45 rfl hS (hP.sub [0] rfl) (hD.sub [0] (by decide) rfl)
  by_cases s_2 : i0 = 2
  · subst s_2
    refine lv_tableIn (tgt := 46) hx hb dX5_count_1 (by decide) (by decide) rfl (by decide) ?_
    have hl := lv_sub hl [0] rfl
    refine lv_aload_n hx hb dX5_count_46 rfl (lv_at hl 0 rfl) ?_
    refine va_get (D := D) (ci := 5) (v := .int (nI held)) (C := RX5) (T := TX5) (N := 22) hx hb hts i_X5 hown hK hP 0 rfl rfl 6 (by decide) fl76 (fun _ h9 => h9) rfl dX5_count_47 ?_
    exact ret () _ _ _ _ _ dX5_count_50 rfl hS (hP.sub [0] rfl) (hD.sub [0] (by decide) rfl)
  by_cases s_3 : i0 = 3
  · subst s_3
    refine lv_tableIn (tgt := 51) hx hb dX5_count_1 (by decide) (by decide) rfl (by decide) ?_
    have hl := lv_sub hl [0] rfl
    refine lv_aload_n hx hb dX5_count_51 rfl (lv_at hl 0 rfl) ?_
    refine va_get (D := D) (ci := 5) (v := .long (lN gg)) (C := RX5) (T := TX5) (N := 22) hx hb hts i_X5 hown hK hP 0 rfl rfl 8 (by decide) fl23 (fun _ h9 => h9) rfl dX5_count_52 ?_
    refine kd_l2i hx hb dX5_count_55 ?_
    exact ret () _ _ _ _ _ dX5_count_56 rfl hS (hP.sub [0] rfl) (hD.sub [0] (by decide) rfl)
  by_cases s_4 : i0 = 4
  · subst s_4
    refine lv_tableIn (tgt := 57) hx hb dX5_count_1 (by decide) (by decide) rfl (by decide) ?_
    have hl := lv_sub hl [0] rfl
    refine lv_aload_n hx hb dX5_count_57 rfl (lv_at hl 0 rfl) ?_
    refine va_get (D := D) (ci := 5) (v := .int (nI att)) (C := RX5) (T := TX5) (N := 22) hx hb hts i_X5 hown hK hP 0 rfl rfl 9 (by decide) fl112 (fun _ h9 => h9) rfl dX5_count_58 ?_
    exact ret () _ _ _ _ _ dX5_count_61 rfl hS (hP.sub [0] rfl) (hD.sub [0] (by decide) rfl)
  refine lv_tableOut (tgt := 62) hx hb dX5_count_1 (kd_out4 s_0 s_1 s_2 s_3 s_4) (by decide) ?_
  refine lv_iconst (v := (-1)) hx hb dX5_count_62 (by decide) ?_
  exact ret () _ _ _ _ _ dX5_count_63 (by unfold pCount; rw [if_neg s_0, if_neg s_1, if_neg s_2, if_neg s_3, if_neg s_4]) hS (hP.sub [0] rfl) (hD.sub [0] (by decide) rfl)

set_option maxHeartbeats 4000000 in
set_option maxRecDepth 100000 in
/-- a reference -/
theorem c_X5_init (l : Launch) (D : va_G) (cI cJ : ClassId) (h0 : Nat) (p0 n0 e0 : Int32) : kd_MV (S := Nat × Nat × Nat × Nat × Nat × Nat × Nat × Nat × Nat × Nat × Nat × Nat) l yX5_init wsX5_init { frames := 1, cells := 12, slots := 712, locals := 22 } [.ref h0, .int p0, .int n0, .int e0] D vwCl cI cJ [(h0, .inr (5, [.int (nI 0), .int (nI 0), .int (nI 0), .null, .null, .null, .int (nI 0), .null, .long (lN 0), .int (nI 0), .int (nI 0), .null, .null, .null, .null, .int (nI 0), .null, .null, .null, .int (nI 0), .null, .int (nI 0)]))] (fun u => [(h0, .inr (5, [.int (nI (pPr p0)), .int (nI (pCl 1 16 n0)), .int (nI (pCl 1 100 e0)), .ref u.1, .ref u.2.1, .ref u.2.2.1, .int (nI 0), .ref u.2.2.2.1, .long (lN 1), .int (nI 0), .int (nI 0), .ref u.2.2.2.2.1, .ref u.2.2.2.2.2.1, .ref u.2.2.2.2.2.2.1, .ref u.2.2.2.2.2.2.2.1, .int (nI 0), .ref u.2.2.2.2.2.2.2.2.1, .ref u.2.2.2.2.2.2.2.2.2.1, .ref u.2.2.2.2.2.2.2.2.2.2.1, .int (-1), .ref u.2.2.2.2.2.2.2.2.2.2.2, .int (nI 0)])), (u.1, kd_ar cI 100 (fun _ => 0)), (u.2.1, kd_ar cI 100 (fun _ => 0)), (u.2.2.1, kd_al cJ 100 (fun _ => 0)), (u.2.2.2.1, kd_al cJ 16 (fun _ => 0)), (u.2.2.2.2.1, kd_al cJ 16 (fun _ => 0)), (u.2.2.2.2.2.1, kd_al cJ 16 (fun _ => 0)), (u.2.2.2.2.2.2.1, kd_al cJ 16 (fun _ => 0)), (u.2.2.2.2.2.2.2.1, kd_al cJ 32 (fun _ => 0)), (u.2.2.2.2.2.2.2.2.1, kd_al cJ 100 (fun _ => 0)), (u.2.2.2.2.2.2.2.2.2.1, kd_al cJ 100 (fun _ => 0)), (u.2.2.2.2.2.2.2.2.2.2.1, kd_al cJ 100 (fun _ => 0)), (u.2.2.2.2.2.2.2.2.2.2.2, kd_al cJ 16 (fun _ => 0))]) 12 712 := by
  refine kd_enterV (cc := cX5_init) (maxL := 5) (by decide) rfl (Nat.le_of_ble_eq_true rfl) ?_
  intro p e s m args below meth c A ls Q hx hb hr hts hown hlk hnm hml hP hK hD hA hS hl ret
  have hl : lv_has ls 5 [(0, .ref h0), (1, .int p0), (2, .int n0), (3, .int e0)] := hl
  have hown : s.vm.findClass RX5 = some m.cls := hown
  have i_X5 : ∀ w ∈ wsX50, w ∈ wsX5_init := by decide +kernel
  have fl7 := hts (.fieldLink RX5 7 "KrylovDeskModel" "rows" "[I") (by decide +kernel)
  have fl13 := hts (.fieldLink RX5 13 "KrylovDeskModel" "columns" "[I") (by decide +kernel)
  have fl16 := hts (.fieldLink RX5 16 "KrylovDeskModel" "values" "[J") (by decide +kernel)
  have fl20 := hts (.fieldLink RX5 20 "KrylovDeskModel" "right" "[J") (by decide +kernel)
  have fl23 := hts (.fieldLink RX5 23 "KrylovDeskModel" "generator" "J") (by decide +kernel)
  have fl27 := hts (.fieldLink RX5 27 "KrylovDeskModel" "drawn" "[J") (by decide +kernel)
  have fl30 := hts (.fieldLink RX5 30 "KrylovDeskModel" "vector" "[J") (by decide +kernel)
  have fl33 := hts (.fieldLink RX5 33 "KrylovDeskModel" "made" "[J") (by decide +kernel)
  have fl36 := hts (.fieldLink RX5 36 "KrylovDeskModel" "row" "[J") (by decide +kernel)
  have fl39 := hts (.fieldLink RX5 39 "KrylovDeskModel" "c" "[J") (by decide +kernel)
  have fl42 := hts (.fieldLink RX5 42 "KrylovDeskModel" "b" "[J") (by decide +kernel)
  have fl45 := hts (.fieldLink RX5 45 "KrylovDeskModel" "t" "[J") (by decide +kernel)
  have fl48 := hts (.fieldLink RX5 48 "KrylovDeskModel" "degree" "I") (by decide +kernel)
  have fl52 := hts (.fieldLink RX5 52 "KrylovDeskModel" "solution" "[J") (by decide +kernel)
  have fl60 := hts (.fieldLink RX5 60 "KrylovDeskModel" "prime" "I") (by decide +kernel)
  have fl63 := hts (.fieldLink RX5 63 "KrylovDeskModel" "n" "I") (by decide +kernel)
  have fl66 := hts (.fieldLink RX5 66 "KrylovDeskModel" "room" "I") (by decide +kernel)
  have kc55 := hts (.constant RX5 55 (46337)) (by decide +kernel)
  obtain ⟨hp1, hp2⟩ := pCl_in (lo := 2) (hi := 46337) (by omega) p0
  refine lv_aload_n hx hb dX5_init_0 rfl (lv_at hl 0 rfl) ?_
  refine W.objInit hx hb hown (hts (.methodLink RX5 1 objectInit) (by decide +kernel)) (hts (.instanceMethod objectInit) (by decide +kernel)) (hts (.code objectInit ⟨#[0xb1]⟩ 1 none) (List.mem_of_getElem? (i := 3) rfl)) rfl (by rw [hml]; exact hl.1) rfl dX5_init_1 (Nat.le_of_ble_eq_true rfl) (Nat.le_of_ble_eq_true rfl) ?_
  refine W.eq (g2 := F0 m 4 ls []) rfl ?_
  refine lv_aload_n hx hb dX5_init_4 rfl (lv_at hl 0 rfl) ?_
  refine lv_bipush (v := (nI 100)) hx hb dX5_init_5 (by decide) ?_
  refine kd_newI hx hb (hts (.arrayClass .int) (by decide +kernel)) hK hP hD hS hA (by omega) (show _ ≤ 12 from by omega) (show _ ≤ 712 from by omega) dX5_init_7 (fun rR H hP hD hS => ?_)
  have hP : va_P D vwCl [(h0, .inr (5, [.int (nI 0), .int (nI 0), .int (nI 0), .null, .null, .null, .int (nI 0), .null, .long (lN 0), .int (nI 0), .int (nI 0), .null, .null, .null, .null, .int (nI 0), .null, .null, .null, .int (nI 0), .null, .int (nI 0)])), (rR, kd_ar cI 100 (fun _ => 0))] H := hP
  have hD : va_D A [(h0, .inr (5, [.int (nI 0), .int (nI 0), .int (nI 0), .null, .null, .null, .int (nI 0), .null, .long (lN 0), .int (nI 0), .int (nI 0), .null, .null, .null, .null, .int (nI 0), .null, .null, .null, .int (nI 0), .null, .int (nI 0)])), (rR, kd_ar cI 100 (fun _ => 0))] := hD
  refine va_putF (D := D) (ci := 5) (v := .ref rR) (ty := .array .int) (C := RX5) (T := TX5) (N := 22) hx hb hts i_X5 tyX5 tyX5_ok nmX5 hown hK hP hD hS 0 rfl rfl 3 (by decide) fl7 (fun _ h9 => h9) rfl hnm rfl (by decide +kernel) rfl rfl (Nat.le_of_ble_eq_true rfl) dX5_init_9 (fun H locs hP hD hS => ?_)
  have hP : va_P D vwCl [(h0, .inr (5, [.int (nI 0), .int (nI 0), .int (nI 0), .ref rR, .null, .null, .int (nI 0), .null, .long (lN 0), .int (nI 0), .int (nI 0), .null, .null, .null, .null, .int (nI 0), .null, .null, .null, .int (nI 0), .null, .int (nI 0)])), (rR, kd_ar cI 100 (fun _ => 0))] H := hP
  have hD : va_D A [(h0, .inr (5, [.int (nI 0), .int (nI 0), .int (nI 0), .ref rR, .null, .null, .int (nI 0), .null, .long (lN 0), .int (nI 0), .int (nI 0), .null, .null, .null, .null, .int (nI 0), .null, .null, .null, .int (nI 0), .null, .int (nI 0)])), (rR, kd_ar cI 100 (fun _ => 0))] := hD
  refine lv_aload_n hx hb dX5_init_12 rfl (lv_at hl 0 rfl) ?_
  refine lv_bipush (v := (nI 100)) hx hb dX5_init_13 (by decide) ?_
  refine kd_newI hx hb (hts (.arrayClass .int) (by decide +kernel)) hK hP hD hS hA (by omega) (show _ ≤ 12 from by omega) (show _ ≤ 712 from by omega) dX5_init_15 (fun rC H hP hD hS => ?_)
  have hP : va_P D vwCl [(h0, .inr (5, [.int (nI 0), .int (nI 0), .int (nI 0), .ref rR, .null, .null, .int (nI 0), .null, .long (lN 0), .int (nI 0), .int (nI 0), .null, .null, .null, .null, .int (nI 0), .null, .null, .null, .int (nI 0), .null, .int (nI 0)])), (rR, kd_ar cI 100 (fun _ => 0)), (rC, kd_ar cI 100 (fun _ => 0))] H := hP
  have hD : va_D A [(h0, .inr (5, [.int (nI 0), .int (nI 0), .int (nI 0), .ref rR, .null, .null, .int (nI 0), .null, .long (lN 0), .int (nI 0), .int (nI 0), .null, .null, .null, .null, .int (nI 0), .null, .null, .null, .int (nI 0), .null, .int (nI 0)])), (rR, kd_ar cI 100 (fun _ => 0)), (rC, kd_ar cI 100 (fun _ => 0))] := hD
  refine va_putF (D := D) (ci := 5) (v := .ref rC) (ty := .array .int) (C := RX5) (T := TX5) (N := 22) hx hb hts i_X5 tyX5 tyX5_ok nmX5 hown hK hP hD hS 0 rfl rfl 4 (by decide) fl13 (fun _ h9 => h9) rfl hnm rfl (by decide +kernel) rfl rfl (Nat.le_of_ble_eq_true rfl) dX5_init_17 (fun H locs hP hD hS => ?_)
  have hP : va_P D vwCl [(h0, .inr (5, [.int (nI 0), .int (nI 0), .int (nI 0), .ref rR, .ref rC, .null, .int (nI 0), .null, .long (lN 0), .int (nI 0), .int (nI 0), .null, .null, .null, .null, .int (nI 0), .null, .null, .null, .int (nI 0), .null, .int (nI 0)])), (rR, kd_ar cI 100 (fun _ => 0)), (rC, kd_ar cI 100 (fun _ => 0))] H := hP
  have hD : va_D A [(h0, .inr (5, [.int (nI 0), .int (nI 0), .int (nI 0), .ref rR, .ref rC, .null, .int (nI 0), .null, .long (lN 0), .int (nI 0), .int (nI 0), .null, .null, .null, .null, .int (nI 0), .null, .null, .null, .int (nI 0), .null, .int (nI 0)])), (rR, kd_ar cI 100 (fun _ => 0)), (rC, kd_ar cI 100 (fun _ => 0))] := hD
  refine lv_aload_n hx hb dX5_init_20 rfl (lv_at hl 0 rfl) ?_
  refine lv_bipush (v := (nI 100)) hx hb dX5_init_21 (by decide) ?_
  refine kd_newJ hx hb (hts (.arrayClass .long) (by decide +kernel)) hK hP hD hS hA (by omega) (show _ ≤ 12 from by omega) (show _ ≤ 712 from by omega) dX5_init_23 (fun rV H hP hD hS => ?_)
  have hP : va_P D vwCl [(h0, .inr (5, [.int (nI 0), .int (nI 0), .int (nI 0), .ref rR, .ref rC, .null, .int (nI 0), .null, .long (lN 0), .int (nI 0), .int (nI 0), .null, .null, .null, .null, .int (nI 0), .null, .null, .null, .int (nI 0), .null, .int (nI 0)])), (rR, kd_ar cI 100 (fun _ => 0)), (rC, kd_ar cI 100 (fun _ => 0)), (rV, kd_al cJ 100 (fun _ => 0))] H := hP
  have hD : va_D A [(h0, .inr (5, [.int (nI 0), .int (nI 0), .int (nI 0), .ref rR, .ref rC, .null, .int (nI 0), .null, .long (lN 0), .int (nI 0), .int (nI 0), .null, .null, .null, .null, .int (nI 0), .null, .null, .null, .int (nI 0), .null, .int (nI 0)])), (rR, kd_ar cI 100 (fun _ => 0)), (rC, kd_ar cI 100 (fun _ => 0)), (rV, kd_al cJ 100 (fun _ => 0))] := hD
  refine va_putF (D := D) (ci := 5) (v := .ref rV) (ty := .array .long) (C := RX5) (T := TX5) (N := 22) hx hb hts i_X5 tyX5 tyX5_ok nmX5 hown hK hP hD hS 0 rfl rfl 5 (by decide) fl16 (fun _ h9 => h9) rfl hnm rfl (by decide +kernel) rfl rfl (Nat.le_of_ble_eq_true rfl) dX5_init_25 (fun H locs hP hD hS => ?_)
  have hP : va_P D vwCl [(h0, .inr (5, [.int (nI 0), .int (nI 0), .int (nI 0), .ref rR, .ref rC, .ref rV, .int (nI 0), .null, .long (lN 0), .int (nI 0), .int (nI 0), .null, .null, .null, .null, .int (nI 0), .null, .null, .null, .int (nI 0), .null, .int (nI 0)])), (rR, kd_ar cI 100 (fun _ => 0)), (rC, kd_ar cI 100 (fun _ => 0)), (rV, kd_al cJ 100 (fun _ => 0))] H := hP
  have hD : va_D A [(h0, .inr (5, [.int (nI 0), .int (nI 0), .int (nI 0), .ref rR, .ref rC, .ref rV, .int (nI 0), .null, .long (lN 0), .int (nI 0), .int (nI 0), .null, .null, .null, .null, .int (nI 0), .null, .null, .null, .int (nI 0), .null, .int (nI 0)])), (rR, kd_ar cI 100 (fun _ => 0)), (rC, kd_ar cI 100 (fun _ => 0)), (rV, kd_al cJ 100 (fun _ => 0))] := hD
  refine lv_aload_n hx hb dX5_init_28 rfl (lv_at hl 0 rfl) ?_
  refine lv_bipush (v := (nI 16)) hx hb dX5_init_29 (by decide) ?_
  refine kd_newJ hx hb (hts (.arrayClass .long) (by decide +kernel)) hK hP hD hS hA (by omega) (show _ ≤ 12 from by omega) (show _ ≤ 712 from by omega) dX5_init_31 (fun rRi H hP hD hS => ?_)
  have hP : va_P D vwCl [(h0, .inr (5, [.int (nI 0), .int (nI 0), .int (nI 0), .ref rR, .ref rC, .ref rV, .int (nI 0), .null, .long (lN 0), .int (nI 0), .int (nI 0), .null, .null, .null, .null, .int (nI 0), .null, .null, .null, .int (nI 0), .null, .int (nI 0)])), (rR, kd_ar cI 100 (fun _ => 0)), (rC, kd_ar cI 100 (fun _ => 0)), (rV, kd_al cJ 100 (fun _ => 0)), (rRi, kd_al cJ 16 (fun _ => 0))] H := hP
  have hD : va_D A [(h0, .inr (5, [.int (nI 0), .int (nI 0), .int (nI 0), .ref rR, .ref rC, .ref rV, .int (nI 0), .null, .long (lN 0), .int (nI 0), .int (nI 0), .null, .null, .null, .null, .int (nI 0), .null, .null, .null, .int (nI 0), .null, .int (nI 0)])), (rR, kd_ar cI 100 (fun _ => 0)), (rC, kd_ar cI 100 (fun _ => 0)), (rV, kd_al cJ 100 (fun _ => 0)), (rRi, kd_al cJ 16 (fun _ => 0))] := hD
  refine va_putF (D := D) (ci := 5) (v := .ref rRi) (ty := .array .long) (C := RX5) (T := TX5) (N := 22) hx hb hts i_X5 tyX5 tyX5_ok nmX5 hown hK hP hD hS 0 rfl rfl 7 (by decide) fl20 (fun _ h9 => h9) rfl hnm rfl (by decide +kernel) rfl rfl (Nat.le_of_ble_eq_true rfl) dX5_init_33 (fun H locs hP hD hS => ?_)
  have hP : va_P D vwCl [(h0, .inr (5, [.int (nI 0), .int (nI 0), .int (nI 0), .ref rR, .ref rC, .ref rV, .int (nI 0), .ref rRi, .long (lN 0), .int (nI 0), .int (nI 0), .null, .null, .null, .null, .int (nI 0), .null, .null, .null, .int (nI 0), .null, .int (nI 0)])), (rR, kd_ar cI 100 (fun _ => 0)), (rC, kd_ar cI 100 (fun _ => 0)), (rV, kd_al cJ 100 (fun _ => 0)), (rRi, kd_al cJ 16 (fun _ => 0))] H := hP
  have hD : va_D A [(h0, .inr (5, [.int (nI 0), .int (nI 0), .int (nI 0), .ref rR, .ref rC, .ref rV, .int (nI 0), .ref rRi, .long (lN 0), .int (nI 0), .int (nI 0), .null, .null, .null, .null, .int (nI 0), .null, .null, .null, .int (nI 0), .null, .int (nI 0)])), (rR, kd_ar cI 100 (fun _ => 0)), (rC, kd_ar cI 100 (fun _ => 0)), (rV, kd_al cJ 100 (fun _ => 0)), (rRi, kd_al cJ 16 (fun _ => 0))] := hD
  refine lv_aload_n hx hb dX5_init_36 rfl (lv_at hl 0 rfl) ?_
  refine lv_lconst (v := lN 1) hx hb dX5_init_37 (by decide) ?_
  refine va_put (D := D) (ci := 5) (v := .long (lN 1)) (ty := .long) (C := RX5) (T := TX5) (N := 22) hx hb hts i_X5 tyX5 tyX5_ok nmX5 hown hK hP hD hS 0 rfl rfl 8 (by decide) fl23 (fun _ h9 => h9) rfl (by decide +kernel) rfl rfl (Nat.le_of_ble_eq_true rfl) dX5_init_38 (fun H locs hP hD hS => ?_)
  have hP : va_P D vwCl [(h0, .inr (5, [.int (nI 0), .int (nI 0), .int (nI 0), .ref rR, .ref rC, .ref rV, .int (nI 0), .ref rRi, .long (lN 1), .int (nI 0), .int (nI 0), .null, .null, .null, .null, .int (nI 0), .null, .null, .null, .int (nI 0), .null, .int (nI 0)])), (rR, kd_ar cI 100 (fun _ => 0)), (rC, kd_ar cI 100 (fun _ => 0)), (rV, kd_al cJ 100 (fun _ => 0)), (rRi, kd_al cJ 16 (fun _ => 0))] H := hP
  have hD : va_D A [(h0, .inr (5, [.int (nI 0), .int (nI 0), .int (nI 0), .ref rR, .ref rC, .ref rV, .int (nI 0), .ref rRi, .long (lN 1), .int (nI 0), .int (nI 0), .null, .null, .null, .null, .int (nI 0), .null, .null, .null, .int (nI 0), .null, .int (nI 0)])), (rR, kd_ar cI 100 (fun _ => 0)), (rC, kd_ar cI 100 (fun _ => 0)), (rV, kd_al cJ 100 (fun _ => 0)), (rRi, kd_al cJ 16 (fun _ => 0))] := hD
  refine lv_aload_n hx hb dX5_init_41 rfl (lv_at hl 0 rfl) ?_
  refine lv_bipush (v := (nI 16)) hx hb dX5_init_42 (by decide) ?_
  refine kd_newJ hx hb (hts (.arrayClass .long) (by decide +kernel)) hK hP hD hS hA (by omega) (show _ ≤ 12 from by omega) (show _ ≤ 712 from by omega) dX5_init_44 (fun rDr H hP hD hS => ?_)
  have hP : va_P D vwCl [(h0, .inr (5, [.int (nI 0), .int (nI 0), .int (nI 0), .ref rR, .ref rC, .ref rV, .int (nI 0), .ref rRi, .long (lN 1), .int (nI 0), .int (nI 0), .null, .null, .null, .null, .int (nI 0), .null, .null, .null, .int (nI 0), .null, .int (nI 0)])), (rR, kd_ar cI 100 (fun _ => 0)), (rC, kd_ar cI 100 (fun _ => 0)), (rV, kd_al cJ 100 (fun _ => 0)), (rRi, kd_al cJ 16 (fun _ => 0)), (rDr, kd_al cJ 16 (fun _ => 0))] H := hP
  have hD : va_D A [(h0, .inr (5, [.int (nI 0), .int (nI 0), .int (nI 0), .ref rR, .ref rC, .ref rV, .int (nI 0), .ref rRi, .long (lN 1), .int (nI 0), .int (nI 0), .null, .null, .null, .null, .int (nI 0), .null, .null, .null, .int (nI 0), .null, .int (nI 0)])), (rR, kd_ar cI 100 (fun _ => 0)), (rC, kd_ar cI 100 (fun _ => 0)), (rV, kd_al cJ 100 (fun _ => 0)), (rRi, kd_al cJ 16 (fun _ => 0)), (rDr, kd_al cJ 16 (fun _ => 0))] := hD
  refine va_putF (D := D) (ci := 5) (v := .ref rDr) (ty := .array .long) (C := RX5) (T := TX5) (N := 22) hx hb hts i_X5 tyX5 tyX5_ok nmX5 hown hK hP hD hS 0 rfl rfl 11 (by decide) fl27 (fun _ h9 => h9) rfl hnm rfl (by decide +kernel) rfl rfl (Nat.le_of_ble_eq_true rfl) dX5_init_46 (fun H locs hP hD hS => ?_)
  have hP : va_P D vwCl [(h0, .inr (5, [.int (nI 0), .int (nI 0), .int (nI 0), .ref rR, .ref rC, .ref rV, .int (nI 0), .ref rRi, .long (lN 1), .int (nI 0), .int (nI 0), .ref rDr, .null, .null, .null, .int (nI 0), .null, .null, .null, .int (nI 0), .null, .int (nI 0)])), (rR, kd_ar cI 100 (fun _ => 0)), (rC, kd_ar cI 100 (fun _ => 0)), (rV, kd_al cJ 100 (fun _ => 0)), (rRi, kd_al cJ 16 (fun _ => 0)), (rDr, kd_al cJ 16 (fun _ => 0))] H := hP
  have hD : va_D A [(h0, .inr (5, [.int (nI 0), .int (nI 0), .int (nI 0), .ref rR, .ref rC, .ref rV, .int (nI 0), .ref rRi, .long (lN 1), .int (nI 0), .int (nI 0), .ref rDr, .null, .null, .null, .int (nI 0), .null, .null, .null, .int (nI 0), .null, .int (nI 0)])), (rR, kd_ar cI 100 (fun _ => 0)), (rC, kd_ar cI 100 (fun _ => 0)), (rV, kd_al cJ 100 (fun _ => 0)), (rRi, kd_al cJ 16 (fun _ => 0)), (rDr, kd_al cJ 16 (fun _ => 0))] := hD
  refine lv_aload_n hx hb dX5_init_49 rfl (lv_at hl 0 rfl) ?_
  refine lv_bipush (v := (nI 16)) hx hb dX5_init_50 (by decide) ?_
  refine kd_newJ hx hb (hts (.arrayClass .long) (by decide +kernel)) hK hP hD hS hA (by omega) (show _ ≤ 12 from by omega) (show _ ≤ 712 from by omega) dX5_init_52 (fun rVe H hP hD hS => ?_)
  have hP : va_P D vwCl [(h0, .inr (5, [.int (nI 0), .int (nI 0), .int (nI 0), .ref rR, .ref rC, .ref rV, .int (nI 0), .ref rRi, .long (lN 1), .int (nI 0), .int (nI 0), .ref rDr, .null, .null, .null, .int (nI 0), .null, .null, .null, .int (nI 0), .null, .int (nI 0)])), (rR, kd_ar cI 100 (fun _ => 0)), (rC, kd_ar cI 100 (fun _ => 0)), (rV, kd_al cJ 100 (fun _ => 0)), (rRi, kd_al cJ 16 (fun _ => 0)), (rDr, kd_al cJ 16 (fun _ => 0)), (rVe, kd_al cJ 16 (fun _ => 0))] H := hP
  have hD : va_D A [(h0, .inr (5, [.int (nI 0), .int (nI 0), .int (nI 0), .ref rR, .ref rC, .ref rV, .int (nI 0), .ref rRi, .long (lN 1), .int (nI 0), .int (nI 0), .ref rDr, .null, .null, .null, .int (nI 0), .null, .null, .null, .int (nI 0), .null, .int (nI 0)])), (rR, kd_ar cI 100 (fun _ => 0)), (rC, kd_ar cI 100 (fun _ => 0)), (rV, kd_al cJ 100 (fun _ => 0)), (rRi, kd_al cJ 16 (fun _ => 0)), (rDr, kd_al cJ 16 (fun _ => 0)), (rVe, kd_al cJ 16 (fun _ => 0))] := hD
  refine va_putF (D := D) (ci := 5) (v := .ref rVe) (ty := .array .long) (C := RX5) (T := TX5) (N := 22) hx hb hts i_X5 tyX5 tyX5_ok nmX5 hown hK hP hD hS 0 rfl rfl 12 (by decide) fl30 (fun _ h9 => h9) rfl hnm rfl (by decide +kernel) rfl rfl (Nat.le_of_ble_eq_true rfl) dX5_init_54 (fun H locs hP hD hS => ?_)
  have hP : va_P D vwCl [(h0, .inr (5, [.int (nI 0), .int (nI 0), .int (nI 0), .ref rR, .ref rC, .ref rV, .int (nI 0), .ref rRi, .long (lN 1), .int (nI 0), .int (nI 0), .ref rDr, .ref rVe, .null, .null, .int (nI 0), .null, .null, .null, .int (nI 0), .null, .int (nI 0)])), (rR, kd_ar cI 100 (fun _ => 0)), (rC, kd_ar cI 100 (fun _ => 0)), (rV, kd_al cJ 100 (fun _ => 0)), (rRi, kd_al cJ 16 (fun _ => 0)), (rDr, kd_al cJ 16 (fun _ => 0)), (rVe, kd_al cJ 16 (fun _ => 0))] H := hP
  have hD : va_D A [(h0, .inr (5, [.int (nI 0), .int (nI 0), .int (nI 0), .ref rR, .ref rC, .ref rV, .int (nI 0), .ref rRi, .long (lN 1), .int (nI 0), .int (nI 0), .ref rDr, .ref rVe, .null, .null, .int (nI 0), .null, .null, .null, .int (nI 0), .null, .int (nI 0)])), (rR, kd_ar cI 100 (fun _ => 0)), (rC, kd_ar cI 100 (fun _ => 0)), (rV, kd_al cJ 100 (fun _ => 0)), (rRi, kd_al cJ 16 (fun _ => 0)), (rDr, kd_al cJ 16 (fun _ => 0)), (rVe, kd_al cJ 16 (fun _ => 0))] := hD
  refine lv_aload_n hx hb dX5_init_57 rfl (lv_at hl 0 rfl) ?_
  refine lv_bipush (v := (nI 16)) hx hb dX5_init_58 (by decide) ?_
  refine kd_newJ hx hb (hts (.arrayClass .long) (by decide +kernel)) hK hP hD hS hA (by omega) (show _ ≤ 12 from by omega) (show _ ≤ 712 from by omega) dX5_init_60 (fun rMa H hP hD hS => ?_)
  have hP : va_P D vwCl [(h0, .inr (5, [.int (nI 0), .int (nI 0), .int (nI 0), .ref rR, .ref rC, .ref rV, .int (nI 0), .ref rRi, .long (lN 1), .int (nI 0), .int (nI 0), .ref rDr, .ref rVe, .null, .null, .int (nI 0), .null, .null, .null, .int (nI 0), .null, .int (nI 0)])), (rR, kd_ar cI 100 (fun _ => 0)), (rC, kd_ar cI 100 (fun _ => 0)), (rV, kd_al cJ 100 (fun _ => 0)), (rRi, kd_al cJ 16 (fun _ => 0)), (rDr, kd_al cJ 16 (fun _ => 0)), (rVe, kd_al cJ 16 (fun _ => 0)), (rMa, kd_al cJ 16 (fun _ => 0))] H := hP
  have hD : va_D A [(h0, .inr (5, [.int (nI 0), .int (nI 0), .int (nI 0), .ref rR, .ref rC, .ref rV, .int (nI 0), .ref rRi, .long (lN 1), .int (nI 0), .int (nI 0), .ref rDr, .ref rVe, .null, .null, .int (nI 0), .null, .null, .null, .int (nI 0), .null, .int (nI 0)])), (rR, kd_ar cI 100 (fun _ => 0)), (rC, kd_ar cI 100 (fun _ => 0)), (rV, kd_al cJ 100 (fun _ => 0)), (rRi, kd_al cJ 16 (fun _ => 0)), (rDr, kd_al cJ 16 (fun _ => 0)), (rVe, kd_al cJ 16 (fun _ => 0)), (rMa, kd_al cJ 16 (fun _ => 0))] := hD
  refine va_putF (D := D) (ci := 5) (v := .ref rMa) (ty := .array .long) (C := RX5) (T := TX5) (N := 22) hx hb hts i_X5 tyX5 tyX5_ok nmX5 hown hK hP hD hS 0 rfl rfl 13 (by decide) fl33 (fun _ h9 => h9) rfl hnm rfl (by decide +kernel) rfl rfl (Nat.le_of_ble_eq_true rfl) dX5_init_62 (fun H locs hP hD hS => ?_)
  have hP : va_P D vwCl [(h0, .inr (5, [.int (nI 0), .int (nI 0), .int (nI 0), .ref rR, .ref rC, .ref rV, .int (nI 0), .ref rRi, .long (lN 1), .int (nI 0), .int (nI 0), .ref rDr, .ref rVe, .ref rMa, .null, .int (nI 0), .null, .null, .null, .int (nI 0), .null, .int (nI 0)])), (rR, kd_ar cI 100 (fun _ => 0)), (rC, kd_ar cI 100 (fun _ => 0)), (rV, kd_al cJ 100 (fun _ => 0)), (rRi, kd_al cJ 16 (fun _ => 0)), (rDr, kd_al cJ 16 (fun _ => 0)), (rVe, kd_al cJ 16 (fun _ => 0)), (rMa, kd_al cJ 16 (fun _ => 0))] H := hP
  have hD : va_D A [(h0, .inr (5, [.int (nI 0), .int (nI 0), .int (nI 0), .ref rR, .ref rC, .ref rV, .int (nI 0), .ref rRi, .long (lN 1), .int (nI 0), .int (nI 0), .ref rDr, .ref rVe, .ref rMa, .null, .int (nI 0), .null, .null, .null, .int (nI 0), .null, .int (nI 0)])), (rR, kd_ar cI 100 (fun _ => 0)), (rC, kd_ar cI 100 (fun _ => 0)), (rV, kd_al cJ 100 (fun _ => 0)), (rRi, kd_al cJ 16 (fun _ => 0)), (rDr, kd_al cJ 16 (fun _ => 0)), (rVe, kd_al cJ 16 (fun _ => 0)), (rMa, kd_al cJ 16 (fun _ => 0))] := hD
  refine lv_aload_n hx hb dX5_init_65 rfl (lv_at hl 0 rfl) ?_
  refine lv_bipush (v := (nI 32)) hx hb dX5_init_66 (by decide) ?_
  refine kd_newJ hx hb (hts (.arrayClass .long) (by decide +kernel)) hK hP hD hS hA (by omega) (show _ ≤ 12 from by omega) (show _ ≤ 712 from by omega) dX5_init_68 (fun rRo H hP hD hS => ?_)
  have hP : va_P D vwCl [(h0, .inr (5, [.int (nI 0), .int (nI 0), .int (nI 0), .ref rR, .ref rC, .ref rV, .int (nI 0), .ref rRi, .long (lN 1), .int (nI 0), .int (nI 0), .ref rDr, .ref rVe, .ref rMa, .null, .int (nI 0), .null, .null, .null, .int (nI 0), .null, .int (nI 0)])), (rR, kd_ar cI 100 (fun _ => 0)), (rC, kd_ar cI 100 (fun _ => 0)), (rV, kd_al cJ 100 (fun _ => 0)), (rRi, kd_al cJ 16 (fun _ => 0)), (rDr, kd_al cJ 16 (fun _ => 0)), (rVe, kd_al cJ 16 (fun _ => 0)), (rMa, kd_al cJ 16 (fun _ => 0)), (rRo, kd_al cJ 32 (fun _ => 0))] H := hP
  have hD : va_D A [(h0, .inr (5, [.int (nI 0), .int (nI 0), .int (nI 0), .ref rR, .ref rC, .ref rV, .int (nI 0), .ref rRi, .long (lN 1), .int (nI 0), .int (nI 0), .ref rDr, .ref rVe, .ref rMa, .null, .int (nI 0), .null, .null, .null, .int (nI 0), .null, .int (nI 0)])), (rR, kd_ar cI 100 (fun _ => 0)), (rC, kd_ar cI 100 (fun _ => 0)), (rV, kd_al cJ 100 (fun _ => 0)), (rRi, kd_al cJ 16 (fun _ => 0)), (rDr, kd_al cJ 16 (fun _ => 0)), (rVe, kd_al cJ 16 (fun _ => 0)), (rMa, kd_al cJ 16 (fun _ => 0)), (rRo, kd_al cJ 32 (fun _ => 0))] := hD
  refine va_putF (D := D) (ci := 5) (v := .ref rRo) (ty := .array .long) (C := RX5) (T := TX5) (N := 22) hx hb hts i_X5 tyX5 tyX5_ok nmX5 hown hK hP hD hS 0 rfl rfl 14 (by decide) fl36 (fun _ h9 => h9) rfl hnm rfl (by decide +kernel) rfl rfl (Nat.le_of_ble_eq_true rfl) dX5_init_70 (fun H locs hP hD hS => ?_)
  have hP : va_P D vwCl [(h0, .inr (5, [.int (nI 0), .int (nI 0), .int (nI 0), .ref rR, .ref rC, .ref rV, .int (nI 0), .ref rRi, .long (lN 1), .int (nI 0), .int (nI 0), .ref rDr, .ref rVe, .ref rMa, .ref rRo, .int (nI 0), .null, .null, .null, .int (nI 0), .null, .int (nI 0)])), (rR, kd_ar cI 100 (fun _ => 0)), (rC, kd_ar cI 100 (fun _ => 0)), (rV, kd_al cJ 100 (fun _ => 0)), (rRi, kd_al cJ 16 (fun _ => 0)), (rDr, kd_al cJ 16 (fun _ => 0)), (rVe, kd_al cJ 16 (fun _ => 0)), (rMa, kd_al cJ 16 (fun _ => 0)), (rRo, kd_al cJ 32 (fun _ => 0))] H := hP
  have hD : va_D A [(h0, .inr (5, [.int (nI 0), .int (nI 0), .int (nI 0), .ref rR, .ref rC, .ref rV, .int (nI 0), .ref rRi, .long (lN 1), .int (nI 0), .int (nI 0), .ref rDr, .ref rVe, .ref rMa, .ref rRo, .int (nI 0), .null, .null, .null, .int (nI 0), .null, .int (nI 0)])), (rR, kd_ar cI 100 (fun _ => 0)), (rC, kd_ar cI 100 (fun _ => 0)), (rV, kd_al cJ 100 (fun _ => 0)), (rRi, kd_al cJ 16 (fun _ => 0)), (rDr, kd_al cJ 16 (fun _ => 0)), (rVe, kd_al cJ 16 (fun _ => 0)), (rMa, kd_al cJ 16 (fun _ => 0)), (rRo, kd_al cJ 32 (fun _ => 0))] := hD
  refine lv_aload_n hx hb dX5_init_73 rfl (lv_at hl 0 rfl) ?_
  refine lv_bipush (v := (nI 100)) hx hb dX5_init_74 (by decide) ?_
  refine kd_newJ hx hb (hts (.arrayClass .long) (by decide +kernel)) hK hP hD hS hA (by omega) (show _ ≤ 12 from by omega) (show _ ≤ 712 from by omega) dX5_init_76 (fun rc H hP hD hS => ?_)
  have hP : va_P D vwCl [(h0, .inr (5, [.int (nI 0), .int (nI 0), .int (nI 0), .ref rR, .ref rC, .ref rV, .int (nI 0), .ref rRi, .long (lN 1), .int (nI 0), .int (nI 0), .ref rDr, .ref rVe, .ref rMa, .ref rRo, .int (nI 0), .null, .null, .null, .int (nI 0), .null, .int (nI 0)])), (rR, kd_ar cI 100 (fun _ => 0)), (rC, kd_ar cI 100 (fun _ => 0)), (rV, kd_al cJ 100 (fun _ => 0)), (rRi, kd_al cJ 16 (fun _ => 0)), (rDr, kd_al cJ 16 (fun _ => 0)), (rVe, kd_al cJ 16 (fun _ => 0)), (rMa, kd_al cJ 16 (fun _ => 0)), (rRo, kd_al cJ 32 (fun _ => 0)), (rc, kd_al cJ 100 (fun _ => 0))] H := hP
  have hD : va_D A [(h0, .inr (5, [.int (nI 0), .int (nI 0), .int (nI 0), .ref rR, .ref rC, .ref rV, .int (nI 0), .ref rRi, .long (lN 1), .int (nI 0), .int (nI 0), .ref rDr, .ref rVe, .ref rMa, .ref rRo, .int (nI 0), .null, .null, .null, .int (nI 0), .null, .int (nI 0)])), (rR, kd_ar cI 100 (fun _ => 0)), (rC, kd_ar cI 100 (fun _ => 0)), (rV, kd_al cJ 100 (fun _ => 0)), (rRi, kd_al cJ 16 (fun _ => 0)), (rDr, kd_al cJ 16 (fun _ => 0)), (rVe, kd_al cJ 16 (fun _ => 0)), (rMa, kd_al cJ 16 (fun _ => 0)), (rRo, kd_al cJ 32 (fun _ => 0)), (rc, kd_al cJ 100 (fun _ => 0))] := hD
  refine va_putF (D := D) (ci := 5) (v := .ref rc) (ty := .array .long) (C := RX5) (T := TX5) (N := 22) hx hb hts i_X5 tyX5 tyX5_ok nmX5 hown hK hP hD hS 0 rfl rfl 16 (by decide) fl39 (fun _ h9 => h9) rfl hnm rfl (by decide +kernel) rfl rfl (Nat.le_of_ble_eq_true rfl) dX5_init_78 (fun H locs hP hD hS => ?_)
  have hP : va_P D vwCl [(h0, .inr (5, [.int (nI 0), .int (nI 0), .int (nI 0), .ref rR, .ref rC, .ref rV, .int (nI 0), .ref rRi, .long (lN 1), .int (nI 0), .int (nI 0), .ref rDr, .ref rVe, .ref rMa, .ref rRo, .int (nI 0), .ref rc, .null, .null, .int (nI 0), .null, .int (nI 0)])), (rR, kd_ar cI 100 (fun _ => 0)), (rC, kd_ar cI 100 (fun _ => 0)), (rV, kd_al cJ 100 (fun _ => 0)), (rRi, kd_al cJ 16 (fun _ => 0)), (rDr, kd_al cJ 16 (fun _ => 0)), (rVe, kd_al cJ 16 (fun _ => 0)), (rMa, kd_al cJ 16 (fun _ => 0)), (rRo, kd_al cJ 32 (fun _ => 0)), (rc, kd_al cJ 100 (fun _ => 0))] H := hP
  have hD : va_D A [(h0, .inr (5, [.int (nI 0), .int (nI 0), .int (nI 0), .ref rR, .ref rC, .ref rV, .int (nI 0), .ref rRi, .long (lN 1), .int (nI 0), .int (nI 0), .ref rDr, .ref rVe, .ref rMa, .ref rRo, .int (nI 0), .ref rc, .null, .null, .int (nI 0), .null, .int (nI 0)])), (rR, kd_ar cI 100 (fun _ => 0)), (rC, kd_ar cI 100 (fun _ => 0)), (rV, kd_al cJ 100 (fun _ => 0)), (rRi, kd_al cJ 16 (fun _ => 0)), (rDr, kd_al cJ 16 (fun _ => 0)), (rVe, kd_al cJ 16 (fun _ => 0)), (rMa, kd_al cJ 16 (fun _ => 0)), (rRo, kd_al cJ 32 (fun _ => 0)), (rc, kd_al cJ 100 (fun _ => 0))] := hD
  refine lv_aload_n hx hb dX5_init_81 rfl (lv_at hl 0 rfl) ?_
  refine lv_bipush (v := (nI 100)) hx hb dX5_init_82 (by decide) ?_
  refine kd_newJ hx hb (hts (.arrayClass .long) (by decide +kernel)) hK hP hD hS hA (by omega) (show _ ≤ 12 from by omega) (show _ ≤ 712 from by omega) dX5_init_84 (fun rb H hP hD hS => ?_)
  have hP : va_P D vwCl [(h0, .inr (5, [.int (nI 0), .int (nI 0), .int (nI 0), .ref rR, .ref rC, .ref rV, .int (nI 0), .ref rRi, .long (lN 1), .int (nI 0), .int (nI 0), .ref rDr, .ref rVe, .ref rMa, .ref rRo, .int (nI 0), .ref rc, .null, .null, .int (nI 0), .null, .int (nI 0)])), (rR, kd_ar cI 100 (fun _ => 0)), (rC, kd_ar cI 100 (fun _ => 0)), (rV, kd_al cJ 100 (fun _ => 0)), (rRi, kd_al cJ 16 (fun _ => 0)), (rDr, kd_al cJ 16 (fun _ => 0)), (rVe, kd_al cJ 16 (fun _ => 0)), (rMa, kd_al cJ 16 (fun _ => 0)), (rRo, kd_al cJ 32 (fun _ => 0)), (rc, kd_al cJ 100 (fun _ => 0)), (rb, kd_al cJ 100 (fun _ => 0))] H := hP
  have hD : va_D A [(h0, .inr (5, [.int (nI 0), .int (nI 0), .int (nI 0), .ref rR, .ref rC, .ref rV, .int (nI 0), .ref rRi, .long (lN 1), .int (nI 0), .int (nI 0), .ref rDr, .ref rVe, .ref rMa, .ref rRo, .int (nI 0), .ref rc, .null, .null, .int (nI 0), .null, .int (nI 0)])), (rR, kd_ar cI 100 (fun _ => 0)), (rC, kd_ar cI 100 (fun _ => 0)), (rV, kd_al cJ 100 (fun _ => 0)), (rRi, kd_al cJ 16 (fun _ => 0)), (rDr, kd_al cJ 16 (fun _ => 0)), (rVe, kd_al cJ 16 (fun _ => 0)), (rMa, kd_al cJ 16 (fun _ => 0)), (rRo, kd_al cJ 32 (fun _ => 0)), (rc, kd_al cJ 100 (fun _ => 0)), (rb, kd_al cJ 100 (fun _ => 0))] := hD
  refine va_putF (D := D) (ci := 5) (v := .ref rb) (ty := .array .long) (C := RX5) (T := TX5) (N := 22) hx hb hts i_X5 tyX5 tyX5_ok nmX5 hown hK hP hD hS 0 rfl rfl 17 (by decide) fl42 (fun _ h9 => h9) rfl hnm rfl (by decide +kernel) rfl rfl (Nat.le_of_ble_eq_true rfl) dX5_init_86 (fun H locs hP hD hS => ?_)
  have hP : va_P D vwCl [(h0, .inr (5, [.int (nI 0), .int (nI 0), .int (nI 0), .ref rR, .ref rC, .ref rV, .int (nI 0), .ref rRi, .long (lN 1), .int (nI 0), .int (nI 0), .ref rDr, .ref rVe, .ref rMa, .ref rRo, .int (nI 0), .ref rc, .ref rb, .null, .int (nI 0), .null, .int (nI 0)])), (rR, kd_ar cI 100 (fun _ => 0)), (rC, kd_ar cI 100 (fun _ => 0)), (rV, kd_al cJ 100 (fun _ => 0)), (rRi, kd_al cJ 16 (fun _ => 0)), (rDr, kd_al cJ 16 (fun _ => 0)), (rVe, kd_al cJ 16 (fun _ => 0)), (rMa, kd_al cJ 16 (fun _ => 0)), (rRo, kd_al cJ 32 (fun _ => 0)), (rc, kd_al cJ 100 (fun _ => 0)), (rb, kd_al cJ 100 (fun _ => 0))] H := hP
  have hD : va_D A [(h0, .inr (5, [.int (nI 0), .int (nI 0), .int (nI 0), .ref rR, .ref rC, .ref rV, .int (nI 0), .ref rRi, .long (lN 1), .int (nI 0), .int (nI 0), .ref rDr, .ref rVe, .ref rMa, .ref rRo, .int (nI 0), .ref rc, .ref rb, .null, .int (nI 0), .null, .int (nI 0)])), (rR, kd_ar cI 100 (fun _ => 0)), (rC, kd_ar cI 100 (fun _ => 0)), (rV, kd_al cJ 100 (fun _ => 0)), (rRi, kd_al cJ 16 (fun _ => 0)), (rDr, kd_al cJ 16 (fun _ => 0)), (rVe, kd_al cJ 16 (fun _ => 0)), (rMa, kd_al cJ 16 (fun _ => 0)), (rRo, kd_al cJ 32 (fun _ => 0)), (rc, kd_al cJ 100 (fun _ => 0)), (rb, kd_al cJ 100 (fun _ => 0))] := hD
  refine lv_aload_n hx hb dX5_init_89 rfl (lv_at hl 0 rfl) ?_
  refine lv_bipush (v := (nI 100)) hx hb dX5_init_90 (by decide) ?_
  refine kd_newJ hx hb (hts (.arrayClass .long) (by decide +kernel)) hK hP hD hS hA (by omega) (show _ ≤ 12 from by omega) (show _ ≤ 712 from by omega) dX5_init_92 (fun rt H hP hD hS => ?_)
  have hP : va_P D vwCl [(h0, .inr (5, [.int (nI 0), .int (nI 0), .int (nI 0), .ref rR, .ref rC, .ref rV, .int (nI 0), .ref rRi, .long (lN 1), .int (nI 0), .int (nI 0), .ref rDr, .ref rVe, .ref rMa, .ref rRo, .int (nI 0), .ref rc, .ref rb, .null, .int (nI 0), .null, .int (nI 0)])), (rR, kd_ar cI 100 (fun _ => 0)), (rC, kd_ar cI 100 (fun _ => 0)), (rV, kd_al cJ 100 (fun _ => 0)), (rRi, kd_al cJ 16 (fun _ => 0)), (rDr, kd_al cJ 16 (fun _ => 0)), (rVe, kd_al cJ 16 (fun _ => 0)), (rMa, kd_al cJ 16 (fun _ => 0)), (rRo, kd_al cJ 32 (fun _ => 0)), (rc, kd_al cJ 100 (fun _ => 0)), (rb, kd_al cJ 100 (fun _ => 0)), (rt, kd_al cJ 100 (fun _ => 0))] H := hP
  have hD : va_D A [(h0, .inr (5, [.int (nI 0), .int (nI 0), .int (nI 0), .ref rR, .ref rC, .ref rV, .int (nI 0), .ref rRi, .long (lN 1), .int (nI 0), .int (nI 0), .ref rDr, .ref rVe, .ref rMa, .ref rRo, .int (nI 0), .ref rc, .ref rb, .null, .int (nI 0), .null, .int (nI 0)])), (rR, kd_ar cI 100 (fun _ => 0)), (rC, kd_ar cI 100 (fun _ => 0)), (rV, kd_al cJ 100 (fun _ => 0)), (rRi, kd_al cJ 16 (fun _ => 0)), (rDr, kd_al cJ 16 (fun _ => 0)), (rVe, kd_al cJ 16 (fun _ => 0)), (rMa, kd_al cJ 16 (fun _ => 0)), (rRo, kd_al cJ 32 (fun _ => 0)), (rc, kd_al cJ 100 (fun _ => 0)), (rb, kd_al cJ 100 (fun _ => 0)), (rt, kd_al cJ 100 (fun _ => 0))] := hD
  refine va_putF (D := D) (ci := 5) (v := .ref rt) (ty := .array .long) (C := RX5) (T := TX5) (N := 22) hx hb hts i_X5 tyX5 tyX5_ok nmX5 hown hK hP hD hS 0 rfl rfl 18 (by decide) fl45 (fun _ h9 => h9) rfl hnm rfl (by decide +kernel) rfl rfl (Nat.le_of_ble_eq_true rfl) dX5_init_94 (fun H locs hP hD hS => ?_)
  have hP : va_P D vwCl [(h0, .inr (5, [.int (nI 0), .int (nI 0), .int (nI 0), .ref rR, .ref rC, .ref rV, .int (nI 0), .ref rRi, .long (lN 1), .int (nI 0), .int (nI 0), .ref rDr, .ref rVe, .ref rMa, .ref rRo, .int (nI 0), .ref rc, .ref rb, .ref rt, .int (nI 0), .null, .int (nI 0)])), (rR, kd_ar cI 100 (fun _ => 0)), (rC, kd_ar cI 100 (fun _ => 0)), (rV, kd_al cJ 100 (fun _ => 0)), (rRi, kd_al cJ 16 (fun _ => 0)), (rDr, kd_al cJ 16 (fun _ => 0)), (rVe, kd_al cJ 16 (fun _ => 0)), (rMa, kd_al cJ 16 (fun _ => 0)), (rRo, kd_al cJ 32 (fun _ => 0)), (rc, kd_al cJ 100 (fun _ => 0)), (rb, kd_al cJ 100 (fun _ => 0)), (rt, kd_al cJ 100 (fun _ => 0))] H := hP
  have hD : va_D A [(h0, .inr (5, [.int (nI 0), .int (nI 0), .int (nI 0), .ref rR, .ref rC, .ref rV, .int (nI 0), .ref rRi, .long (lN 1), .int (nI 0), .int (nI 0), .ref rDr, .ref rVe, .ref rMa, .ref rRo, .int (nI 0), .ref rc, .ref rb, .ref rt, .int (nI 0), .null, .int (nI 0)])), (rR, kd_ar cI 100 (fun _ => 0)), (rC, kd_ar cI 100 (fun _ => 0)), (rV, kd_al cJ 100 (fun _ => 0)), (rRi, kd_al cJ 16 (fun _ => 0)), (rDr, kd_al cJ 16 (fun _ => 0)), (rVe, kd_al cJ 16 (fun _ => 0)), (rMa, kd_al cJ 16 (fun _ => 0)), (rRo, kd_al cJ 32 (fun _ => 0)), (rc, kd_al cJ 100 (fun _ => 0)), (rb, kd_al cJ 100 (fun _ => 0)), (rt, kd_al cJ 100 (fun _ => 0))] := hD
  refine lv_aload_n hx hb dX5_init_97 rfl (lv_at hl 0 rfl) ?_
  refine lv_iconst (v := (-1)) hx hb dX5_init_98 (by decide) ?_
  refine va_put (D := D) (ci := 5) (v := .int (-1)) (ty := .int) (C := RX5) (T := TX5) (N := 22) hx hb hts i_X5 tyX5 tyX5_ok nmX5 hown hK hP hD hS 0 rfl rfl 19 (by decide) fl48 (fun _ h9 => h9) rfl (by decide +kernel) rfl rfl (Nat.le_of_ble_eq_true rfl) dX5_init_99 (fun H locs hP hD hS => ?_)
  have hP : va_P D vwCl [(h0, .inr (5, [.int (nI 0), .int (nI 0), .int (nI 0), .ref rR, .ref rC, .ref rV, .int (nI 0), .ref rRi, .long (lN 1), .int (nI 0), .int (nI 0), .ref rDr, .ref rVe, .ref rMa, .ref rRo, .int (nI 0), .ref rc, .ref rb, .ref rt, .int (-1), .null, .int (nI 0)])), (rR, kd_ar cI 100 (fun _ => 0)), (rC, kd_ar cI 100 (fun _ => 0)), (rV, kd_al cJ 100 (fun _ => 0)), (rRi, kd_al cJ 16 (fun _ => 0)), (rDr, kd_al cJ 16 (fun _ => 0)), (rVe, kd_al cJ 16 (fun _ => 0)), (rMa, kd_al cJ 16 (fun _ => 0)), (rRo, kd_al cJ 32 (fun _ => 0)), (rc, kd_al cJ 100 (fun _ => 0)), (rb, kd_al cJ 100 (fun _ => 0)), (rt, kd_al cJ 100 (fun _ => 0))] H := hP
  have hD : va_D A [(h0, .inr (5, [.int (nI 0), .int (nI 0), .int (nI 0), .ref rR, .ref rC, .ref rV, .int (nI 0), .ref rRi, .long (lN 1), .int (nI 0), .int (nI 0), .ref rDr, .ref rVe, .ref rMa, .ref rRo, .int (nI 0), .ref rc, .ref rb, .ref rt, .int (-1), .null, .int (nI 0)])), (rR, kd_ar cI 100 (fun _ => 0)), (rC, kd_ar cI 100 (fun _ => 0)), (rV, kd_al cJ 100 (fun _ => 0)), (rRi, kd_al cJ 16 (fun _ => 0)), (rDr, kd_al cJ 16 (fun _ => 0)), (rVe, kd_al cJ 16 (fun _ => 0)), (rMa, kd_al cJ 16 (fun _ => 0)), (rRo, kd_al cJ 32 (fun _ => 0)), (rc, kd_al cJ 100 (fun _ => 0)), (rb, kd_al cJ 100 (fun _ => 0)), (rt, kd_al cJ 100 (fun _ => 0))] := hD
  refine lv_aload_n hx hb dX5_init_102 rfl (lv_at hl 0 rfl) ?_
  refine lv_bipush (v := (nI 16)) hx hb dX5_init_103 (by decide) ?_
  refine kd_newJ hx hb (hts (.arrayClass .long) (by decide +kernel)) hK hP hD hS hA (by omega) (show _ ≤ 12 from by omega) (show _ ≤ 712 from by omega) dX5_init_105 (fun rSo H hP hD hS => ?_)
  have hP : va_P D vwCl [(h0, .inr (5, [.int (nI 0), .int (nI 0), .int (nI 0), .ref rR, .ref rC, .ref rV, .int (nI 0), .ref rRi, .long (lN 1), .int (nI 0), .int (nI 0), .ref rDr, .ref rVe, .ref rMa, .ref rRo, .int (nI 0), .ref rc, .ref rb, .ref rt, .int (-1), .null, .int (nI 0)])), (rR, kd_ar cI 100 (fun _ => 0)), (rC, kd_ar cI 100 (fun _ => 0)), (rV, kd_al cJ 100 (fun _ => 0)), (rRi, kd_al cJ 16 (fun _ => 0)), (rDr, kd_al cJ 16 (fun _ => 0)), (rVe, kd_al cJ 16 (fun _ => 0)), (rMa, kd_al cJ 16 (fun _ => 0)), (rRo, kd_al cJ 32 (fun _ => 0)), (rc, kd_al cJ 100 (fun _ => 0)), (rb, kd_al cJ 100 (fun _ => 0)), (rt, kd_al cJ 100 (fun _ => 0)), (rSo, kd_al cJ 16 (fun _ => 0))] H := hP
  have hD : va_D A [(h0, .inr (5, [.int (nI 0), .int (nI 0), .int (nI 0), .ref rR, .ref rC, .ref rV, .int (nI 0), .ref rRi, .long (lN 1), .int (nI 0), .int (nI 0), .ref rDr, .ref rVe, .ref rMa, .ref rRo, .int (nI 0), .ref rc, .ref rb, .ref rt, .int (-1), .null, .int (nI 0)])), (rR, kd_ar cI 100 (fun _ => 0)), (rC, kd_ar cI 100 (fun _ => 0)), (rV, kd_al cJ 100 (fun _ => 0)), (rRi, kd_al cJ 16 (fun _ => 0)), (rDr, kd_al cJ 16 (fun _ => 0)), (rVe, kd_al cJ 16 (fun _ => 0)), (rMa, kd_al cJ 16 (fun _ => 0)), (rRo, kd_al cJ 32 (fun _ => 0)), (rc, kd_al cJ 100 (fun _ => 0)), (rb, kd_al cJ 100 (fun _ => 0)), (rt, kd_al cJ 100 (fun _ => 0)), (rSo, kd_al cJ 16 (fun _ => 0))] := hD
  refine va_putF (D := D) (ci := 5) (v := .ref rSo) (ty := .array .long) (C := RX5) (T := TX5) (N := 22) hx hb hts i_X5 tyX5 tyX5_ok nmX5 hown hK hP hD hS 0 rfl rfl 20 (by decide) fl52 (fun _ h9 => h9) rfl hnm rfl (by decide +kernel) rfl rfl (Nat.le_of_ble_eq_true rfl) dX5_init_107 (fun H locs hP hD hS => ?_)
  have hP : va_P D vwCl [(h0, .inr (5, [.int (nI 0), .int (nI 0), .int (nI 0), .ref rR, .ref rC, .ref rV, .int (nI 0), .ref rRi, .long (lN 1), .int (nI 0), .int (nI 0), .ref rDr, .ref rVe, .ref rMa, .ref rRo, .int (nI 0), .ref rc, .ref rb, .ref rt, .int (-1), .ref rSo, .int (nI 0)])), (rR, kd_ar cI 100 (fun _ => 0)), (rC, kd_ar cI 100 (fun _ => 0)), (rV, kd_al cJ 100 (fun _ => 0)), (rRi, kd_al cJ 16 (fun _ => 0)), (rDr, kd_al cJ 16 (fun _ => 0)), (rVe, kd_al cJ 16 (fun _ => 0)), (rMa, kd_al cJ 16 (fun _ => 0)), (rRo, kd_al cJ 32 (fun _ => 0)), (rc, kd_al cJ 100 (fun _ => 0)), (rb, kd_al cJ 100 (fun _ => 0)), (rt, kd_al cJ 100 (fun _ => 0)), (rSo, kd_al cJ 16 (fun _ => 0))] H := hP
  have hD : va_D A [(h0, .inr (5, [.int (nI 0), .int (nI 0), .int (nI 0), .ref rR, .ref rC, .ref rV, .int (nI 0), .ref rRi, .long (lN 1), .int (nI 0), .int (nI 0), .ref rDr, .ref rVe, .ref rMa, .ref rRo, .int (nI 0), .ref rc, .ref rb, .ref rt, .int (-1), .ref rSo, .int (nI 0)])), (rR, kd_ar cI 100 (fun _ => 0)), (rC, kd_ar cI 100 (fun _ => 0)), (rV, kd_al cJ 100 (fun _ => 0)), (rRi, kd_al cJ 16 (fun _ => 0)), (rDr, kd_al cJ 16 (fun _ => 0)), (rVe, kd_al cJ 16 (fun _ => 0)), (rMa, kd_al cJ 16 (fun _ => 0)), (rRo, kd_al cJ 32 (fun _ => 0)), (rc, kd_al cJ 100 (fun _ => 0)), (rb, kd_al cJ 100 (fun _ => 0)), (rt, kd_al cJ 100 (fun _ => 0)), (rSo, kd_al cJ 16 (fun _ => 0))] := hD
  refine W.widen (k := 12) (n := 712) (by omega) (by omega) ?_
  have j131 : ∀ (H : Heap) (locs : List Loc) (ls : Array Slot), va_P D vwCl [(h0, .inr (5, [.int (nI 0), .int (nI 0), .int (nI 0), .ref rR, .ref rC, .ref rV, .int (nI 0), .ref rRi, .long (lN 1), .int (nI 0), .int (nI 0), .ref rDr, .ref rVe, .ref rMa, .ref rRo, .int (nI 0), .ref rc, .ref rb, .ref rt, .int (-1), .ref rSo, .int (nI 0)])), (rR, kd_ar cI 100 (fun _ => 0)), (rC, kd_ar cI 100 (fun _ => 0)), (rV, kd_al cJ 100 (fun _ => 0)), (rRi, kd_al cJ 16 (fun _ => 0)), (rDr, kd_al cJ 16 (fun _ => 0)), (rVe, kd_al cJ 16 (fun _ => 0)), (rMa, kd_al cJ 16 (fun _ => 0)), (rRo, kd_al cJ 32 (fun _ => 0)), (rc, kd_al cJ 100 (fun _ => 0)), (rb, kd_al cJ 100 (fun _ => 0)), (rt, kd_al cJ 100 (fun _ => 0)), (rSo, kd_al cJ 16 (fun _ => 0))] H → va_D A [(h0, .inr (5, [.int (nI 0), .int (nI 0), .int (nI 0), .ref rR, .ref rC, .ref rV, .int (nI 0), .ref rRi, .long (lN 1), .int (nI 0), .int (nI 0), .ref rDr, .ref rVe, .ref rMa, .ref rRo, .int (nI 0), .ref rc, .ref rb, .ref rt, .int (-1), .ref rSo, .int (nI 0)])), (rR, kd_ar cI 100 (fun _ => 0)), (rC, kd_ar cI 100 (fun _ => 0)), (rV, kd_al cJ 100 (fun _ => 0)), (rRi, kd_al cJ 16 (fun _ => 0)), (rDr, kd_al cJ 16 (fun _ => 0)), (rVe, kd_al cJ 16 (fun _ => 0)), (rMa, kd_al cJ 16 (fun _ => 0)), (rRo, kd_al cJ 32 (fun _ => 0)), (rc, kd_al cJ 100 (fun _ => 0)), (rb, kd_al cJ 100 (fun _ => 0)), (rt, kd_al cJ 100 (fun _ => 0)), (rSo, kd_al cJ 16 (fun _ => 0))] → va_S A s.heap H locs → lv_has ls 5 [(3, .int e0), (2, .int n0), (1, .int p0), (0, .ref h0)] → W p l e { frames := 1, cells := 12, slots := 712, locals := 22 } s m args below meth c H locs 12 712 Q (F0 m 131 ls [.int (nI (pCl 2 46337 p0))]) := by
    intro H locs ls hP hD hS hl
    refine lv_istore (lv' := [(4, .int (nI (pCl 2 46337 p0))), (3, .int e0), (2, .int n0), (1, .int p0), (0, .ref h0)]) hx hb dX5_init_131 hl (by decide) rfl (fun ls hl => ?_)
    have lp : ∀ (k_lp : Nat) (k : Nat) (H : Heap) (locs : List Loc) (ls : Array Slot), (46338 - k < k_lp) → (k ≤ 46337) → (2 ≤ k) → (pLeast (46337 - pCl 2 46337 p0) (pCl 2 46337 p0) = pLeast (46337 - k) k) → va_P D vwCl [(h0, .inr (5, [.int (nI 0), .int (nI 0), .int (nI 0), .ref rR, .ref rC, .ref rV, .int (nI 0), .ref rRi, .long (lN 1), .int (nI 0), .int (nI 0), .ref rDr, .ref rVe, .ref rMa, .ref rRo, .int (nI 0), .ref rc, .ref rb, .ref rt, .int (-1), .ref rSo, .int (nI 0)])), (rR, kd_ar cI 100 (fun _ => 0)), (rC, kd_ar cI 100 (fun _ => 0)), (rV, kd_al cJ 100 (fun _ => 0)), (rRi, kd_al cJ 16 (fun _ => 0)), (rDr, kd_al cJ 16 (fun _ => 0)), (rVe, kd_al cJ 16 (fun _ => 0)), (rMa, kd_al cJ 16 (fun _ => 0)), (rRo, kd_al cJ 32 (fun _ => 0)), (rc, kd_al cJ 100 (fun _ => 0)), (rb, kd_al cJ 100 (fun _ => 0)), (rt, kd_al cJ 100 (fun _ => 0)), (rSo, kd_al cJ 16 (fun _ => 0))] H → va_D A [(h0, .inr (5, [.int (nI 0), .int (nI 0), .int (nI 0), .ref rR, .ref rC, .ref rV, .int (nI 0), .ref rRi, .long (lN 1), .int (nI 0), .int (nI 0), .ref rDr, .ref rVe, .ref rMa, .ref rRo, .int (nI 0), .ref rc, .ref rb, .ref rt, .int (-1), .ref rSo, .int (nI 0)])), (rR, kd_ar cI 100 (fun _ => 0)), (rC, kd_ar cI 100 (fun _ => 0)), (rV, kd_al cJ 100 (fun _ => 0)), (rRi, kd_al cJ 16 (fun _ => 0)), (rDr, kd_al cJ 16 (fun _ => 0)), (rVe, kd_al cJ 16 (fun _ => 0)), (rMa, kd_al cJ 16 (fun _ => 0)), (rRo, kd_al cJ 32 (fun _ => 0)), (rc, kd_al cJ 100 (fun _ => 0)), (rb, kd_al cJ 100 (fun _ => 0)), (rt, kd_al cJ 100 (fun _ => 0)), (rSo, kd_al cJ 16 (fun _ => 0))] → va_S A s.heap H locs → lv_has ls 5 [(4, .int (nI k)), (3, .int e0), (2, .int n0), (0, .ref h0)] → W p l e { frames := 1, cells := 12, slots := 712, locals := 22 } s m args below meth c H locs 12 712 Q (F0 m 133 ls []) := by
      intro k_lp
      induction k_lp with
      | zero => intro k H locs ls i1 i2 i3 i4 hP hD hS hl; omega
      | succ k_lp ih_lp =>
        intro k H locs ls i1 i2 i3 i4 hP hD hS hl
        refine lv_iload hx hb dX5_init_133 (lv_at hl 0 rfl) ?_
        refine kd_SI (As := [.int (nI k)]) (rest := []) (Wr := [(h0, .inr (5, [.int (nI 0), .int (nI 0), .int (nI 0), .ref rR, .ref rC, .ref rV, .int (nI 0), .ref rRi, .long (lN 1), .int (nI 0), .int (nI 0), .ref rDr, .ref rVe, .ref rMa, .ref rRo, .int (nI 0), .ref rc, .ref rb, .ref rt, .int (-1), .ref rSo, .int (nI 0)])), (rR, kd_ar cI 100 (fun _ => 0)), (rC, kd_ar cI 100 (fun _ => 0)), (rV, kd_al cJ 100 (fun _ => 0)), (rRi, kd_al cJ 16 (fun _ => 0)), (rDr, kd_al cJ 16 (fun _ => 0)), (rVe, kd_al cJ 16 (fun _ => 0)), (rMa, kd_al cJ 16 (fun _ => 0)), (rRo, kd_al cJ 32 (fun _ => 0)), (rc, kd_al cJ 100 (fun _ => 0)), (rb, kd_al cJ 100 (fun _ => 0)), (rt, kd_al cJ 100 (fun _ => 0)), (rSo, kd_al cJ 16 (fun _ => 0))]) ⟨hx, hb, hml, hown, hts⟩ (c_X5_isPrime l D cI cJ k (by omega) (by omega)) (va_cwS 1 hts gX5_init_X5_isPrime rfl rfl rfl (by decide +kernel) ⟨Nat.le_of_ble_eq_true rfl, Nat.le_of_ble_eq_true rfl⟩) hK hP hD hS hA [] [0, 1, 2, 3, 4, 5, 6, 7, 8, 9, 10, 11, 12] rfl rfl (by decide) (by decide) rfl rfl hl.1 (Nat.le_of_ble_eq_true rfl) dX5_init_135 ⟨show _ ≤ 12 from by omega, show _ ≤ 712 from by omega⟩ (fun _ H locs hP hD hS => ?_)
        have hP : va_P D vwCl [(h0, .inr (5, [.int (nI 0), .int (nI 0), .int (nI 0), .ref rR, .ref rC, .ref rV, .int (nI 0), .ref rRi, .long (lN 1), .int (nI 0), .int (nI 0), .ref rDr, .ref rVe, .ref rMa, .ref rRo, .int (nI 0), .ref rc, .ref rb, .ref rt, .int (-1), .ref rSo, .int (nI 0)])), (rR, kd_ar cI 100 (fun _ => 0)), (rC, kd_ar cI 100 (fun _ => 0)), (rV, kd_al cJ 100 (fun _ => 0)), (rRi, kd_al cJ 16 (fun _ => 0)), (rDr, kd_al cJ 16 (fun _ => 0)), (rVe, kd_al cJ 16 (fun _ => 0)), (rMa, kd_al cJ 16 (fun _ => 0)), (rRo, kd_al cJ 32 (fun _ => 0)), (rc, kd_al cJ 100 (fun _ => 0)), (rb, kd_al cJ 100 (fun _ => 0)), (rt, kd_al cJ 100 (fun _ => 0)), (rSo, kd_al cJ 16 (fun _ => 0))] H := hP
        have hD : va_D A [(h0, .inr (5, [.int (nI 0), .int (nI 0), .int (nI 0), .ref rR, .ref rC, .ref rV, .int (nI 0), .ref rRi, .long (lN 1), .int (nI 0), .int (nI 0), .ref rDr, .ref rVe, .ref rMa, .ref rRo, .int (nI 0), .ref rc, .ref rb, .ref rt, .int (-1), .ref rSo, .int (nI 0)])), (rR, kd_ar cI 100 (fun _ => 0)), (rC, kd_ar cI 100 (fun _ => 0)), (rV, kd_al cJ 100 (fun _ => 0)), (rRi, kd_al cJ 16 (fun _ => 0)), (rDr, kd_al cJ 16 (fun _ => 0)), (rVe, kd_al cJ 16 (fun _ => 0)), (rMa, kd_al cJ 16 (fun _ => 0)), (rRo, kd_al cJ 32 (fun _ => 0)), (rc, kd_al cJ 100 (fun _ => 0)), (rb, kd_al cJ 100 (fun _ => 0)), (rt, kd_al cJ 100 (fun _ => 0)), (rSo, kd_al cJ 16 (fun _ => 0))] := hD
        refine kd_ne0 (tgt := 147) hx hb dX5_init_138 (by decide) (by have := pB_lt (pPrime k); omega) (fun c_138 => ?_) (fun c_138 => ?_)
        · skip
          have e5 : k = pPr p0 := (pLeast_yes2 i4 i2 (pB_e1 c_138)).symm
          rw [e5] at hl
          refine lv_aload_n hx hb dX5_init_147 rfl (lv_at hl 3 rfl) ?_
          refine lv_iload hx hb dX5_init_148 (lv_at hl 0 rfl) ?_
          refine va_putF (D := D) (ci := 5) (v := .int (nI (pPr p0))) (ty := .int) (C := RX5) (T := TX5) (N := 22) hx hb hts i_X5 tyX5 tyX5_ok nmX5 hown hK hP hD hS 0 rfl rfl 0 (by decide) fl60 (fun _ h9 => h9) rfl hnm rfl (by decide +kernel) rfl rfl (Nat.le_of_ble_eq_true rfl) dX5_init_150 (fun H locs hP hD hS => ?_)
          have hP : va_P D vwCl [(h0, .inr (5, [.int (nI (pPr p0)), .int (nI 0), .int (nI 0), .ref rR, .ref rC, .ref rV, .int (nI 0), .ref rRi, .long (lN 1), .int (nI 0), .int (nI 0), .ref rDr, .ref rVe, .ref rMa, .ref rRo, .int (nI 0), .ref rc, .ref rb, .ref rt, .int (-1), .ref rSo, .int (nI 0)])), (rR, kd_ar cI 100 (fun _ => 0)), (rC, kd_ar cI 100 (fun _ => 0)), (rV, kd_al cJ 100 (fun _ => 0)), (rRi, kd_al cJ 16 (fun _ => 0)), (rDr, kd_al cJ 16 (fun _ => 0)), (rVe, kd_al cJ 16 (fun _ => 0)), (rMa, kd_al cJ 16 (fun _ => 0)), (rRo, kd_al cJ 32 (fun _ => 0)), (rc, kd_al cJ 100 (fun _ => 0)), (rb, kd_al cJ 100 (fun _ => 0)), (rt, kd_al cJ 100 (fun _ => 0)), (rSo, kd_al cJ 16 (fun _ => 0))] H := hP
          have hD : va_D A [(h0, .inr (5, [.int (nI (pPr p0)), .int (nI 0), .int (nI 0), .ref rR, .ref rC, .ref rV, .int (nI 0), .ref rRi, .long (lN 1), .int (nI 0), .int (nI 0), .ref rDr, .ref rVe, .ref rMa, .ref rRo, .int (nI 0), .ref rc, .ref rb, .ref rt, .int (-1), .ref rSo, .int (nI 0)])), (rR, kd_ar cI 100 (fun _ => 0)), (rC, kd_ar cI 100 (fun _ => 0)), (rV, kd_al cJ 100 (fun _ => 0)), (rRi, kd_al cJ 16 (fun _ => 0)), (rDr, kd_al cJ 16 (fun _ => 0)), (rVe, kd_al cJ 16 (fun _ => 0)), (rMa, kd_al cJ 16 (fun _ => 0)), (rRo, kd_al cJ 32 (fun _ => 0)), (rc, kd_al cJ 100 (fun _ => 0)), (rb, kd_al cJ 100 (fun _ => 0)), (rt, kd_al cJ 100 (fun _ => 0)), (rSo, kd_al cJ 16 (fun _ => 0))] := hD
          refine lv_aload_n hx hb dX5_init_153 rfl (lv_at hl 3 rfl) ?_
          have j175 : ∀ (H : Heap) (locs : List Loc) (ls : Array Slot), va_P D vwCl [(h0, .inr (5, [.int (nI (pPr p0)), .int (nI 0), .int (nI 0), .ref rR, .ref rC, .ref rV, .int (nI 0), .ref rRi, .long (lN 1), .int (nI 0), .int (nI 0), .ref rDr, .ref rVe, .ref rMa, .ref rRo, .int (nI 0), .ref rc, .ref rb, .ref rt, .int (-1), .ref rSo, .int (nI 0)])), (rR, kd_ar cI 100 (fun _ => 0)), (rC, kd_ar cI 100 (fun _ => 0)), (rV, kd_al cJ 100 (fun _ => 0)), (rRi, kd_al cJ 16 (fun _ => 0)), (rDr, kd_al cJ 16 (fun _ => 0)), (rVe, kd_al cJ 16 (fun _ => 0)), (rMa, kd_al cJ 16 (fun _ => 0)), (rRo, kd_al cJ 32 (fun _ => 0)), (rc, kd_al cJ 100 (fun _ => 0)), (rb, kd_al cJ 100 (fun _ => 0)), (rt, kd_al cJ 100 (fun _ => 0)), (rSo, kd_al cJ 16 (fun _ => 0))] H → va_D A [(h0, .inr (5, [.int (nI (pPr p0)), .int (nI 0), .int (nI 0), .ref rR, .ref rC, .ref rV, .int (nI 0), .ref rRi, .long (lN 1), .int (nI 0), .int (nI 0), .ref rDr, .ref rVe, .ref rMa, .ref rRo, .int (nI 0), .ref rc, .ref rb, .ref rt, .int (-1), .ref rSo, .int (nI 0)])), (rR, kd_ar cI 100 (fun _ => 0)), (rC, kd_ar cI 100 (fun _ => 0)), (rV, kd_al cJ 100 (fun _ => 0)), (rRi, kd_al cJ 16 (fun _ => 0)), (rDr, kd_al cJ 16 (fun _ => 0)), (rVe, kd_al cJ 16 (fun _ => 0)), (rMa, kd_al cJ 16 (fun _ => 0)), (rRo, kd_al cJ 32 (fun _ => 0)), (rc, kd_al cJ 100 (fun _ => 0)), (rb, kd_al cJ 100 (fun _ => 0)), (rt, kd_al cJ 100 (fun _ => 0)), (rSo, kd_al cJ 16 (fun _ => 0))] → va_S A s.heap H locs → lv_has ls 5 [(3, .int e0), (2, .int n0), (0, .ref h0)] → W p l e { frames := 1, cells := 12, slots := 712, locals := 22 } s m args below meth c H locs 12 712 Q (F0 m 175 ls [.int (nI (pCl 1 16 n0)), .ref h0]) := by
            intro H locs ls hP hD hS hl
            refine va_putF (D := D) (ci := 5) (v := .int (nI (pCl 1 16 n0))) (ty := .int) (C := RX5) (T := TX5) (N := 22) hx hb hts i_X5 tyX5 tyX5_ok nmX5 hown hK hP hD hS 0 rfl rfl 1 (by decide) fl63 (fun _ h9 => h9) rfl hnm rfl (by decide +kernel) rfl rfl (Nat.le_of_ble_eq_true rfl) dX5_init_175 (fun H locs hP hD hS => ?_)
            have hP : va_P D vwCl [(h0, .inr (5, [.int (nI (pPr p0)), .int (nI (pCl 1 16 n0)), .int (nI 0), .ref rR, .ref rC, .ref rV, .int (nI 0), .ref rRi, .long (lN 1), .int (nI 0), .int (nI 0), .ref rDr, .ref rVe, .ref rMa, .ref rRo, .int (nI 0), .ref rc, .ref rb, .ref rt, .int (-1), .ref rSo, .int (nI 0)])), (rR, kd_ar cI 100 (fun _ => 0)), (rC, kd_ar cI 100 (fun _ => 0)), (rV, kd_al cJ 100 (fun _ => 0)), (rRi, kd_al cJ 16 (fun _ => 0)), (rDr, kd_al cJ 16 (fun _ => 0)), (rVe, kd_al cJ 16 (fun _ => 0)), (rMa, kd_al cJ 16 (fun _ => 0)), (rRo, kd_al cJ 32 (fun _ => 0)), (rc, kd_al cJ 100 (fun _ => 0)), (rb, kd_al cJ 100 (fun _ => 0)), (rt, kd_al cJ 100 (fun _ => 0)), (rSo, kd_al cJ 16 (fun _ => 0))] H := hP
            have hD : va_D A [(h0, .inr (5, [.int (nI (pPr p0)), .int (nI (pCl 1 16 n0)), .int (nI 0), .ref rR, .ref rC, .ref rV, .int (nI 0), .ref rRi, .long (lN 1), .int (nI 0), .int (nI 0), .ref rDr, .ref rVe, .ref rMa, .ref rRo, .int (nI 0), .ref rc, .ref rb, .ref rt, .int (-1), .ref rSo, .int (nI 0)])), (rR, kd_ar cI 100 (fun _ => 0)), (rC, kd_ar cI 100 (fun _ => 0)), (rV, kd_al cJ 100 (fun _ => 0)), (rRi, kd_al cJ 16 (fun _ => 0)), (rDr, kd_al cJ 16 (fun _ => 0)), (rVe, kd_al cJ 16 (fun _ => 0)), (rMa, kd_al cJ 16 (fun _ => 0)), (rRo, kd_al cJ 32 (fun _ => 0)), (rc, kd_al cJ 100 (fun _ => 0)), (rb, kd_al cJ 100 (fun _ => 0)), (rt, kd_al cJ 100 (fun _ => 0)), (rSo, kd_al cJ 16 (fun _ => 0))] := hD
            refine lv_aload_n hx hb dX5_init_178 rfl (lv_at hl 2 rfl) ?_
            have j200 : ∀ (H : Heap) (locs : List Loc) (ls : Array Slot), va_P D vwCl [(h0, .inr (5, [.int (nI (pPr p0)), .int (nI (pCl 1 16 n0)), .int (nI 0), .ref rR, .ref rC, .ref rV, .int (nI 0), .ref rRi, .long (lN 1), .int (nI 0), .int (nI 0), .ref rDr, .ref rVe, .ref rMa, .ref rRo, .int (nI 0), .ref rc, .ref rb, .ref rt, .int (-1), .ref rSo, .int (nI 0)])), (rR, kd_ar cI 100 (fun _ => 0)), (rC, kd_ar cI 100 (fun _ => 0)), (rV, kd_al cJ 100 (fun _ => 0)), (rRi, kd_al cJ 16 (fun _ => 0)), (rDr, kd_al cJ 16 (fun _ => 0)), (rVe, kd_al cJ 16 (fun _ => 0)), (rMa, kd_al cJ 16 (fun _ => 0)), (rRo, kd_al cJ 32 (fun _ => 0)), (rc, kd_al cJ 100 (fun _ => 0)), (rb, kd_al cJ 100 (fun _ => 0)), (rt, kd_al cJ 100 (fun _ => 0)), (rSo, kd_al cJ 16 (fun _ => 0))] H → va_D A [(h0, .inr (5, [.int (nI (pPr p0)), .int (nI (pCl 1 16 n0)), .int (nI 0), .ref rR, .ref rC, .ref rV, .int (nI 0), .ref rRi, .long (lN 1), .int (nI 0), .int (nI 0), .ref rDr, .ref rVe, .ref rMa, .ref rRo, .int (nI 0), .ref rc, .ref rb, .ref rt, .int (-1), .ref rSo, .int (nI 0)])), (rR, kd_ar cI 100 (fun _ => 0)), (rC, kd_ar cI 100 (fun _ => 0)), (rV, kd_al cJ 100 (fun _ => 0)), (rRi, kd_al cJ 16 (fun _ => 0)), (rDr, kd_al cJ 16 (fun _ => 0)), (rVe, kd_al cJ 16 (fun _ => 0)), (rMa, kd_al cJ 16 (fun _ => 0)), (rRo, kd_al cJ 32 (fun _ => 0)), (rc, kd_al cJ 100 (fun _ => 0)), (rb, kd_al cJ 100 (fun _ => 0)), (rt, kd_al cJ 100 (fun _ => 0)), (rSo, kd_al cJ 16 (fun _ => 0))] → va_S A s.heap H locs → lv_has ls 5 [(3, .int e0), (0, .ref h0)] → W p l e { frames := 1, cells := 12, slots := 712, locals := 22 } s m args below meth c H locs 12 712 Q (F0 m 200 ls [.int (nI (pCl 1 100 e0)), .ref h0]) := by
              intro H locs ls hP hD hS hl
              refine va_putF (D := D) (ci := 5) (v := .int (nI (pCl 1 100 e0))) (ty := .int) (C := RX5) (T := TX5) (N := 22) hx hb hts i_X5 tyX5 tyX5_ok nmX5 hown hK hP hD hS 0 rfl rfl 2 (by decide) fl66 (fun _ h9 => h9) rfl hnm rfl (by decide +kernel) rfl rfl (Nat.le_of_ble_eq_true rfl) dX5_init_200 (fun H locs hP hD hS => ?_)
              have hP : va_P D vwCl [(h0, .inr (5, [.int (nI (pPr p0)), .int (nI (pCl 1 16 n0)), .int (nI (pCl 1 100 e0)), .ref rR, .ref rC, .ref rV, .int (nI 0), .ref rRi, .long (lN 1), .int (nI 0), .int (nI 0), .ref rDr, .ref rVe, .ref rMa, .ref rRo, .int (nI 0), .ref rc, .ref rb, .ref rt, .int (-1), .ref rSo, .int (nI 0)])), (rR, kd_ar cI 100 (fun _ => 0)), (rC, kd_ar cI 100 (fun _ => 0)), (rV, kd_al cJ 100 (fun _ => 0)), (rRi, kd_al cJ 16 (fun _ => 0)), (rDr, kd_al cJ 16 (fun _ => 0)), (rVe, kd_al cJ 16 (fun _ => 0)), (rMa, kd_al cJ 16 (fun _ => 0)), (rRo, kd_al cJ 32 (fun _ => 0)), (rc, kd_al cJ 100 (fun _ => 0)), (rb, kd_al cJ 100 (fun _ => 0)), (rt, kd_al cJ 100 (fun _ => 0)), (rSo, kd_al cJ 16 (fun _ => 0))] H := hP
              have hD : va_D A [(h0, .inr (5, [.int (nI (pPr p0)), .int (nI (pCl 1 16 n0)), .int (nI (pCl 1 100 e0)), .ref rR, .ref rC, .ref rV, .int (nI 0), .ref rRi, .long (lN 1), .int (nI 0), .int (nI 0), .ref rDr, .ref rVe, .ref rMa, .ref rRo, .int (nI 0), .ref rc, .ref rb, .ref rt, .int (-1), .ref rSo, .int (nI 0)])), (rR, kd_ar cI 100 (fun _ => 0)), (rC, kd_ar cI 100 (fun _ => 0)), (rV, kd_al cJ 100 (fun _ => 0)), (rRi, kd_al cJ 16 (fun _ => 0)), (rDr, kd_al cJ 16 (fun _ => 0)), (rVe, kd_al cJ 16 (fun _ => 0)), (rMa, kd_al cJ 16 (fun _ => 0)), (rRo, kd_al cJ 32 (fun _ => 0)), (rc, kd_al cJ 100 (fun _ => 0)), (rb, kd_al cJ 100 (fun _ => 0)), (rt, kd_al cJ 100 (fun _ => 0)), (rSo, kd_al cJ 16 (fun _ => 0))] := hD
              refine W.widen (k := 12) (n := 712) (by omega) (by omega) ?_
              exact ret (rR, rC, rV, rRi, rDr, rVe, rMa, rRo, rc, rb, rt, rSo) _ _ _ _ dX5_init_203 hS (hP.sub [0, 1, 2, 3, 4, 5, 6, 7, 8, 9, 10, 11, 12] rfl) (hD.sub [0, 1, 2, 3, 4, 5, 6, 7, 8, 9, 10, 11, 12] (by decide) rfl)
            refine lv_iload_n hx hb dX5_init_179 rfl (lv_at hl 0 rfl) ?_
            refine lv_iconst (v := (nI 1)) hx hb dX5_init_180 (by decide) ?_
            refine lv_icmp_ge (tgt := 188) hx hb dX5_init_181 (by decide) (fun c_181 => ?_) (fun c_181 => ?_)
            · skip
              refine lv_iload_n hx hb dX5_init_188 rfl (lv_at hl 0 rfl) ?_
              refine lv_bipush (v := (nI 100)) hx hb dX5_init_189 (by decide) ?_
              refine lv_icmp_le (tgt := 199) hx hb dX5_init_191 (by decide) (fun c_191 => ?_) (fun c_191 => ?_)
              · skip
                refine lv_iload_n hx hb dX5_init_199 rfl (lv_at hl 0 rfl) ?_
                rw [pCl_mid (v := e0) (lo := 1) (hi := 100) (by omega) (by omega) (Int32.not_lt.mpr c_181) (Int32.not_lt.mpr c_191)]
                exact j200 _ _ _ (hP.sub [0, 1, 2, 3, 4, 5, 6, 7, 8, 9, 10, 11, 12] rfl) (hD.sub [0, 1, 2, 3, 4, 5, 6, 7, 8, 9, 10, 11, 12] (by decide) rfl) hS (lv_sub hl [0, 2] rfl)
              · skip
                refine lv_bipush (v := (nI 100)) hx hb dX5_init_194 (by decide) ?_
                refine lv_goto (tgt := 200) hx hb dX5_init_196 (by decide) ?_
                rw [show nI 100 = nI (pCl 1 100 e0) by rw [pCl_hi (by omega) (by omega) (Int32.not_le.mp c_191)]]
                exact j200 _ _ _ (hP.sub [0, 1, 2, 3, 4, 5, 6, 7, 8, 9, 10, 11, 12] rfl) (hD.sub [0, 1, 2, 3, 4, 5, 6, 7, 8, 9, 10, 11, 12] (by decide) rfl) hS (lv_sub hl [0, 2] rfl)
            · skip
              refine lv_iconst (v := (nI 1)) hx hb dX5_init_184 (by decide) ?_
              refine lv_goto (tgt := 200) hx hb dX5_init_185 (by decide) ?_
              rw [show nI 1 = nI (pCl 1 100 e0) by rw [pCl_lo (by omega) (Int32.not_le.mp c_181)]]
              exact j200 _ _ _ (hP.sub [0, 1, 2, 3, 4, 5, 6, 7, 8, 9, 10, 11, 12] rfl) (hD.sub [0, 1, 2, 3, 4, 5, 6, 7, 8, 9, 10, 11, 12] (by decide) rfl) hS (lv_sub hl [0, 2] rfl)
          refine lv_iload_n hx hb dX5_init_154 rfl (lv_at hl 2 rfl) ?_
          refine lv_iconst (v := (nI 1)) hx hb dX5_init_155 (by decide) ?_
          refine lv_icmp_ge (tgt := 163) hx hb dX5_init_156 (by decide) (fun c_156 => ?_) (fun c_156 => ?_)
          · skip
            refine lv_iload_n hx hb dX5_init_163 rfl (lv_at hl 2 rfl) ?_
            refine lv_bipush (v := (nI 16)) hx hb dX5_init_164 (by decide) ?_
            refine lv_icmp_le (tgt := 174) hx hb dX5_init_166 (by decide) (fun c_166 => ?_) (fun c_166 => ?_)
            · skip
              refine lv_iload_n hx hb dX5_init_174 rfl (lv_at hl 2 rfl) ?_
              rw [pCl_mid (v := n0) (lo := 1) (hi := 16) (by omega) (by omega) (Int32.not_lt.mpr c_156) (Int32.not_lt.mpr c_166)]
              exact j175 _ _ _ (hP.sub [0, 1, 2, 3, 4, 5, 6, 7, 8, 9, 10, 11, 12] rfl) (hD.sub [0, 1, 2, 3, 4, 5, 6, 7, 8, 9, 10, 11, 12] (by decide) rfl) hS (lv_sub hl [1, 2, 3] rfl)
            · skip
              refine lv_bipush (v := (nI 16)) hx hb dX5_init_169 (by decide) ?_
              refine lv_goto (tgt := 175) hx hb dX5_init_171 (by decide) ?_
              rw [show nI 16 = nI (pCl 1 16 n0) by rw [pCl_hi (by omega) (by omega) (Int32.not_le.mp c_166)]]
              exact j175 _ _ _ (hP.sub [0, 1, 2, 3, 4, 5, 6, 7, 8, 9, 10, 11, 12] rfl) (hD.sub [0, 1, 2, 3, 4, 5, 6, 7, 8, 9, 10, 11, 12] (by decide) rfl) hS (lv_sub hl [1, 2, 3] rfl)
          · skip
            refine lv_iconst (v := (nI 1)) hx hb dX5_init_159 (by decide) ?_
            refine lv_goto (tgt := 175) hx hb dX5_init_160 (by decide) ?_
            rw [show nI 1 = nI (pCl 1 16 n0) by rw [pCl_lo (by omega) (Int32.not_le.mp c_156)]]
            exact j175 _ _ _ (hP.sub [0, 1, 2, 3, 4, 5, 6, 7, 8, 9, 10, 11, 12] rfl) (hD.sub [0, 1, 2, 3, 4, 5, 6, 7, 8, 9, 10, 11, 12] (by decide) rfl) hS (lv_sub hl [1, 2, 3] rfl)
        · skip
          refine lv_iinc (v := (nI (k + 1))) (lv' := [(4, .int (nI (k + 1))), (3, .int e0), (2, .int n0), (0, .ref h0)]) hx hb dX5_init_141 hl (k := 0) rfl (nI_1 _) (by decide) rfl (fun ls hl => ?_)
          refine lv_goto (tgt := 133) hx hb dX5_init_144 (by decide) ?_
          exact ih_lp (k + 1) _ _ _ (by omega) (by have := np_lt i2 (pB_e0 c_138); omega) (by omega) (pLeast_no i4 (np_lt i2 (pB_e0 c_138)) (pB_e0 c_138)) (hP.sub [0, 1, 2, 3, 4, 5, 6, 7, 8, 9, 10, 11, 12] rfl) (hD.sub [0, 1, 2, 3, 4, 5, 6, 7, 8, 9, 10, 11, 12] (by decide) rfl) hS (lv_sub hl [0, 1, 2, 3] rfl)
    exact lp 46338 (pCl 2 46337 p0) _ _ _ (by omega) (by omega) (by omega) rfl (hP.sub [0, 1, 2, 3, 4, 5, 6, 7, 8, 9, 10, 11, 12] rfl) (hD.sub [0, 1, 2, 3, 4, 5, 6, 7, 8, 9, 10, 11, 12] (by decide) rfl) hS (lv_sub hl [0, 1, 2, 4] rfl)
  refine lv_iload_n hx hb dX5_init_110 rfl (lv_at hl 1 rfl) ?_
  refine lv_iconst (v := (nI 2)) hx hb dX5_init_111 (by decide) ?_
  refine lv_icmp_ge (tgt := 119) hx hb dX5_init_112 (by decide) (fun c_112 => ?_) (fun c_112 => ?_)
  · skip
    refine lv_iload_n hx hb dX5_init_119 rfl (lv_at hl 1 rfl) ?_
    refine lv_ldc (v := (nI 46337)) hx hb hown kc55 dX5_init_120 ?_
    refine lv_icmp_le (tgt := 130) hx hb dX5_init_122 (by decide) (fun c_122 => ?_) (fun c_122 => ?_)
    · skip
      refine lv_iload_n hx hb dX5_init_130 rfl (lv_at hl 1 rfl) ?_
      rw [pCl_mid (v := p0) (lo := 2) (hi := 46337) (by omega) (by omega) (Int32.not_lt.mpr c_112) (Int32.not_lt.mpr c_122)]
      exact j131 _ _ _ (hP.sub [0, 1, 2, 3, 4, 5, 6, 7, 8, 9, 10, 11, 12] rfl) (hD.sub [0, 1, 2, 3, 4, 5, 6, 7, 8, 9, 10, 11, 12] (by decide) rfl) hS (lv_sub hl [3, 2, 1, 0] rfl)
    · skip
      refine lv_ldc (v := (nI 46337)) hx hb hown kc55 dX5_init_125 ?_
      refine lv_goto (tgt := 131) hx hb dX5_init_127 (by decide) ?_
      rw [show nI 46337 = nI (pCl 2 46337 p0) by rw [pCl_hi (by omega) (by omega) (Int32.not_le.mp c_122)]]
      exact j131 _ _ _ (hP.sub [0, 1, 2, 3, 4, 5, 6, 7, 8, 9, 10, 11, 12] rfl) (hD.sub [0, 1, 2, 3, 4, 5, 6, 7, 8, 9, 10, 11, 12] (by decide) rfl) hS (lv_sub hl [3, 2, 1, 0] rfl)
  · skip
    refine lv_iconst (v := (nI 2)) hx hb dX5_init_115 (by decide) ?_
    refine lv_goto (tgt := 131) hx hb dX5_init_116 (by decide) ?_
    rw [show nI 2 = nI (pCl 2 46337 p0) by rw [pCl_lo (by omega) (Int32.not_le.mp c_112)]]
    exact j131 _ _ _ (hP.sub [0, 1, 2, 3, 4, 5, 6, 7, 8, 9, 10, 11, 12] rfl) (hD.sub [0, 1, 2, 3, 4, 5, 6, 7, 8, 9, 10, 11, 12] (by decide) rfl) hS (lv_sub hl [3, 2, 1, 0] rfl)
