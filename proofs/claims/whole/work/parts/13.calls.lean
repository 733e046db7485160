set_option maxHeartbeats 4000000 in
set_option maxRecDepth 100000 in
/-- entry -/
theorem c_X4_entry (l : Launch) (D : va_G) (cI cJ : ClassId) (h0 aM aK aG aE aRi aCh aWo aNu aAn : Nat) (aR aC aV aS : Nat) (P n room held prod : Nat) (rows cols vals : Nat → Nat) (rs ss att : Nat) (r0 c0 v0 : Int32) (g1 : 2 ≤ P) (g2 : P ≤ 46337) (g4 : n ≤ 16) (g5 : room ≤ 100) (g6 : held ≤ room) : kd_MI (S := Unit) l yX4_entry wsX4_entry { frames := 1, cells := 0, slots := 0, locals := 23 } [.ref h0, .int r0, .int c0, .int v0] D vwCl cI cJ [(h0, .inr (4, [.ref aM, .ref aK, .ref aG, .ref aE, .int (nI n), .ref aRi, .ref aCh, .ref aWo, .ref aNu, .ref aAn, .int (nI rs), .int (nI ss), .int (nI att)])), (aM, .inr (2, [.int (nI P)])), (aK, .inr (1, [.ref aM, .ref aR, .ref aC, .ref aV, .ref aS, .int (nI held), .int (nI prod)])), (aR, kd_ar cI room rows), (aC, kd_ar cI room cols), (aV, kd_ar cI room vals)] (fun _ => nI (pEntry n room held r0 c0)) (fun _ => [(h0, .inr (4, [.ref aM, .ref aK, .ref aG, .ref aE, .int (nI n), .ref aRi, .ref aCh, .ref aWo, .ref aNu, .ref aAn, .int (nI (if pOkE n room held r0 c0 then 0 else rs)), .int (nI (if pOkE n room held r0 c0 then 0 else ss)), .int (nI att)])), (aM, .inr (2, [.int (nI P)])), (aK, .inr (1, [.ref aM, .ref aR, .ref aC, .ref aV, .ref aS, .int (nI (if pOkE n room held r0 c0 then held + 1 else held)), .int (nI prod)])), (aR, kd_ar cI room (if pOkE n room held r0 c0 then va_up rows held (pIx r0) else rows)), (aC, kd_ar cI room (if pOkE n room held r0 c0 then va_up cols held (pIx c0) else cols)), (aV, kd_ar cI room (if pOkE n room held r0 c0 then va_up vals held (pRed P v0) else vals))]) 0 0 := by
  refine kd_enterI (cc := cX4_entry) (maxL := 4) (by decide) rfl (Nat.le_of_ble_eq_true rfl) ?_
  intro p e s m args below meth c A ls Q hx hb hr hts hown hlk hnm hml hP hK hD hA hS hl ret
  have hl : lv_has ls 4 [(0, .ref h0), (1, .int r0), (2, .int c0), (3, .int v0)] := hl
  have hown : s.vm.findClass RX4 = some m.cls := hown
  have i_X4 : ∀ w ∈ wsX40, w ∈ wsX4_entry := by decide +kernel
  have fl36 := hts (.fieldLink RX4 36 "KrylovDesk" "matrix" "LKrylovDesk$Matrix;") (by decide +kernel)
  have fl27 := hts (.fieldLink RX4 27 "KrylovDesk" "modulus" "LKrylovDesk$Modulus;") (by decide +kernel)
  refine lv_aload_n hx hb dX4_entry_0 rfl (lv_at hl 0 rfl) ?_
  refine lv_iload_n hx hb dX4_entry_1 rfl (lv_at hl 1 rfl) ?_
  refine kd_VI (As := [.int r0]) (rest := []) (Wr := [(aM, .inr (2, [.int (nI P)])), (aK, .inr (1, [.ref aM, .ref aR, .ref aC, .ref aV, .ref aS, .int (nI held), .int (nI prod)])), (aR, kd_ar cI room rows), (aC, kd_ar cI room cols), (aV, kd_ar cI room vals)]) ⟨hx, hb, hml, hown, hts⟩ (c_X4_isPlace l D cI cJ h0 aM aK aG aE aRi aCh aWo aNu aAn n rs ss att r0 g4) (cwV 1 hts gX4_entry_X4_isPlace rfl rfl rfl (by decide +kernel) ⟨Nat.le_of_ble_eq_true rfl, Nat.le_of_ble_eq_true rfl⟩) hK hP hD hS hA [0] [1, 2, 3, 4, 5] rfl rfl (by decide) (by decide) 0 rfl rfl rfl rfl hl.1 (Nat.le_of_ble_eq_true rfl) dX4_entry_2 ⟨Nat.le_of_ble_eq_true rfl, Nat.le_of_ble_eq_true rfl⟩ (fun _ H locs hP hD hS => ?_)
  have hP : va_P D vwCl [(aM, .inr (2, [.int (nI P)])), (aK, .inr (1, [.ref aM, .ref aR, .ref aC, .ref aV, .ref aS, .int (nI held), .int (nI prod)])), (aR, kd_ar cI room rows), (aC, kd_ar cI room cols), (aV, kd_ar cI room vals), (h0, .inr (4, [.ref aM, .ref aK, .ref aG, .ref aE, .int (nI n), .ref aRi, .ref aCh, .ref aWo, .ref aNu, .ref aAn, .int (nI rs), .int (nI ss), .int (nI att)]))] H := hP
  have hD : va_D A [(aM, .inr (2, [.int (nI P)])), (aK, .inr (1, [.ref aM, .ref aR, .ref aC, .ref aV, .ref aS, .int (nI held), .int (nI prod)])), (aR, kd_ar cI room rows), (aC, kd_ar cI room cols), (aV, kd_ar cI room vals), (h0, .inr (4, [.ref aM, .ref aK, .ref aG, .ref aE, .int (nI n), .ref aRi, .ref aCh, .ref aWo, .ref aNu, .ref aAn, .int (nI rs), .int (nI ss), .int (nI att)]))] := hD
  refine kd_eq0 (tgt := 16) hx hb dX4_entry_5 (by decide) (by have := pB_lt (pPl n r0); omega) (fun c_5 => ?_) (fun c_5 => ?_)
  · skip
    refine lv_iconst (v := (nI 1)) hx hb dX4_entry_16 (by decide) ?_
    have e0 : ¬ (pPl n r0 ∧ pPl n c0) := fun q => by first | exact pB_e0 c_5 q.1 | exact pB_e0 c_13 q.2
    have e9 : ¬ pOkE n room held r0 c0 := fun q => e0 q.1
    simp only [if_neg e9] at ret
    exact ret () _ _ _ _ _ dX4_entry_17 (by unfold pEntry; rw [if_neg e0]) hS (hP.sub [5, 0, 1, 2, 3, 4] rfl) (hD.sub [5, 0, 1, 2, 3, 4] (by decide) rfl)
  · skip
    refine lv_aload_n hx hb dX4_entry_8 rfl (lv_at hl 0 rfl) ?_
    refine lv_iload_n hx hb dX4_entry_9 rfl (lv_at hl 2 rfl) ?_
    refine kd_VI (As := [.int c0]) (rest := []) (Wr := [(aM, .inr (2, [.int (nI P)])), (aK, .inr (1, [.ref aM, .ref aR, .ref aC, .ref aV, .ref aS, .int (nI held), .int (nI prod)])), (aR, kd_ar cI room rows), (aC, kd_ar cI room cols), (aV, kd_ar cI room vals)]) ⟨hx, hb, hml, hown, hts⟩ (c_X4_isPlace l D cI cJ h0 aM aK aG aE aRi aCh aWo aNu aAn n rs ss att c0 g4) (cwV 1 hts gX4_entry_X4_isPlace rfl rfl rfl (by decide +kernel) ⟨Nat.le_of_ble_eq_true rfl, Nat.le_of_ble_eq_true rfl⟩) hK hP hD hS hA [5] [0, 1, 2, 3, 4] rfl rfl (by decide) (by decide) 0 rfl rfl rfl rfl hl.1 (Nat.le_of_ble_eq_true rfl) dX4_entry_10 ⟨Nat.le_of_ble_eq_true rfl, Nat.le_of_ble_eq_true rfl⟩ (fun _ H locs hP hD hS => ?_)
    have hP : va_P D vwCl [(aM, .inr (2, [.int (nI P)])), (aK, .inr (1, [.ref aM, .ref aR, .ref aC, .ref aV, .ref aS, .int (nI held), .int (nI prod)])), (aR, kd_ar cI room rows), (aC, kd_ar cI room cols), (aV, kd_ar cI room vals), (h0, .inr (4, [.ref aM, .ref aK, .ref aG, .ref aE, .int (nI n), .ref aRi, .ref aCh, .ref aWo, .ref aNu, .ref aAn, .int (nI rs), .int (nI ss), .int (nI att)]))] H := hP
    have hD : va_D A [(aM, .inr (2, [.int (nI P)])), (aK, .inr (1, [.ref aM, .ref aR, .ref aC, .ref aV, .ref aS, .int (nI held), .int (nI prod)])), (aR, kd_ar cI room rows), (aC, kd_ar cI room cols), (aV, kd_ar cI room vals), (h0, .inr (4, [.ref aM, .ref aK, .ref aG, .ref aE, .int (nI n), .ref aRi, .ref aCh, .ref aWo, .ref aNu, .ref aAn, .int (nI rs), .int (nI ss), .int (nI att)]))] := hD
    refine kd_ne0 (tgt := 18) hx hb dX4_entry_13 (by decide) (by have := pB_lt (pPl n c0); omega) (fun c_13 => ?_) (fun c_13 => ?_)
    · skip
      refine lv_aload_n hx hb dX4_entry_18 rfl (lv_at hl 0 rfl) ?_
      refine va_get (D := D) (ci := 4) (v := .ref aK) (C := RX4) (T := TX4) (N := 13) hx hb hts i_X4 hown hK hP 5 rfl rfl 1 (by decide) fl36 (fun _ h9 => h9) rfl dX4_entry_19 ?_
      refine kd_VI (As := []) (rest := []) (Wr := [(aM, .inr (2, [.int (nI P)])), (aR, kd_ar cI room rows), (aC, kd_ar cI room cols), (h0, .inr (4, [.ref aM, .ref aK, .ref aG, .ref aE, .int (nI n), .ref aRi, .ref aCh, .ref aWo, .ref aNu, .ref aAn, .int (nI rs), .int (nI ss), .int (nI att)]))]) ⟨hx, hb, hml, hown, hts⟩ (c_X1_isFull l D cI cJ aK aM aR aC aV aS room held prod vals g5 g6) (cwV 0 hts gX4_entry_X1_isFull rfl rfl rfl (by decide +kernel) ⟨Nat.le_of_ble_eq_true rfl, Nat.le_of_ble_eq_true rfl⟩) hK hP hD hS hA [1, 4] [0, 2, 3, 5] rfl rfl (by decide) (by decide) 0 rfl rfl rfl rfl hl.1 (Nat.le_of_ble_eq_true rfl) dX4_entry_22 ⟨Nat.le_of_ble_eq_true rfl, Nat.le_of_ble_eq_true rfl⟩ (fun _ H locs hP hD hS => ?_)
      have hP : va_P D vwCl [(aM, .inr (2, [.int (nI P)])), (aR, kd_ar cI room rows), (aC, kd_ar cI room cols), (h0, .inr (4, [.ref aM, .ref aK, .ref aG, .ref aE, .int (nI n), .ref aRi, .ref aCh, .ref aWo, .ref aNu, .ref aAn, .int (nI rs), .int (nI ss), .int (nI att)])), (aK, .inr (1, [.ref aM, .ref aR, .ref aC, .ref aV, .ref aS, .int (nI held), .int (nI prod)])), (aV, kd_ar cI room vals)] H := hP
      have hD : va_D A [(aM, .inr (2, [.int (nI P)])), (aR, kd_ar cI room rows), (aC, kd_ar cI room cols), (h0, .inr (4, [.ref aM, .ref aK, .ref aG, .ref aE, .int (nI n), .ref aRi, .ref aCh, .ref aWo, .ref aNu, .ref aAn, .int (nI rs), .int (nI ss), .int (nI att)])), (aK, .inr (1, [.ref aM, .ref aR, .ref aC, .ref aV, .ref aS, .int (nI held), .int (nI prod)])), (aV, kd_ar cI room vals)] := hD
      refine kd_eq0 (tgt := 30) hx hb dX4_entry_25 (by decide) (by have := pB_lt (room ≤ held); omega) (fun c_25 => ?_) (fun c_25 => ?_)
      · skip
        have eok : pOkE n room held r0 c0 := ⟨⟨pB_e1 c_5, pB_e1 c_13⟩, by have := pB_e0 c_25; omega⟩
        have ean : pEntry n room held r0 c0 = 0 := by unfold pEntry; rw [if_pos eok.1, if_pos eok.2]
        rw [ean] at ret
        simp only [if_pos eok] at ret
        have q1 := pPl_ix eok.1.1
        have q2 := pPl_ix eok.1.2
        generalize pIx r0 = jr at q1 ret
        generalize pIx c0 = jc at q2 ret
        obtain ⟨e7, hjr⟩ := q1
        obtain ⟨e8, hjc⟩ := q2
        rw [e7, e8] at hl
        refine lv_aload_n hx hb dX4_entry_30 rfl (lv_at hl 0 rfl) ?_
        refine va_get (D := D) (ci := 4) (v := .ref aK) (C := RX4) (T := TX4) (N := 13) hx hb hts i_X4 hown hK hP 3 rfl rfl 1 (by decide) fl36 (fun _ h9 => h9) rfl dX4_entry_31 ?_
        refine lv_iload_n hx hb dX4_entry_34 rfl (lv_at hl 1 rfl) ?_
        refine lv_iload_n hx hb dX4_entry_35 rfl (lv_at hl 2 rfl) ?_
        refine lv_aload_n hx hb dX4_entry_36 rfl (lv_at hl 0 rfl) ?_
        refine va_get (D := D) (ci := 4) (v := .ref aM) (C := RX4) (T := TX4) (N := 13) hx hb hts i_X4 hown hK hP 3 rfl rfl 0 (by decide) fl27 (fun _ h9 => h9) rfl dX4_entry_37 ?_
        refine lv_iload_n hx hb dX4_entry_40 rfl (lv_at hl 3 rfl) ?_
        refine kd_VI (As := [.int v0]) (rest := [.int (nI jc), .int (nI jr), .ref aK]) (Wr := [(aR, kd_ar cI room rows), (aC, kd_ar cI room cols), (h0, .inr (4, [.ref aM, .ref aK, .ref aG, .ref aE, .int (nI n), .ref aRi, .ref aCh, .ref aWo, .ref aNu, .ref aAn, .int (nI rs), .int (nI ss), .int (nI att)])), (aK, .inr (1, [.ref aM, .ref aR, .ref aC, .ref aV, .ref aS, .int (nI held), .int (nI prod)])), (aV, kd_ar cI room vals)]) ⟨hx, hb, hml, hown, hts⟩ (c_X2_reduce l D cI cJ aM P v0 g1 g2) (cwV 1 hts gX4_entry_X2_reduce rfl rfl rfl (by decide +kernel) ⟨Nat.le_of_ble_eq_true rfl, Nat.le_of_ble_eq_true rfl⟩) hK hP hD hS hA [0] [1, 2, 3, 4, 5] rfl rfl (by decide) (by decide) 0 rfl rfl rfl rfl hl.1 (Nat.le_of_ble_eq_true rfl) dX4_entry_41 ⟨Nat.le_of_ble_eq_true rfl, Nat.le_of_ble_eq_true rfl⟩ (fun _ H locs hP hD hS => ?_)
        have hP : va_P D vwCl [(aR, kd_ar cI room rows), (aC, kd_ar cI room cols), (h0, .inr (4, [.ref aM, .ref aK, .ref aG, .ref aE, .int (nI n), .ref aRi, .ref aCh, .ref aWo, .ref aNu, .ref aAn, .int (nI rs), .int (nI ss), .int (nI att)])), (aK, .inr (1, [.ref aM, .ref aR, .ref aC, .ref aV, .ref aS, .int (nI held), .int (nI prod)])), (aV, kd_ar cI room vals), (aM, .inr (2, [.int (nI P)]))] H := hP
        have hD : va_D A [(aR, kd_ar cI room rows), (aC, kd_ar cI room cols), (h0, .inr (4, [.ref aM, .ref aK, .ref aG, .ref aE, .int (nI n), .ref aRi, .ref aCh, .ref aWo, .ref aNu, .ref aAn, .int (nI rs), .int (nI ss), .int (nI att)])), (aK, .inr (1, [.ref aM, .ref aR, .ref aC, .ref aV, .ref aS, .int (nI held), .int (nI prod)])), (aV, kd_ar cI room vals), (aM, .inr (2, [.int (nI P)]))] := hD
        refine kd_VV (As := [.int (nI jr), .int (nI jc), .int (nI (pRed P v0))]) (rest := []) (Wr := [(h0, .inr (4, [.ref aM, .ref aK, .ref aG, .ref aE, .int (nI n), .ref aRi, .ref aCh, .ref aWo, .ref aNu, .ref aAn, .int (nI rs), .int (nI ss), .int (nI att)])), (aM, .inr (2, [.int (nI P)]))]) ⟨hx, hb, hml, hown, hts⟩ (c_X1_put l D cI cJ aK aM aR aC aV aS n room held prod rows cols vals jr jc (pRed P v0) g5 (by have := pB_e0 c_25; omega)) (cwV 3 hts gX4_entry_X1_put rfl rfl rfl (by decide +kernel) ⟨Nat.le_of_ble_eq_true rfl, Nat.le_of_ble_eq_true rfl⟩) hK hP hD hS hA [3, 0, 1, 4] [2, 5] rfl rfl (by decide) (by decide) 0 rfl rfl rfl rfl hl.1 (Nat.le_of_ble_eq_true rfl) dX4_entry_44 ⟨Nat.le_of_ble_eq_true rfl, Nat.le_of_ble_eq_true rfl⟩ (fun _ H locs hP hD hS => ?_)
        have hP : va_P D vwCl [(h0, .inr (4, [.ref aM, .ref aK, .ref aG, .ref aE, .int (nI n), .ref aRi, .ref aCh, .ref aWo, .ref aNu, .ref aAn, .int (nI rs), .int (nI ss), .int (nI att)])), (aM, .inr (2, [.int (nI P)])), (aK, .inr (1, [.ref aM, .ref aR, .ref aC, .ref aV, .ref aS, .int (nI (held + 1)), .int (nI prod)])), (aR, kd_ar cI room (va_up rows held jr)), (aC, kd_ar cI room (va_up cols held jc)), (aV, kd_ar cI room (va_up vals held (pRed P v0)))] H := hP
        have hD : va_D A [(h0, .inr (4, [.ref aM, .ref aK, .ref aG, .ref aE, .int (nI n), .ref aRi, .ref aCh, .ref aWo, .ref aNu, .ref aAn, .int (nI rs), .int (nI ss), .int (nI att)])), (aM, .inr (2, [.int (nI P)])), (aK, .inr (1, [.ref aM, .ref aR, .ref aC, .ref aV, .ref aS, .int (nI (held + 1)), .int (nI prod)])), (aR, kd_ar cI room (va_up rows held jr)), (aC, kd_ar cI room (va_up cols held jc)), (aV, kd_ar cI room (va_up vals held (pRed P v0)))] := hD
        refine lv_aload_n hx hb dX4_entry_47 rfl (lv_at hl 0 rfl) ?_
        refine kd_VV (As := []) (rest := []) (Wr := [(aM, .inr (2, [.int (nI P)])), (aK, .inr (1, [.ref aM, .ref aR, .ref aC, .ref aV, .ref aS, .int (nI (held + 1)), .int (nI prod)])), (aR, kd_ar cI room (va_up rows held jr)), (aC, kd_ar cI room (va_up cols held jc)), (aV, kd_ar cI room (va_up vals held (pRed P v0)))]) ⟨hx, hb, hml, hown, hts⟩ (c_X4_forgetResults l D cI cJ h0 aM aK aG aE aRi aCh aWo aNu aAn n rs ss att) (cwV 0 hts gX4_entry_X4_forgetResults rfl rfl rfl (by decide +kernel) ⟨Nat.le_of_ble_eq_true rfl, Nat.le_of_ble_eq_true rfl⟩) hK hP hD hS hA [0] [1, 2, 3, 4, 5] rfl rfl (by decide) (by decide) 0 rfl rfl rfl rfl hl.1 (Nat.le_of_ble_eq_true rfl) dX4_entry_48 ⟨Nat.le_of_ble_eq_true rfl, Nat.le_of_ble_eq_true rfl⟩ (fun _ H locs hP hD hS => ?_)
        have hP : va_P D vwCl [(aM, .inr (2, [.int (nI P)])), (aK, .inr (1, [.ref aM, .ref aR, .ref aC, .ref aV, .ref aS, .int (nI (held + 1)), .int (nI prod)])), (aR, kd_ar cI room (va_up rows held jr)), (aC, kd_ar cI room (va_up cols held jc)), (aV, kd_ar cI room (va_up vals held (pRed P v0))), (h0, .inr (4, [.ref aM, .ref aK, .ref aG, .ref aE, .int (nI n), .ref aRi, .ref aCh, .ref aWo, .ref aNu, .ref aAn, .int (nI 0), .int (nI 0), .int (nI att)]))] H := hP
        have hD : va_D A [(aM, .inr (2, [.int (nI P)])), (aK, .inr (1, [.ref aM, .ref aR, .ref aC, .ref aV, .ref aS, .int (nI (held + 1)), .int (nI prod)])), (aR, kd_ar cI room (va_up rows held jr)), (aC, kd_ar cI room (va_up cols held jc)), (aV, kd_ar cI room (va_up vals held (pRed P v0))), (h0, .inr (4, [.ref aM, .ref aK, .ref aG, .ref aE, .int (nI n), .ref aRi, .ref aCh, .ref aWo, .ref aNu, .ref aAn, .int (nI 0), .int (nI 0), .int (nI att)]))] := hD
        refine lv_iconst (v := (nI 0)) hx hb dX4_entry_51 (by decide) ?_
        exact ret () _ _ _ _ _ dX4_entry_52 rfl hS (hP.sub [5, 0, 1, 2, 3, 4] rfl) (hD.sub [5, 0, 1, 2, 3, 4] (by decide) rfl)
      · skip
        refine lv_iconst (v := (nI 2)) hx hb dX4_entry_28 (by decide) ?_
        have e9 : ¬ pOkE n room held r0 c0 := fun q => by have := pB_e1 c_25; have := q.2; omega
        simp only [if_neg e9] at ret
        exact ret () _ _ _ _ _ dX4_entry_29 (by unfold pEntry; rw [if_pos ⟨pB_e1 c_5, pB_e1 c_13⟩, if_neg (by have := pB_e1 c_25; omega)]) hS (hP.sub [3, 0, 4, 1, 2, 5] rfl) (hD.sub [3, 0, 4, 1, 2, 5] (by decide) rfl)
    · skip
      refine lv_iconst (v := (nI 1)) hx hb dX4_entry_16 (by decide) ?_
      have e0 : ¬ (pPl n r0 ∧ pPl n c0) := fun q => by first | exact pB_e0 c_5 q.1 | exact pB_e0 c_13 q.2
      have e9 : ¬ pOkE n room held r0 c0 := fun q => e0 q.1
      simp only [if_neg e9] at ret
      exact ret () _ _ _ _ _ dX4_entry_17 (by unfold pEntry; rw [if_neg e0]) hS (hP.sub [5, 0, 1, 2, 3, 4] rfl) (hD.sub [5, 0, 1, 2, 3, 4] (by decide) rfl)

set_option maxHeartbeats 4000000 in
set_option maxRecDepth 100000 in
/-- side -/
theorem c_X4_side (l : Launch) (D : va_G) (cI cJ : ClassId) (h0 aM aK aG aE aRi aCh aWo aNu aAn : Nat) (P n : Nat) (b0 : Nat → Nat) (rs ss att : Nat) (r0 v0 : Int32) (g1 : 2 ≤ P) (g2 : P ≤ 46337) (g4 : n ≤ 16) : kd_MI (S := Unit) l yX4_side wsX4_side { frames := 1, cells := 0, slots := 0, locals := 22 } [.ref h0, .int r0, .int v0] D vwCl cI cJ [(h0, .inr (4, [.ref aM, .ref aK, .ref aG, .ref aE, .int (nI n), .ref aRi, .ref aCh, .ref aWo, .ref aNu, .ref aAn, .int (nI rs), .int (nI ss), .int (nI att)])), (aM, .inr (2, [.int (nI P)])), (aRi, kd_ar cI n b0)] (fun _ => nI (if pPl n r0 then 0 else 1)) (fun _ => [(h0, .inr (4, [.ref aM, .ref aK, .ref aG, .ref aE, .int (nI n), .ref aRi, .ref aCh, .ref aWo, .ref aNu, .ref aAn, .int (nI (if pPl n r0 then 0 else rs)), .int (nI (if pPl n r0 then 0 else ss)), .int (nI att)])), (aM, .inr (2, [.int (nI P)])), (aRi, kd_ar cI n (if pPl n r0 then va_up b0 (pIx r0) (pRed P v0) else b0))]) 0 0 := by
  refine kd_enterI (cc := cX4_side) (maxL := 3) (by decide) rfl (Nat.le_of_ble_eq_true rfl) ?_
  intro p e s m args below meth c A ls Q hx hb hr hts hown hlk hnm hml hP hK hD hA hS hl ret
  have hl : lv_has ls 3 [(0, .ref h0), (1, .int r0), (2, .int v0)] := hl
  have hown : s.vm.findClass RX4 = some m.cls := hown
  have i_X4 : ∀ w ∈ wsX40, w ∈ wsX4_side := by decide +kernel
  have fl56 := hts (.fieldLink RX4 56 "KrylovDesk" "right" "[I") (by decide +kernel)
  have fl27 := hts (.fieldLink RX4 27 "KrylovDesk" "modulus" "LKrylovDesk$Modulus;") (by decide +kernel)
  refine lv_aload_n hx hb dX4_side_0 rfl (lv_at hl 0 rfl) ?_
  refine lv_iload_n hx hb dX4_side_1 rfl (lv_at hl 1 rfl) ?_
  refine kd_VI (As := [.int r0]) (rest := []) (Wr := [(aM, .inr (2, [.int (nI P)])), (aRi, kd_ar cI n b0)]) ⟨hx, hb, hml, hown, hts⟩ (c_X4_isPlace l D cI cJ h0 aM aK aG aE aRi aCh aWo aNu aAn n rs ss att r0 g4) (cwV 1 hts gX4_side_X4_isPlace rfl rfl rfl (by decide +kernel) ⟨Nat.le_of_ble_eq_true rfl, Nat.le_of_ble_eq_true rfl⟩) hK hP hD hS hA [0] [1, 2] rfl rfl (by decide) (by decide) 0 rfl rfl rfl rfl hl.1 (Nat.le_of_ble_eq_true rfl) dX4_side_2 ⟨Nat.le_of_ble_eq_true rfl, Nat.le_of_ble_eq_true rfl⟩ (fun _ H locs hP hD hS => ?_)
  have hP : va_P D vwCl [(aM, .inr (2, [.int (nI P)])), (aRi, kd_ar cI n b0), (h0, .inr (4, [.ref aM, .ref aK, .ref aG, .ref aE, .int (nI n), .ref aRi, .ref aCh, .ref aWo, .ref aNu, .ref aAn, .int (nI rs), .int (nI ss), .int (nI att)]))] H := hP
  have hD : va_D A [(aM, .inr (2, [.int (nI P)])), (aRi, kd_ar cI n b0), (h0, .inr (4, [.ref aM, .ref aK, .ref aG, .ref aE, .int (nI n), .ref aRi, .ref aCh, .ref aWo, .ref aNu, .ref aAn, .int (nI rs), .int (nI ss), .int (nI att)]))] := hD
  refine kd_ne0 (tgt := 10) hx hb dX4_side_5 (by decide) (by have := pB_lt (pPl n r0); omega) (fun c_5 => ?_) (fun c_5 => ?_)
  · skip
    have eok : pPl n r0 := pB_e1 c_5
    simp only [if_pos eok] at ret
    have q1 := pPl_ix eok
    generalize pIx r0 = jr at q1 ret
    obtain ⟨e7, hjr⟩ := q1
    rw [e7] at hl
    refine lv_aload_n hx hb dX4_side_10 rfl (lv_at hl 0 rfl) ?_
    refine va_get (D := D) (ci := 4) (v := .ref aRi) (C := RX4) (T := TX4) (N := 13) hx hb hts i_X4 hown hK hP 2 rfl rfl 5 (by decide) fl56 (fun _ h9 => h9) rfl dX4_side_11 ?_
    refine lv_iload_n hx hb dX4_side_14 rfl (lv_at hl 1 rfl) ?_
    refine lv_aload_n hx hb dX4_side_15 rfl (lv_at hl 0 rfl) ?_
    refine va_get (D := D) (ci := 4) (v := .ref aM) (C := RX4) (T := TX4) (N := 13) hx hb hts i_X4 hown hK hP 2 rfl rfl 0 (by decide) fl27 (fun _ h9 => h9) rfl dX4_side_16 ?_
    refine lv_iload_n hx hb dX4_side_19 rfl (lv_at hl 2 rfl) ?_
    refine kd_VI (As := [.int v0]) (rest := [.int (nI jr), .ref aRi]) (Wr := [(aRi, kd_ar cI n b0), (h0, .inr (4, [.ref aM, .ref aK, .ref aG, .ref aE, .int (nI n), .ref aRi, .ref aCh, .ref aWo, .ref aNu, .ref aAn, .int (nI rs), .int (nI ss), .int (nI att)]))]) ⟨hx, hb, hml, hown, hts⟩ (c_X2_reduce l D cI cJ aM P v0 g1 g2) (cwV 1 hts gX4_side_X2_reduce rfl rfl rfl (by decide +kernel) ⟨Nat.le_of_ble_eq_true rfl, Nat.le_of_ble_eq_true rfl⟩) hK hP hD hS hA [0] [1, 2] rfl rfl (by decide) (by decide) 0 rfl rfl rfl rfl hl.1 (Nat.le_of_ble_eq_true rfl) dX4_side_20 ⟨Nat.le_of_ble_eq_true rfl, Nat.le_of_ble_eq_true rfl⟩ (fun _ H locs hP hD hS => ?_)
    have hP : va_P D vwCl [(aRi, kd_ar cI n b0), (h0, .inr (4, [.ref aM, .ref aK, .ref aG, .ref aE, .int (nI n), .ref aRi, .ref aCh, .ref aWo, .ref aNu, .ref aAn, .int (nI rs), .int (nI ss), .int (nI att)])), (aM, .inr (2, [.int (nI P)]))] H := hP
    have hD : va_D A [(aRi, kd_ar cI n b0), (h0, .inr (4, [.ref aM, .ref aK, .ref aG, .ref aE, .int (nI n), .ref aRi, .ref aCh, .ref aWo, .ref aNu, .ref aAn, .int (nI rs), .int (nI ss), .int (nI att)])), (aM, .inr (2, [.int (nI P)]))] := hD
    refine kd_ast hx hb hK hP hD hS 0 rfl jr (by omega) (by omega) dX4_side_23 (fun H locs hP hD hS => ?_)
    have hP : va_P D vwCl [(aRi, kd_ar cI n (va_up b0 jr (pRed P v0))), (h0, .inr (4, [.ref aM, .ref aK, .ref aG, .ref aE, .int (nI n), .ref aRi, .ref aCh, .ref aWo, .ref aNu, .ref aAn, .int (nI rs), .int (nI ss), .int (nI att)])), (aM, .inr (2, [.int (nI P)]))] H := hP
    have hD : va_D A [(aRi, kd_ar cI n (va_up b0 jr (pRed P v0))), (h0, .inr (4, [.ref aM, .ref aK, .ref aG, .ref aE, .int (nI n), .ref aRi, .ref aCh, .ref aWo, .ref aNu, .ref aAn, .int (nI rs), .int (nI ss), .int (nI att)])), (aM, .inr (2, [.int (nI P)]))] := hD
    refine lv_aload_n hx hb dX4_side_24 rfl (lv_at hl 0 rfl) ?_
    refine kd_VV (As := []) (rest := []) (Wr := [(aRi, kd_ar cI n (va_up b0 jr (pRed P v0))), (aM, .inr (2, [.int (nI P)]))]) ⟨hx, hb, hml, hown, hts⟩ (c_X4_forgetResults l D cI cJ h0 aM aK aG aE aRi aCh aWo aNu aAn n rs ss att) (cwV 0 hts gX4_side_X4_forgetResults rfl rfl rfl (by decide +kernel) ⟨Nat.le_of_ble_eq_true rfl, Nat.le_of_ble_eq_true rfl⟩) hK hP hD hS hA [1] [0, 2] rfl rfl (by decide) (by decide) 0 rfl rfl rfl rfl hl.1 (Nat.le_of_ble_eq_true rfl) dX4_side_25 ⟨Nat.le_of_ble_eq_true rfl, Nat.le_of_ble_eq_true rfl⟩ (fun _ H locs hP hD hS => ?_)
    have hP : va_P D vwCl [(aRi, kd_ar cI n (va_up b0 jr (pRed P v0))), (aM, .inr (2, [.int (nI P)])), (h0, .inr (4, [.ref aM, .ref aK, .ref aG, .ref aE, .int (nI n), .ref aRi, .ref aCh, .ref aWo, .ref aNu, .ref aAn, .int (nI 0), .int (nI 0), .int (nI att)]))] H := hP
    have hD : va_D A [(aRi, kd_ar cI n (va_up b0 jr (pRed P v0))), (aM, .inr (2, [.int (nI P)])), (h0, .inr (4, [.ref aM, .ref aK, .ref aG, .ref aE, .int (nI n), .ref aRi, .ref aCh, .ref aWo, .ref aNu, .ref aAn, .int (nI 0), .int (nI 0), .int (nI att)]))] := hD
    refine lv_iconst (v := (nI 0)) hx hb dX4_side_28 (by decide) ?_
    exact ret () _ _ _ _ _ dX4_side_29 rfl hS (hP.sub [2, 1, 0] rfl) (hD.sub [2, 1, 0] (by decide) rfl)
  · skip
    refine lv_iconst (v := (nI 1)) hx hb dX4_side_8 (by decide) ?_
    have e9 : ¬ pPl n r0 := pB_e0 c_5
    simp only [if_neg e9] at ret
    exact ret () _ _ _ _ _ dX4_side_9 rfl hS (hP.sub [2, 0, 1] rfl) (hD.sub [2, 0, 1] (by decide) rfl)

set_option maxHeartbeats 4000000 in
set_option maxRecDepth 100000 in
/-- seed -/
theorem c_X4_seed (l : Launch) (D : va_G) (cI cJ : ClassId) (h0 aM aK aG aE aRi aCh aWo aNu aAn : Nat) (n rs ss att gg : Nat) (v0 : Int32) : kd_MV (S := Unit) l yX4_seed wsX4_seed { frames := 1, cells := 0, slots := 0, locals := 21 } [.ref h0, .int v0] D vwCl cI cJ [(h0, .inr (4, [.ref aM, .ref aK, .ref aG, .ref aE, .int (nI n), .ref aRi, .ref aCh, .ref aWo, .ref aNu, .ref aAn, .int (nI rs), .int (nI ss), .int (nI att)])), (aG, .inr (0, [.int (nI gg)]))] (fun _ => [(h0, .inr (4, [.ref aM, .ref aK, .ref aG, .ref aE, .int (nI n), .ref aRi, .ref aCh, .ref aWo, .ref aNu, .ref aAn, .int (nI rs), .int (nI ss), .int (nI att)])), (aG, .inr (0, [.int (nI (pSeed v0))]))]) 0 0 := by
  refine kd_enterV (cc := cX4_seed) (maxL := 2) (by decide) rfl (Nat.le_of_ble_eq_true rfl) ?_
  intro p e s m args below meth c A ls Q hx hb hr hts hown hlk hnm hml hP hK hD hA hS hl ret
  have hl : lv_has ls 2 [(0, .ref h0), (1, .int v0)] := hl
  have hown : s.vm.findClass RX4 = some m.cls := hown
  have i_X4 : ∀ w ∈ wsX40, w ∈ wsX4_seed := by decide +kernel
  have fl43 := hts (.fieldLink RX4 43 "KrylovDesk" "generator" "LKrylovDesk$Generator;") (by decide +kernel)
  refine lv_aload_n hx hb dX4_seed_0 rfl (lv_at hl 0 rfl) ?_
  refine va_get (D := D) (ci := 4) (v := .ref aG) (C := RX4) (T := TX4) (N := 13) hx hb hts i_X4 hown hK hP 0 rfl rfl 2 (by decide) fl43 (fun _ h9 => h9) rfl dX4_seed_1 ?_
  refine lv_iload_n hx hb dX4_seed_4 rfl (lv_at hl 1 rfl) ?_
  refine kd_VV (As := [.int v0]) (rest := []) (Wr := [(h0, .inr (4, [.ref aM, .ref aK, .ref aG, .ref aE, .int (nI n), .ref aRi, .ref aCh, .ref aWo, .ref aNu, .ref aAn, .int (nI rs), .int (nI ss), .int (nI att)]))]) ⟨hx, hb, hml, hown, hts⟩ (c_X0_restart l D cI cJ aG gg v0) (cwV 1 hts gX4_seed_X0_restart rfl rfl rfl (by decide +kernel) ⟨Nat.le_of_ble_eq_true rfl, Nat.le_of_ble_eq_true rfl⟩) hK hP hD hS hA [1] [0] rfl rfl (by decide) (by decide) 0 rfl rfl rfl rfl hl.1 (Nat.le_of_ble_eq_true rfl) dX4_seed_5 ⟨Nat.le_of_ble_eq_true rfl, Nat.le_of_ble_eq_true rfl⟩ (fun _ H locs hP hD hS => ?_)
  have hP : va_P D vwCl [(h0, .inr (4, [.ref aM, .ref aK, .ref aG, .ref aE, .int (nI n), .ref aRi, .ref aCh, .ref aWo, .ref aNu, .ref aAn, .int (nI rs), .int (nI ss), .int (nI att)])), (aG, .inr (0, [.int (nI (pSeed v0))]))] H := hP
  have hD : va_D A [(h0, .inr (4, [.ref aM, .ref aK, .ref aG, .ref aE, .int (nI n), .ref aRi, .ref aCh, .ref aWo, .ref aNu, .ref aAn, .int (nI rs), .int (nI ss), .int (nI att)])), (aG, .inr (0, [.int (nI (pSeed v0))]))] := hD
  exact ret () _ _ _ _ dX4_seed_8 hS (hP.sub [0, 1] rfl) (hD.sub [0, 1] (by decide) rfl)

set_option maxHeartbeats 4000000 in
set_option maxRecDepth 100000 in
/-- solution -/
theorem c_X4_solution (l : Launch) (D : va_G) (cI cJ : ClassId) (h0 aM aK aG aE aRi aCh aWo aNu aAn : Nat) (n rs ss att : Nat) (an : Nat → Nat) (i0 : Int32) (g4 : n ≤ 16) (g5 : ss < 2) : kd_MI (S := Unit) l yX4_solution wsX4_solution { frames := 1, cells := 0, slots := 0, locals := 21 } [.ref h0, .int i0] D vwCl cI cJ [(h0, .inr (4, [.ref aM, .ref aK, .ref aG, .ref aE, .int (nI n), .ref aRi, .ref aCh, .ref aWo, .ref aNu, .ref aAn, .int (nI rs), .int (nI ss), .int (nI att)])), (aAn, kd_ar cI n an)] (fun _ => pSol n ss an i0) (fun _ => [(h0, .inr (4, [.ref aM, .ref aK, .ref aG, .ref aE, .int (nI n), .ref aRi, .ref aCh, .ref aWo, .ref aNu, .ref aAn, .int (nI rs), .int (nI ss), .int (nI att)])), (aAn, kd_ar cI n an)]) 0 0 := by
  refine kd_enterI (cc := cX4_solution) (maxL := 2) (by decide) rfl (Nat.le_of_ble_eq_true rfl) ?_
  intro p e s m args below meth c A ls Q hx hb hr hts hown hlk hnm hml hP hK hD hA hS hl ret
  have hl : lv_has ls 2 [(0, .ref h0), (1, .int i0)] := hl
  have hown : s.vm.findClass RX4 = some m.cls := hown
  have i_X4 : ∀ w ∈ wsX40, w ∈ wsX4_solution := by decide +kernel
  have fl96 := hts (.fieldLink RX4 96 "KrylovDesk" "answerStands" "Z") (by decide +kernel)
  have fl69 := hts (.fieldLink RX4 69 "KrylovDesk" "answer" "[I") (by decide +kernel)
  refine lv_aload_n hx hb dX4_solution_0 rfl (lv_at hl 0 rfl) ?_
  refine va_get (D := D) (ci := 4) (v := .int (nI ss)) (C := RX4) (T := TX4) (N := 13) hx hb hts i_X4 hown hK hP 0 rfl rfl 11 (by decide) fl96 (fun _ h9 => h9) rfl dX4_solution_1 ?_
  refine kd_eq0 (tgt := 24) hx hb dX4_solution_4 (by decide) (by omega) (fun c_4 => ?_) (fun c_4 => ?_)
  · skip
    refine lv_iconst (v := (-1)) hx hb dX4_solution_24 (by decide) ?_
    exact ret () _ _ _ _ _ dX4_solution_25 ((if_neg (fun q => q.1 c_4)).symm) hS (hP.sub [0, 1] rfl) (hD.sub [0, 1] (by decide) rfl)
  · skip
    refine lv_aload_n hx hb dX4_solution_7 rfl (lv_at hl 0 rfl) ?_
    refine lv_iload_n hx hb dX4_solution_8 rfl (lv_at hl 1 rfl) ?_
    refine kd_VI (As := [.int i0]) (rest := []) (Wr := [(aAn, kd_ar cI n an)]) ⟨hx, hb, hml, hown, hts⟩ (c_X4_isPlace l D cI cJ h0 aM aK aG aE aRi aCh aWo aNu aAn n rs ss att i0 g4) (cwV 1 hts gX4_solution_X4_isPlace rfl rfl rfl (by decide +kernel) ⟨Nat.le_of_ble_eq_true rfl, Nat.le_of_ble_eq_true rfl⟩) hK hP hD hS hA [0] [1] rfl rfl (by decide) (by decide) 0 rfl rfl rfl rfl hl.1 (Nat.le_of_ble_eq_true rfl) dX4_solution_9 ⟨Nat.le_of_ble_eq_true rfl, Nat.le_of_ble_eq_true rfl⟩ (fun _ H locs hP hD hS => ?_)
    have hP : va_P D vwCl [(aAn, kd_ar cI n an), (h0, .inr (4, [.ref aM, .ref aK, .ref aG, .ref aE, .int (nI n), .ref aRi, .ref aCh, .ref aWo, .ref aNu, .ref aAn, .int (nI rs), .int (nI ss), .int (nI att)]))] H := hP
    have hD : va_D A [(aAn, kd_ar cI n an), (h0, .inr (4, [.ref aM, .ref aK, .ref aG, .ref aE, .int (nI n), .ref aRi, .ref aCh, .ref aWo, .ref aNu, .ref aAn, .int (nI rs), .int (nI ss), .int (nI att)]))] := hD
    refine kd_eq0 (tgt := 24) hx hb dX4_solution_12 (by decide) (by have := pB_lt (pPl n i0); omega) (fun c_12 => ?_) (fun c_12 => ?_)
    · skip
      refine lv_iconst (v := (-1)) hx hb dX4_solution_24 (by decide) ?_
      exact ret () _ _ _ _ _ dX4_solution_25 ((if_neg (fun q => pB_e0 c_12 q.2)).symm) hS (hP.sub [1, 0] rfl) (hD.sub [1, 0] (by decide) rfl)
    · skip
      have ean : pSol n ss an i0 = nI (an (pIx i0)) := if_pos ⟨c_4, pB_e1 c_12⟩
      rw [ean] at ret
      have q1 := pPl_ix (pB_e1 c_12)
      generalize pIx i0 = j at q1 ret
      obtain ⟨e7, hj⟩ := q1
      rw [e7] at hl
      refine lv_aload_n hx hb dX4_solution_15 rfl (lv_at hl 0 rfl) ?_
      refine va_get (D := D) (ci := 4) (v := .ref aAn) (C := RX4) (T := TX4) (N := 13) hx hb hts i_X4 hown hK hP 1 rfl rfl 9 (by decide) fl69 (fun _ h9 => h9) rfl dX4_solution_16 ?_
      refine lv_iload_n hx hb dX4_solution_19 rfl (lv_at hl 1 rfl) ?_
      refine kd_ald hx hb hK hP 0 rfl j (by omega) (by omega) dX4_solution_20 ?_
      refine lv_goto (tgt := 25) hx hb dX4_solution_21 (by decide) ?_
      exact ret () _ _ _ _ _ dX4_solution_25 rfl hS (hP.sub [1, 0] rfl) (hD.sub [1, 0] (by decide) rfl)

set_option maxHeartbeats 4000000 in
set_option maxRecDepth 100000 in
/-- degree -/
theorem c_X4_degree (l : Launch) (D : va_G) (cI cJ : ClassId) (h0 aM aK aG aE aRi aCh aWo aNu aAn : Nat) (tC tB tT : Nat) (n rs ss att L sh em : Nat) (g5 : rs < 2) : kd_MI (S := Unit) l yX4_degree wsX4_degree { frames := 0, cells := 0, slots := 0, locals := 0 } [.ref h0] D vwCl cI cJ [(h0, .inr (4, [.ref aM, .ref aK, .ref aG, .ref aE, .int (nI n), .ref aRi, .ref aCh, .ref aWo, .ref aNu, .ref aAn, .int (nI rs), .int (nI ss), .int (nI att)])), (aE, .inr (3, [.ref aM, .ref tC, .ref tB, .ref tT, .int (nI L), .int (nI sh), .int (nI em)]))] (fun _ => pDeg rs L) (fun _ => [(h0, .inr (4, [.ref aM, .ref aK, .ref aG, .ref aE, .int (nI n), .ref aRi, .ref aCh, .ref aWo, .ref aNu, .ref aAn, .int (nI rs), .int (nI ss), .int (nI att)])), (aE, .inr (3, [.ref aM, .ref tC, .ref tB, .ref tT, .int (nI L), .int (nI sh), .int (nI em)]))]) 0 0 := by
  refine kd_enterI (cc := cX4_degree) (maxL := 1) (by decide) rfl (Nat.le_of_ble_eq_true rfl) ?_
  intro p e s m args below meth c A ls Q hx hb hr hts hown hlk hnm hml hP hK hD hA hS hl ret
  have hl : lv_has ls 1 [(0, .ref h0)] := hl
  have hown : s.vm.findClass RX4 = some m.cls := hown
  have i_X4 : ∀ w ∈ wsX40, w ∈ wsX4_degree := by decide +kernel
  have fl110 := hts (.fieldLink RX4 110 "KrylovDesk" "rowStands" "Z") (by decide +kernel)
  have fl52 := hts (.fieldLink RX4 52 "KrylovDesk" "recurrence" "LKrylovDesk$Recurrence;") (by decide +kernel)
  have i_X3 : ∀ w ∈ wsX30, w ∈ wsX4_degree := by decide +kernel
  have fl113 := hts (.fieldLink RX4 113 "KrylovDesk$Recurrence" "length" "I") (by decide +kernel)
  refine lv_aload_n hx hb dX4_degree_0 rfl (lv_at hl 0 rfl) ?_
  refine va_get (D := D) (ci := 4) (v := .int (nI rs)) (C := RX4) (T := TX4) (N := 13) hx hb hts i_X4 hown hK hP 0 rfl rfl 10 (by decide) fl110 (fun _ h9 => h9) rfl dX4_degree_1 ?_
  refine kd_eq0 (tgt := 17) hx hb dX4_degree_4 (by decide) (by omega) (fun c_4 => ?_) (fun c_4 => ?_)
  · skip
    refine lv_iconst (v := (-1)) hx hb dX4_degree_17 (by decide) ?_
    exact ret () _ _ _ _ _ dX4_degree_18 (by first | exact (if_pos c_4).symm | exact (if_neg c_4).symm) hS (hP.sub [0, 1] rfl) (hD.sub [0, 1] (by decide) rfl)
  · skip
    refine lv_aload_n hx hb dX4_degree_7 rfl (lv_at hl 0 rfl) ?_
    refine va_get (D := D) (ci := 4) (v := .ref aE) (C := RX4) (T := TX4) (N := 13) hx hb hts i_X4 hown hK hP 0 rfl rfl 3 (by decide) fl52 (fun _ h9 => h9) rfl dX4_degree_8 ?_
    refine va_get (D := D) (ci := 3) (v := .int (nI L)) (C := RX3) (T := TX3) (N := 7) hx hb hts i_X3 hown hK hP 1 rfl rfl 4 (by decide) fl113 (fun _ h9 => h9) rfl dX4_degree_11 ?_
    refine lv_goto (tgt := 18) hx hb dX4_degree_14 (by decide) ?_
    exact ret () _ _ _ _ _ dX4_degree_18 (by first | exact (if_pos c_4).symm | exact (if_neg c_4).symm) hS (hP.sub [0, 1] rfl) (hD.sub [0, 1] (by decide) rfl)

set_option maxHeartbeats 4000000 in
set_option maxRecDepth 100000 in
/-- coefficient -/
theorem c_X4_coefficient (l : Launch) (D : va_G) (cI cJ : ClassId) (h0 aM aK aG aE aRi aCh aWo aNu aAn : Nat) (tC tB tT : Nat) (n rs ss att L sh em : Nat) (C : Nat → Nat) (i0 : Int32) (g4 : n ≤ 16) (g5 : rs < 2) (g6 : L ≤ 2 * n) : kd_MI (S := Unit) l yX4_coefficient wsX4_coefficient { frames := 1, cells := 0, slots := 0, locals := 21 } [.ref h0, .int i0] D vwCl cI cJ [(h0, .inr (4, [.ref aM, .ref aK, .ref aG, .ref aE, .int (nI n), .ref aRi, .ref aCh, .ref aWo, .ref aNu, .ref aAn, .int (nI rs), .int (nI ss), .int (nI att)])), (aE, .inr (3, [.ref aM, .ref tC, .ref tB, .ref tT, .int (nI L), .int (nI sh), .int (nI em)])), (tC, kd_ar cI (2 * n + 1) C)] (fun _ => pCoef rs L C i0) (fun _ => [(h0, .inr (4, [.ref aM, .ref aK, .ref aG, .ref aE, .int (nI n), .ref aRi, .ref aCh, .ref aWo, .ref aNu, .ref aAn, .int (nI rs), .int (nI ss), .int (nI att)])), (aE, .inr (3, [.ref aM, .ref tC, .ref tB, .ref tT, .int (nI L), .int (nI sh), .int (nI em)])), (tC, kd_ar cI (2 * n + 1) C)]) 0 0 := by
  refine kd_enterI (cc := cX4_coefficient) (maxL := 2) (by decide) rfl (Nat.le_of_ble_eq_true rfl) ?_
  intro p e s m args below meth c A ls Q hx hb hr hts hown hlk hnm hml hP hK hD hA hS hl ret
  have hl : lv_has ls 2 [(0, .ref h0), (1, .int i0)] := hl
  have hown : s.vm.findClass RX4 = some m.cls := hown
  have i_X4 : ∀ w ∈ wsX40, w ∈ wsX4_coefficient := by decide +kernel
  have fl110 := hts (.fieldLink RX4 110 "KrylovDesk" "rowStands" "Z") (by decide +kernel)
  have fl52 := hts (.fieldLink RX4 52 "KrylovDesk" "recurrence" "LKrylovDesk$Recurrence;") (by decide +kernel)
  have i_X3 : ∀ w ∈ wsX30, w ∈ wsX4_coefficient := by decide +kernel
  have fl113 := hts (.fieldLink RX4 113 "KrylovDesk$Recurrence" "length" "I") (by decide +kernel)
  refine lv_aload_n hx hb dX4_coefficient_0 rfl (lv_at hl 0 rfl) ?_
  refine va_get (D := D) (ci := 4) (v := .int (nI rs)) (C := RX4) (T := TX4) (N := 13) hx hb hts i_X4 hown hK hP 0 rfl rfl 10 (by decide) fl110 (fun _ h9 => h9) rfl dX4_coefficient_1 ?_
  refine kd_eq0 (tgt := 22) hx hb dX4_coefficient_4 (by decide) (by omega) (fun c_4 => ?_) (fun c_4 => ?_)
  · skip
    refine lv_iconst (v := (-1)) hx hb dX4_coefficient_22 (by decide) ?_
    exact ret () _ _ _ _ _ dX4_coefficient_23 ((if_neg (fun q => q.1 c_4)).symm) hS (hP.sub [0, 1, 2] rfl) (hD.sub [0, 1, 2] (by decide) rfl)
  · skip
    refine lv_iload_n hx hb dX4_coefficient_7 rfl (lv_at hl 1 rfl) ?_
    refine lv_if_lt (tgt := 22) hx hb dX4_coefficient_8 (by decide) (fun c_8 => ?_) (fun c_8 => ?_)
    · skip
      refine lv_iconst (v := (-1)) hx hb dX4_coefficient_22 (by decide) ?_
      exact ret () _ _ _ _ _ dX4_coefficient_23 ((if_neg (fun q => pPl_neg c_8 q.2)).symm) hS (hP.sub [0, 1, 2] rfl) (hD.sub [0, 1, 2] (by decide) rfl)
    · skip
      refine lv_iload_n hx hb dX4_coefficient_11 rfl (lv_at hl 1 rfl) ?_
      refine lv_aload_n hx hb dX4_coefficient_12 rfl (lv_at hl 0 rfl) ?_
      refine va_get (D := D) (ci := 4) (v := .ref aE) (C := RX4) (T := TX4) (N := 13) hx hb hts i_X4 hown hK hP 0 rfl rfl 3 (by decide) fl52 (fun _ h9 => h9) rfl dX4_coefficient_13 ?_
      refine va_get (D := D) (ci := 3) (v := .int (nI L)) (C := RX3) (T := TX3) (N := 7) hx hb hts i_X3 hown hK hP 1 rfl rfl 4 (by decide) fl113 (fun _ h9 => h9) rfl dX4_coefficient_16 ?_
      refine lv_icmp_le (tgt := 24) hx hb dX4_coefficient_19 (by decide) (fun c_19 => ?_) (fun c_19 => ?_)
      · skip
        have eok : pPl (L + 1) i0 := pPl_le (by omega) c_8 c_19
        have ean : pCoef rs L C i0 = nI (C (L - pIx i0)) := if_pos ⟨c_4, eok⟩
        rw [ean] at ret
        have q1 := pPl_ix eok
        generalize pIx i0 = j at q1 ret
        obtain ⟨e7, hj⟩ := q1
        rw [e7] at hl
        refine lv_aload_n hx hb dX4_coefficient_24 rfl (lv_at hl 0 rfl) ?_
        refine va_get (D := D) (ci := 4) (v := .ref aE) (C := RX4) (T := TX4) (N := 13) hx hb hts i_X4 hown hK hP 0 rfl rfl 3 (by decide) fl52 (fun _ h9 => h9) rfl dX4_coefficient_25 ?_
        refine lv_aload_n hx hb dX4_coefficient_28 rfl (lv_at hl 0 rfl) ?_
        refine va_get (D := D) (ci := 4) (v := .ref aE) (C := RX4) (T := TX4) (N := 13) hx hb hts i_X4 hown hK hP 0 rfl rfl 3 (by decide) fl52 (fun _ h9 => h9) rfl dX4_coefficient_29 ?_
        refine va_get (D := D) (ci := 3) (v := .int (nI L)) (C := RX3) (T := TX3) (N := 7) hx hb hts i_X3 hown hK hP 1 rfl rfl 4 (by decide) fl113 (fun _ h9 => h9) rfl dX4_coefficient_32 ?_
        refine lv_iload_n hx hb dX4_coefficient_35 rfl (lv_at hl 1 rfl) ?_
        refine kd_sub hx hb (by omega) dX4_coefficient_36 ?_
        refine kd_VI (As := [.int (nI (L - j))]) (rest := []) (Wr := [(h0, .inr (4, [.ref aM, .ref aK, .ref aG, .ref aE, .int (nI n), .ref aRi, .ref aCh, .ref aWo, .ref aNu, .ref aAn, .int (nI rs), .int (nI ss), .int (nI att)]))]) ⟨hx, hb, hml, hown, hts⟩ (c_X3_term l D cI cJ aE aM tC tB tT (2 * n + 1) L sh em (L - j) C (by omega) (by omega)) (cwV 1 hts gX4_coefficient_X3_term rfl rfl rfl (by decide +kernel) ⟨Nat.le_of_ble_eq_true rfl, Nat.le_of_ble_eq_true rfl⟩) hK hP hD hS hA [1, 2] [0] rfl rfl (by decide) (by decide) 0 rfl rfl rfl rfl hl.1 (Nat.le_of_ble_eq_true rfl) dX4_coefficient_37 ⟨Nat.le_of_ble_eq_true rfl, Nat.le_of_ble_eq_true rfl⟩ (fun _ H locs hP hD hS => ?_)
        have hP : va_P D vwCl [(h0, .inr (4, [.ref aM, .ref aK, .ref aG, .ref aE, .int (nI n), .ref aRi, .ref aCh, .ref aWo, .ref aNu, .ref aAn, .int (nI rs), .int (nI ss), .int (nI att)])), (aE, .inr (3, [.ref aM, .ref tC, .ref tB, .ref tT, .int (nI L), .int (nI sh), .int (nI em)])), (tC, kd_ar cI (2 * n + 1) C)] H := hP
        have hD : va_D A [(h0, .inr (4, [.ref aM, .ref aK, .ref aG, .ref aE, .int (nI n), .ref aRi, .ref aCh, .ref aWo, .ref aNu, .ref aAn, .int (nI rs), .int (nI ss), .int (nI att)])), (aE, .inr (3, [.ref aM, .ref tC, .ref tB, .ref tT, .int (nI L), .int (nI sh), .int (nI em)])), (tC, kd_ar cI (2 * n + 1) C)] := hD
        exact ret () _ _ _ _ _ dX4_coefficient_40 rfl hS (hP.sub [0, 1, 2] rfl) (hD.sub [0, 1, 2] (by decide) rfl)
      · skip
        refine lv_iconst (v := (-1)) hx hb dX4_coefficient_22 (by decide) ?_
        exact ret () _ _ _ _ _ dX4_coefficient_23 ((if_neg (fun q => pPl_gt (by omega) c_19 q.2)).symm) hS (hP.sub [0, 1, 2] rfl) (hD.sub [0, 1, 2] (by decide) rfl)

set_option maxHeartbeats 4000000 in
set_option maxRecDepth 100000 in
/-- number -/
theorem c_X4_number (l : Launch) (D : va_G) (cI cJ : ClassId) (h0 aM aK aG aE aRi aCh aWo aNu aAn : Nat) (n rs ss att : Nat) (nu : Nat → Nat) (i0 : Int32) (g4 : n ≤ 16) (g5 : rs < 2) : kd_MI (S := Unit) l yX4_number wsX4_number { frames := 0, cells := 0, slots := 0, locals := 0 } [.ref h0, .int i0] D vwCl cI cJ [(h0, .inr (4, [.ref aM, .ref aK, .ref aG, .ref aE, .int (nI n), .ref aRi, .ref aCh, .ref aWo, .ref aNu, .ref aAn, .int (nI rs), .int (nI ss), .int (nI att)])), (aNu, kd_ar cI (2 * n) nu)] (fun _ => pNum n rs nu i0) (fun _ => [(h0, .inr (4, [.ref aM, .ref aK, .ref aG, .ref aE, .int (nI n), .ref aRi, .ref aCh, .ref aWo, .ref aNu, .ref aAn, .int (nI rs), .int (nI ss), .int (nI att)])), (aNu, kd_ar cI (2 * n) nu)]) 0 0 := by
  refine kd_enterI (cc := cX4_number) (maxL := 2) (by decide) rfl (Nat.le_of_ble_eq_true rfl) ?_
  intro p e s m args below meth c A ls Q hx hb hr hts hown hlk hnm hml hP hK hD hA hS hl ret
  have hl : lv_has ls 2 [(0, .ref h0), (1, .int i0)] := hl
  have hown : s.vm.findClass RX4 = some m.cls := hown
  have i_X4 : ∀ w ∈ wsX40, w ∈ wsX4_number := by decide +kernel
  have fl110 := hts (.fieldLink RX4 110 "KrylovDesk" "rowStands" "Z") (by decide +kernel)
  have fl66 := hts (.fieldLink RX4 66 "KrylovDesk" "numbers" "[I") (by decide +kernel)
  refine lv_aload_n hx hb dX4_number_0 rfl (lv_at hl 0 rfl) ?_
  refine va_get (D := D) (ci := 4) (v := .int (nI rs)) (C := RX4) (T := TX4) (N := 13) hx hb hts i_X4 hown hK hP 0 rfl rfl 10 (by decide) fl110 (fun _ h9 => h9) rfl dX4_number_1 ?_
  refine kd_eq0 (tgt := 29) hx hb dX4_number_4 (by decide) (by omega) (fun c_4 => ?_) (fun c_4 => ?_)
  · skip
    refine lv_iconst (v := (-1)) hx hb dX4_number_29 (by decide) ?_
    exact ret () _ _ _ _ _ dX4_number_30 ((if_neg (fun q => q.1 c_4)).symm) hS (hP.sub [0, 1] rfl) (hD.sub [0, 1] (by decide) rfl)
  · skip
    refine lv_iload_n hx hb dX4_number_7 rfl (lv_at hl 1 rfl) ?_
    refine lv_if_lt (tgt := 29) hx hb dX4_number_8 (by decide) (fun c_8 => ?_) (fun c_8 => ?_)
    · skip
      refine lv_iconst (v := (-1)) hx hb dX4_number_29 (by decide) ?_
      exact ret () _ _ _ _ _ dX4_number_30 ((if_neg (fun q => pPl_neg c_8 q.2)).symm) hS (hP.sub [0, 1] rfl) (hD.sub [0, 1] (by decide) rfl)
    · skip
      refine lv_iload_n hx hb dX4_number_11 rfl (lv_at hl 1 rfl) ?_
      refine lv_aload_n hx hb dX4_number_12 rfl (lv_at hl 0 rfl) ?_
      refine va_get (D := D) (ci := 4) (v := .ref aNu) (C := RX4) (T := TX4) (N := 13) hx hb hts i_X4 hown hK hP 0 rfl rfl 8 (by decide) fl66 (fun _ h9 => h9) rfl dX4_number_13 ?_
      refine kd_alen hx hb hK hP 1 rfl dX4_number_16 ?_
      refine lv_icmp_ge (tgt := 29) hx hb dX4_number_17 (by decide) (fun c_17 => ?_) (fun c_17 => ?_)
      · skip
        refine lv_iconst (v := (-1)) hx hb dX4_number_29 (by decide) ?_
        exact ret () _ _ _ _ _ dX4_number_30 ((if_neg (fun q => pPl_big (by omega) c_17 q.2)).symm) hS (hP.sub [0, 1] rfl) (hD.sub [0, 1] (by decide) rfl)
      · skip
        have eok : pPl (2 * n) i0 := pPl_in (by omega) c_8 c_17
        have ean : pNum n rs nu i0 = nI (nu (pIx i0)) := if_pos ⟨c_4, eok⟩
        rw [ean] at ret
        have q1 := pPl_ix eok
        generalize pIx i0 = j at q1 ret
        obtain ⟨e7, hj⟩ := q1
        rw [e7] at hl
        refine lv_aload_n hx hb dX4_number_20 rfl (lv_at hl 0 rfl) ?_
        refine va_get (D := D) (ci := 4) (v := .ref aNu) (C := RX4) (T := TX4) (N := 13) hx hb hts i_X4 hown hK hP 0 rfl rfl 8 (by decide) fl66 (fun _ h9 => h9) rfl dX4_number_21 ?_
        refine lv_iload_n hx hb dX4_number_24 rfl (lv_at hl 1 rfl) ?_
        refine kd_ald hx hb hK hP 1 rfl j (by omega) (by omega) dX4_number_25 ?_
        refine lv_goto (tgt := 30) hx hb dX4_number_26 (by decide) ?_
        exact ret () _ _ _ _ _ dX4_number_30 rfl hS (hP.sub [0, 1] rfl) (hD.sub [0, 1] (by decide) rfl)

set_option maxHeartbeats 4000000 in
set_option maxRecDepth 100000 in
/-- verify -/
theorem c_X4_verify (l : Launch) (D : va_G) (cI cJ : ClassId) (h0 aM aK aG aE aRi aCh aWo aNu aAn : Nat) (aR aC aV aS : Nat) (P n room held prod : Nat) (rows cols vals sums : Nat → Nat) (rs ss att : Nat) (b0 wo an : Nat → Nat) (g : pOK P n room held rows cols vals b0) (g11 : ∀ j, j < n → an j < P) (g12 : ss < 2) : kd_MI (S := (Nat → Nat) × (Nat → Nat)) l yX4_verify wsX4_verify { frames := 3, cells := 0, slots := 0, locals := 108 } [.ref h0] D vwCl cI cJ [(h0, .inr (4, [.ref aM, .ref aK, .ref aG, .ref aE, .int (nI n), .ref aRi, .ref aCh, .ref aWo, .ref aNu, .ref aAn, .int (nI rs), .int (nI ss), .int (nI att)])), (aM, .inr (2, [.int (nI P)])), (aK, .inr (1, [.ref aM, .ref aR, .ref aC, .ref aV, .ref aS, .int (nI held), .int (nI prod)])), (aR, kd_ar cI room rows), (aC, kd_ar cI room cols), (aV, kd_ar cI room vals), (aS, kd_ar cI n sums), (aRi, kd_ar cI n b0), (aWo, kd_ar cI n wo), (aAn, kd_ar cI n an)] (fun u9 => nI (pB (¬ ss = 0 ∧ pHolds P n rows cols vals held b0 an))) (fun u9 => [(h0, .inr (4, [.ref aM, .ref aK, .ref aG, .ref aE, .int (nI n), .ref aRi, .ref aCh, .ref aWo, .ref aNu, .ref aAn, .int (nI rs), .int (nI ss), .int (nI att)])), (aM, .inr (2, [.int (nI P)])), (aK, .inr (1, [.ref aM, .ref aR, .ref aC, .ref aV, .ref aS, .int (nI held), .int (nI (if ss = 0 then prod else prod + 1))])), (aR, kd_ar cI room rows), (aC, kd_ar cI room cols), (aV, kd_ar cI room vals), (aS, kd_ar cI n u9.1), (aRi, kd_ar cI n b0), (aWo, kd_ar cI n u9.2), (aAn, kd_ar cI n an)]) 0 0 := by
  refine kd_enterZ (cc := cX4_verify) (maxL := 1) (by decide) rfl (Nat.le_of_ble_eq_true rfl) (fun _ => pB_01 _) ?_
  intro p e s m args below meth c A ls Q hx hb hr hts hown hlk hnm hml hP hK hD hA hS hl ret
  have hl : lv_has ls 1 [(0, .ref h0)] := hl
  have hown : s.vm.findClass RX4 = some m.cls := hown
  have i_X4 : ∀ w ∈ wsX40, w ∈ wsX4_verify := by decide +kernel
  have fl96 := hts (.fieldLink RX4 96 "KrylovDesk" "answerStands" "Z") (by decide +kernel)
  refine lv_aload_n hx hb dX4_verify_0 rfl (lv_at hl 0 rfl) ?_
  refine va_get (D := D) (ci := 4) (v := .int (nI ss)) (C := RX4) (T := TX4) (N := 13) hx hb hts i_X4 hown hK hP 0 rfl rfl 11 (by decide) fl96 (fun _ h9 => h9) rfl dX4_verify_1 ?_
  refine kd_eq0 (tgt := 18) hx hb dX4_verify_4 (by decide) (by omega) (fun c_4 => ?_) (fun c_4 => ?_)
  · skip
    refine lv_iconst (v := (nI 0)) hx hb dX4_verify_18 (by decide) ?_
    rw [if_pos c_4] at ret
    exact ret (sums, wo) _ _ _ _ _ dX4_verify_19 (by rw [pB_f (fun q => q.1 c_4)]) hS (hP.sub [0, 1, 2, 3, 4, 5, 6, 7, 8, 9] rfl) (hD.sub [0, 1, 2, 3, 4, 5, 6, 7, 8, 9] (by decide) rfl)
  · skip
    refine lv_aload_n hx hb dX4_verify_7 rfl (lv_at hl 0 rfl) ?_
    refine kd_VI (As := []) (rest := []) (Wr := []) ⟨hx, hb, hml, hown, hts⟩ (c_X4_answerMeetsRight l D cI cJ h0 aM aK aG aE aRi aCh aWo aNu aAn aR aC aV aS P n room held prod rows cols vals sums rs ss att b0 wo an g g11) (cwV 0 hts gX4_verify_X4_answerMeetsRight rfl rfl rfl (by decide +kernel) ⟨Nat.le_of_ble_eq_true rfl, Nat.le_of_ble_eq_true rfl⟩) hK hP hD hS hA [0, 1, 2, 3, 4, 5, 6, 7, 8, 9] [] rfl rfl (by decide) (by decide) 0 rfl rfl rfl rfl hl.1 (Nat.le_of_ble_eq_true rfl) dX4_verify_8 ⟨Nat.le_of_ble_eq_true rfl, Nat.le_of_ble_eq_true rfl⟩ (fun v9 H locs hP hD hS => ?_)
    have hP : va_P D vwCl [(h0, .inr (4, [.ref aM, .ref aK, .ref aG, .ref aE, .int (nI n), .ref aRi, .ref aCh, .ref aWo, .ref aNu, .ref aAn, .int (nI rs), .int (nI ss), .int (nI att)])), (aM, .inr (2, [.int (nI P)])), (aK, .inr (1, [.ref aM, .ref aR, .ref aC, .ref aV, .ref aS, .int (nI held), .int (nI (prod + 1))])), (aR, kd_ar cI room rows), (aC, kd_ar cI room cols), (aV, kd_ar cI room vals), (aS, kd_ar cI n v9.1), (aRi, kd_ar cI n b0), (aWo, kd_ar cI n v9.2), (aAn, kd_ar cI n an)] H := hP
    have hD : va_D A [(h0, .inr (4, [.ref aM, .ref aK, .ref aG, .ref aE, .int (nI n), .ref aRi, .ref aCh, .ref aWo, .ref aNu, .ref aAn, .int (nI rs), .int (nI ss), .int (nI att)])), (aM, .inr (2, [.int (nI P)])), (aK, .inr (1, [.ref aM, .ref aR, .ref aC, .ref aV, .ref aS, .int (nI held), .int (nI (prod + 1))])), (aR, kd_ar cI room rows), (aC, kd_ar cI room cols), (aV, kd_ar cI room vals), (aS, kd_ar cI n v9.1), (aRi, kd_ar cI n b0), (aWo, kd_ar cI n v9.2), (aAn, kd_ar cI n an)] := hD
    refine kd_eq0 (tgt := 18) hx hb dX4_verify_11 (by decide) (by have := pB_lt (pHolds P n rows cols vals held b0 an); omega) (fun c_11 => ?_) (fun c_11 => ?_)
    · skip
      refine lv_iconst (v := (nI 0)) hx hb dX4_verify_18 (by decide) ?_
      rw [if_neg c_4] at ret
      exact ret v9 _ _ _ _ _ dX4_verify_19 (by first | rw [pB_f (fun q => pB_e0 c_11 q.2)] | rw [pB_t ⟨c_4, pB_e1 c_11⟩]) hS (hP.sub [0, 1, 2, 3, 4, 5, 6, 7, 8, 9] rfl) (hD.sub [0, 1, 2, 3, 4, 5, 6, 7, 8, 9] (by decide) rfl)
    · skip
      refine lv_iconst (v := (nI 1)) hx hb dX4_verify_14 (by decide) ?_
      refine lv_goto (tgt := 19) hx hb dX4_verify_15 (by decide) ?_
      rw [if_neg c_4] at ret
      exact ret v9 _ _ _ _ _ dX4_verify_19 (by first | rw [pB_f (fun q => pB_e0 c_11 q.2)] | rw [pB_t ⟨c_4, pB_e1 c_11⟩]) hS (hP.sub [0, 1, 2, 3, 4, 5, 6, 7, 8, 9] rfl) (hD.sub [0, 1, 2, 3, 4, 5, 6, 7, 8, 9] (by decide) rfl)

set_option maxHeartbeats 4000000 in
set_option maxRecDepth 100000 in
/-- products -/
theorem c_X4_products (l : Launch) (D : va_G) (cI cJ : ClassId) (h0 aM aK aG aE aRi aCh aWo aNu aAn : Nat) (aR aC aV aS : Nat) (n held prod rs ss att : Nat) : kd_MI (S := Unit) l yX4_products wsX4_products { frames := 0, cells := 0, slots := 0, locals := 0 } [.ref h0] D vwCl cI cJ [(h0, .inr (4, [.ref aM, .ref aK, .ref aG, .ref aE, .int (nI n), .ref aRi, .ref aCh, .ref aWo, .ref aNu, .ref aAn, .int (nI rs), .int (nI ss), .int (nI att)])), (aK, .inr (1, [.ref aM, .ref aR, .ref aC, .ref aV, .ref aS, .int (nI held), .int (nI prod)]))] (fun _ => nI prod) (fun _ => [(h0, .inr (4, [.ref aM, .ref aK, .ref aG, .ref aE, .int (nI n), .ref aRi, .ref aCh, .ref aWo, .ref aNu, .ref aAn, .int (nI rs), .int (nI ss), .int (nI att)])), (aK, .inr (1, [.ref aM, .ref aR, .ref aC, .ref aV, .ref aS, .int (nI held), .int (nI prod)]))]) 0 0 := by
  refine kd_enterI (cc := cX4_products) (maxL := 1) (by decide) rfl (Nat.le_of_ble_eq_true rfl) ?_
  intro p e s m args below meth c A ls Q hx hb hr hts hown hlk hnm hml hP hK hD hA hS hl ret
  have hl : lv_has ls 1 [(0, .ref h0)] := hl
  have hown : s.vm.findClass RX4 = some m.cls := hown
  have i_X4 : ∀ w ∈ wsX40, w ∈ wsX4_products := by decide +kernel
  have fl36 := hts (.fieldLink RX4 36 "KrylovDesk" "matrix" "LKrylovDesk$Matrix;") (by decide +kernel)
  have i_X1 : ∀ w ∈ wsX10, w ∈ wsX4_products := by decide +kernel
  have fl132 := hts (.fieldLink RX4 132 "KrylovDesk$Matrix" "productsMade" "I") (by decide +kernel)
  refine lv_aload_n hx hb dX4_products_0 rfl (lv_at hl 0 rfl) ?_
  refine va_get (D := D) (ci := 4) (v := .ref aK) (C := RX4) (T := TX4) (N := 13) hx hb hts i_X4 hown hK hP 0 rfl rfl 1 (by decide) fl36 (fun _ h9 => h9) rfl dX4_products_1 ?_
  refine va_get (D := D) (ci := 1) (v := .int (nI prod)) (C := RX1) (T := TX1) (N := 7) hx hb hts i_X1 hown hK hP 1 rfl rfl 6 (by decide) fl132 (fun _ h9 => h9) rfl dX4_products_4 ?_
  exact ret () _ _ _ _ _ dX4_products_7 rfl hS (hP.sub [0, 1] rfl) (hD.sub [0, 1] (by decide) rfl)

set_option maxHeartbeats 4000000 in
set_option maxRecDepth 100000 in
/-- count -/
theorem c_X4_count (l : Launch) (D : va_G) (cI cJ : ClassId) (h0 aM aK aG aE aRi aCh aWo aNu aAn : Nat) (aR aC aV aS : Nat) (P n held prod rs ss att gg : Nat) (i0 : Int32) : kd_MI (S := Unit) l yX4_count wsX4_count { frames := 0, cells := 0, slots := 0, locals := 0 } [.ref h0, .int i0] D vwCl cI cJ [(h0, .inr (4, [.ref aM, .ref aK, .ref aG, .ref aE, .int (nI n), .ref aRi, .ref aCh, .ref aWo, .ref aNu, .ref aAn, .int (nI rs), .int (nI ss), .int (nI att)])), (aM, .inr (2, [.int (nI P)])), (aG, .inr (0, [.int (nI gg)])), (aK, .inr (1, [.ref aM, .ref aR, .ref aC, .ref aV, .ref aS, .int (nI held), .int (nI prod)]))] (fun _ => pCount P n held gg att i0) (fun _ => [(h0, .inr (4, [.ref aM, .ref aK, .ref aG, .ref aE, .int (nI n), .ref aRi, .ref aCh, .ref aWo, .ref aNu, .ref aAn, .int (nI rs), .int (nI ss), .int (nI att)])), (aM, .inr (2, [.int (nI P)])), (aG, .inr (0, [.int (nI gg)])), (aK, .inr (1, [.ref aM, .ref aR, .ref aC, .ref aV, .ref aS, .int (nI held), .int (nI prod)]))]) 0 0 := by
  refine kd_enterI (cc := cX4_count) (maxL := 2) (by decide) rfl (Nat.le_of_ble_eq_true rfl) ?_
  intro p e s m args below meth c A ls Q hx hb hr hts hown hlk hnm hml hP hK hD hA hS hl ret
  have hl : lv_has ls 2 [(0, .ref h0), (1, .int i0)] := hl
  have hown : s.vm.findClass RX4 = some m.cls := hown
  have i_X4 : ∀ w ∈ wsX40, w ∈ wsX4_count := by decide +kernel
  have fl27 := hts (.fieldLink RX4 27 "KrylovDesk" "modulus" "LKrylovDesk$Modulus;") (by decide +kernel)
  have i_X2 : ∀ w ∈ wsX20, w ∈ wsX4_count := by decide +kernel
  have fl135 := hts (.fieldLink RX4 135 "KrylovDesk$Modulus" "prime" "I") (by decide +kernel)
  have fl13 := hts (.fieldLink RX4 13 "KrylovDesk" "size" "I") (by decide +kernel)
  have fl36 := hts (.fieldLink RX4 36 "KrylovDesk" "matrix" "LKrylovDesk$Matrix;") (by decide +kernel)
  have i_X1 : ∀ w ∈ wsX10, w ∈ wsX4_count := by decide +kernel
  have fl138 := hts (.fieldLink RX4 138 "KrylovDesk$Matrix" "held" "I") (by decide +kernel)
  have fl43 := hts (.fieldLink RX4 43 "KrylovDesk" "generator" "LKrylovDesk$Generator;") (by decide +kernel)
  have i_X0 : ∀ w ∈ wsX00, w ∈ wsX4_count := by decide +kernel
  have fl141 := hts (.fieldLink RX4 141 "KrylovDesk$Generator" "state" "I") (by decide +kernel)
  have fl93 := hts (.fieldLink RX4 93 "KrylovDesk" "attemptsMade" "I") (by decide +kernel)
  refine lv_iload_n hx hb dX4_count_0 rfl (lv_at hl 1 rfl) ?_
  by_cases s_0 : i0 = 0
  · subst s_0
    refine lv_tableIn (tgt := 36) hx hb dX4_count_1 (by decide) (by decide) rfl (by decide) ?_
    have hl := lv_sub hl [0] rfl
    refine lv_aload_n hx hb dX4_count_36 rfl (lv_at hl 0 rfl) ?_
    refine va_get (D := D) (ci := 4) (v := .ref aM) (C := RX4) (T := TX4) (N := 13) hx hb hts i_X4 hown hK hP 0 rfl rfl 0 (by decide) fl27 (fun _ h9 => h9) rfl dX4_count_37 ?_
    refine va_get (D := D) (ci := 2) (v := .int (nI P)) (C := RX2) (T := TX2) (N := 1) hx hb hts i_X2 hown hK hP 1 rfl rfl 0 (by decide) fl135 (fun _ h9 => h9) rfl dX4_count_40 ?_
    exact ret () _ _ _ _ _ dX4_count_43 rfl hS (hP.sub [0, 1, 2, 3] rfl) (hD.sub [0, 1, 2, 3] (by decide) rfl)
  by_cases s_1 : i0 = 1
  · subst s_1
    refine lv_tableIn (tgt := 44) hx hb dX4_count_1 (by decide) (by decide) rfl (by decide) ?_
    have hl := lv_sub hl [0] rfl
    refine lv_aload_n hx hb dX4_count_44 rfl (lv_at hl 0 rfl) ?_
    refine va_get (D := D) (ci := 4) (v := .int (nI n)) (C := RX4) (T := TX4) (N := 13) hx hb hts i_X4 hown hK hP 0 rfl rfl 4 (by decide) fl13 (fun _ h9 => h9) rfl dX4_count_45 ?_
    exact ret () _ _ _ _ _ dX4_count_48 rfl hS (hP.sub [0, 1, 2, 3] rfl) (hD.sub [0, 1, 2, 3] (by decide) rfl)
  by_cases s_2 : i0 = 2
  · subst s_2
    refine lv_tableIn (tgt := 49) hx hb dX4_count_1 (by decide) (by decide) rfl (by decide) ?_
    have hl := lv_sub hl [0] rfl
    refine lv_aload_n hx hb dX4_count_49 rfl (lv_at hl 0 rfl) ?_
    refine va_get (D := D) (ci := 4) (v := .ref aK) (C := RX4) (T := TX4) (N := 13) hx hb hts i_X4 hown hK hP 0 rfl rfl 1 (by decide) fl36 (fun _ h9 => h9) rfl dX4_count_50 ?_
    refine va_get (D := D) (ci := 1) (v := .int (nI held)) (C := RX1) (T := TX1) (N := 7) hx hb hts i_X1 hown hK hP 3 rfl rfl 5 (by decide) fl138 (fun _ h9 => h9) rfl dX4_count_53 ?_
    exact ret () _ _ _ _ _ dX4_count_56 rfl hS (hP.sub [0, 1, 2, 3] rfl) (hD.sub [0, 1, 2, 3] (by decide) rfl)
  by_cases s_3 : i0 = 3
  · subst s_3
    refine lv_tableIn (tgt := 57) hx hb dX4_count_1 (by decide) (by decide) rfl (by decide) ?_
    have hl := lv_sub hl [0] rfl
    refine lv_aload_n hx hb dX4_count_57 rfl (lv_at hl 0 rfl) ?_
    refine va_get (D := D) (ci := 4) (v := .ref aG) (C := RX4) (T := TX4) (N := 13) hx hb hts i_X4 hown hK hP 0 rfl rfl 2 (by decide) fl43 (fun _ h9 => h9) rfl dX4_count_58 ?_
    refine va_get (D := D) (ci := 0) (v := .int (nI gg)) (C := RX0) (T := TX0) (N := 1) hx hb hts i_X0 hown hK hP 2 rfl rfl 0 (by decide) fl141 (fun _ h9 => h9) rfl dX4_count_61 ?_
    exact ret () _ _ _ _ _ dX4_count_64 rfl hS (hP.sub [0, 1, 2, 3] rfl) (hD.sub [0, 1, 2, 3] (by decide) rfl)
  by_cases s_4 : i0 = 4
  · subst s_4
    refine lv_tableIn (tgt := 65) hx hb dX4_count_1 (by decide) (by decide) rfl (by decide) ?_
    have hl := lv_sub hl [0] rfl
    refine lv_aload_n hx hb dX4_count_65 rfl (lv_at hl 0 rfl) ?_
    refine va_get (D := D) (ci := 4) (v := .int (nI att)) (C := RX4) (T := TX4) (N := 13) hx hb hts i_X4 hown hK hP 0 rfl rfl 12 (by decide) fl93 (fun _ h9 => h9) rfl dX4_count_66 ?_
    exact ret () _ _ _ _ _ dX4_count_69 rfl hS (hP.sub [0, 1, 2, 3] rfl) (hD.sub [0, 1, 2, 3] (by decide) rfl)
  refine lv_tableOut (tgt := 70) hx hb dX4_count_1 (kd_out4 s_0 s_1 s_2 s_3 s_4) (by decide) ?_
  refine lv_iconst (v := (-1)) hx hb dX4_count_70 (by decide) ?_
  exact ret () _ _ _ _ _ dX4_count_71 (by unfold pCount; rw [if_neg s_0, if_neg s_1, if_neg s_2, if_neg s_3, if_neg s_4]) hS (hP.sub [0, 1, 2, 3] rfl) (hD.sub [0, 1, 2, 3] (by decide) rfl)
