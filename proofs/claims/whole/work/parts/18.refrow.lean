set_option maxHeartbeats 4000000 in
set_option maxRecDepth 100000 in
/-- the row -/
theorem c_X5_makeRow (l : Launch) (D : va_G) (cI cJ : ClassId) (h0 rR rC rV rRi rDr rVe rMa rRo rc rb rt rSo : Nat) (P n room held gg att prod rs ss : Nat) (dg : Int32) (rows cols vals b0 dr ve ma ro : Nat → Nat) (g : pOK P n room held rows cols vals b0) (g11 : gg < 2 ^ 31) : kd_MV (S := (Nat → Nat) × (Nat → Nat) × (Nat → Nat) × (Nat → Nat)) l yX5_makeRow wsX5_makeRow { frames := 1, cells := 0, slots := 0, locals := 21 } [.ref h0] D vwCl cI cJ [(h0, .inr (5, [.int (nI P), .int (nI n), .int (nI room), .ref rR, .ref rC, .ref rV, .int (nI held), .ref rRi, .long (lN gg), .int (nI att), .int (nI prod), .ref rDr, .ref rVe, .ref rMa, .ref rRo, .int (nI rs), .ref rc, .ref rb, .ref rt, .int dg, .ref rSo, .int (nI ss)])), (rR, kd_ar cI 100 rows), (rC, kd_ar cI 100 cols), (rV, kd_al cJ 100 vals), (rRi, kd_al cJ 16 b0), (rDr, kd_al cJ 16 dr), (rVe, kd_al cJ 16 ve), (rMa, kd_al cJ 16 ma), (rRo, kd_al cJ 32 ro)] (fun u9 => [(h0, .inr (5, [.int (nI P), .int (nI n), .int (nI room), .ref rR, .ref rC, .ref rV, .int (nI held), .ref rRi, .long (lN (pGn gg n)), .int (nI att), .int (nI (prod + (2 * n - 1))), .ref rDr, .ref rVe, .ref rMa, .ref rRo, .int (nI 1), .ref rc, .ref rb, .ref rt, .int dg, .ref rSo, .int (nI ss)])), (rR, kd_ar cI 100 rows), (rC, kd_ar cI 100 cols), (rV, kd_al cJ 100 vals), (rRi, kd_al cJ 16 b0), (rDr, kd_al cJ 16 u9.1), (rVe, kd_al cJ 16 u9.2.1), (rMa, kd_al cJ 16 u9.2.2.1), (rRo, kd_al cJ 32 (pMix (2 * n) (pRow P n rows cols vals held b0 gg) u9.2.2.2))]) 0 0 := by
  refine kd_enterV (cc := cX5_makeRow) (maxL := 5) (by decide) rfl (Nat.le_of_ble_eq_true rfl) ?_
  intro p e s m args below meth c A ls Q hx hb hr hts hown hlk hnm hml hP hK hD hA hS hl ret
  have hl : lv_has ls 5 [(0, .ref h0)] := hl
  have hown : s.vm.findClass RX5 = some m.cls := hown
  have i_X5 : ∀ w ∈ wsX50, w ∈ wsX5_makeRow := by decide +kernel
  have fl63 := hts (.fieldLink RX5 63 "KrylovDeskModel" "n" "I") (by decide +kernel)
  have fl73 := hts (.fieldLink RX5 73 "KrylovDeskModel" "hasRow" "Z") (by decide +kernel)
  have fl36 := hts (.fieldLink RX5 36 "KrylovDeskModel" "row" "[J") (by decide +kernel)
  have fl27 := hts (.fieldLink RX5 27 "KrylovDeskModel" "drawn" "[J") (by decide +kernel)
  have fl30 := hts (.fieldLink RX5 30 "KrylovDeskModel" "vector" "[J") (by decide +kernel)
  have fl60 := hts (.fieldLink RX5 60 "KrylovDeskModel" "prime" "I") (by decide +kernel)
  have fl20 := hts (.fieldLink RX5 20 "KrylovDeskModel" "right" "[J") (by decide +kernel)
  obtain ⟨g1, g2, g3, g4, g5, g6, g7, g8, g9, g10⟩ := g
  refine lv_iconst (v := (nI 0)) hx hb dX5_makeRow_0 (by decide) ?_
  refine lv_istore_n (lv' := [(1, .int (nI 0)), (0, .ref h0)]) hx hb dX5_makeRow_1 rfl hl (by decide) rfl (fun ls hl => ?_)
  have lp : ∀ (k_lp : Nat) (i : Nat) (x : Nat → Nat) (H : Heap) (locs : List Loc) (ls : Array Slot), (n - i < k_lp) → (i ≤ n) → (∀ j, j < i → x j = pCh P gg j) → va_P D vwCl [(h0, .inr (5, [.int (nI P), .int (nI n), .int (nI room), .ref rR, .ref rC, .ref rV, .int (nI held), .ref rRi, .long (lN (pGn gg i)), .int (nI att), .int (nI prod), .ref rDr, .ref rVe, .ref rMa, .ref rRo, .int (nI rs), .ref rc, .ref rb, .ref rt, .int dg, .ref rSo, .int (nI ss)])), (rR, kd_ar cI 100 rows), (rC, kd_ar cI 100 cols), (rV, kd_al cJ 100 vals), (rRi, kd_al cJ 16 b0), (rDr, kd_al cJ 16 x), (rVe, kd_al cJ 16 ve), (rMa, kd_al cJ 16 ma), (rRo, kd_al cJ 32 ro)] H → va_D A [(h0, .inr (5, [.int (nI P), .int (nI n), .int (nI room), .ref rR, .ref rC, .ref rV, .int (nI held), .ref rRi, .long (lN (pGn gg i)), .int (nI att), .int (nI prod), .ref rDr, .ref rVe, .ref rMa, .ref rRo, .int (nI rs), .ref rc, .ref rb, .ref rt, .int dg, .ref rSo, .int (nI ss)])), (rR, kd_ar cI 100 rows), (rC, kd_ar cI 100 cols), (rV, kd_al cJ 100 vals), (rRi, kd_al cJ 16 b0), (rDr, kd_al cJ 16 x), (rVe, kd_al cJ 16 ve), (rMa, kd_al cJ 16 ma), (rRo, kd_al cJ 32 ro)] → va_S A s.heap H locs → lv_has ls 5 [(1, .int (nI i)), (0, .ref h0)] → W p l e { frames := 1, cells := 0, slots := 0, locals := 21 } s m args below meth c H locs 0 0 Q (F0 m 2 ls []) := by
    intro k_lp
    induction k_lp with
    | zero => intro i x H locs ls i1 i2 i3 hP hD hS hl; omega
    | succ k_lp ih_lp =>
      intro i x H locs ls i1 i2 i3 hP hD hS hl
      refine lv_iload_n hx hb dX5_makeRow_2 rfl (lv_at hl 0 rfl) ?_
      refine lv_aload_n hx hb dX5_makeRow_3 rfl (lv_at hl 1 rfl) ?_
      refine va_get (D := D) (ci := 5) (v := .int (nI n)) (C := RX5) (T := TX5) (N := 22) hx hb hts i_X5 hown hK hP 0 rfl rfl 1 (by decide) fl63 (fun _ h9 => h9) rfl dX5_makeRow_4 ?_
      refine kd_ge (tgt := 26) hx hb dX5_makeRow_7 (by decide) (by omega) (by omega) (fun c_7 => ?_) (fun c_7 => ?_)
      · skip
        refine lv_iconst (v := (nI 0)) hx hb dX5_makeRow_26 (by decide) ?_
        refine lv_istore_n (lv' := [(1, .int (nI 0)), (0, .ref h0)]) hx hb dX5_makeRow_27 rfl hl (by decide) rfl (fun ls hl => ?_)
        have e9 : i = n := by omega
        rw [e9] at hP hD i3
        have lq : ∀ (k_lq : Nat) (i : Nat) (v : Nat → Nat) (H : Heap) (locs : List Loc) (ls : Array Slot), (n - i < k_lq) → (i ≤ n) → (∀ j, v j = if j < i then b0 j else ve j) → va_P D vwCl [(h0, .inr (5, [.int (nI P), .int (nI n), .int (nI room), .ref rR, .ref rC, .ref rV, .int (nI held), .ref rRi, .long (lN (pGn gg n)), .int (nI att), .int (nI prod), .ref rDr, .ref rVe, .ref rMa, .ref rRo, .int (nI rs), .ref rc, .ref rb, .ref rt, .int dg, .ref rSo, .int (nI ss)])), (rR, kd_ar cI 100 rows), (rC, kd_ar cI 100 cols), (rV, kd_al cJ 100 vals), (rRi, kd_al cJ 16 b0), (rDr, kd_al cJ 16 x), (rVe, kd_al cJ 16 v), (rMa, kd_al cJ 16 ma), (rRo, kd_al cJ 32 ro)] H → va_D A [(h0, .inr (5, [.int (nI P), .int (nI n), .int (nI room), .ref rR, .ref rC, .ref rV, .int (nI held), .ref rRi, .long (lN (pGn gg n)), .int (nI att), .int (nI prod), .ref rDr, .ref rVe, .ref rMa, .ref rRo, .int (nI rs), .ref rc, .ref rb, .ref rt, .int dg, .ref rSo, .int (nI ss)])), (rR, kd_ar cI 100 rows), (rC, kd_ar cI 100 cols), (rV, kd_al cJ 100 vals), (rRi, kd_al cJ 16 b0), (rDr, kd_al cJ 16 x), (rVe, kd_al cJ 16 v), (rMa, kd_al cJ 16 ma), (rRo, kd_al cJ 32 ro)] → va_S A s.heap H locs → lv_has ls 5 [(1, .int (nI i)), (0, .ref h0)] → W p l e { frames := 1, cells := 0, slots := 0, locals := 21 } s m args below meth c H locs 0 0 Q (F0 m 28 ls []) := by
          intro k_lq
          induction k_lq with
          | zero => intro i v H locs ls j1 j2 j3 hP hD hS hl; omega
          | succ k_lq ih_lq =>
            intro i v H locs ls j1 j2 j3 hP hD hS hl
            refine lv_iload_n hx hb dX5_makeRow_28 rfl (lv_at hl 0 rfl) ?_
            refine lv_aload_n hx hb dX5_makeRow_29 rfl (lv_at hl 1 rfl) ?_
            refine va_get (D := D) (ci := 5) (v := .int (nI n)) (C := RX5) (T := TX5) (N := 22) hx hb hts i_X5 hown hK hP 0 rfl rfl 1 (by decide) fl63 (fun _ h9 => h9) rfl dX5_makeRow_30 ?_
            refine kd_ge (tgt := 54) hx hb dX5_makeRow_33 (by decide) (by omega) (by omega) (fun c_33 => ?_) (fun c_33 => ?_)
            · skip
              refine lv_iconst (v := (nI 0)) hx hb dX5_makeRow_54 (by decide) ?_
              refine lv_istore_n (lv' := [(1, .int (nI 0)), (0, .ref h0)]) hx hb dX5_makeRow_55 rfl hl (by decide) rfl (fun ls hl => ?_)
              obtain ⟨hP, hD⟩ := kd_swapL (g := (pMix n (pVk P rows cols vals held b0 (0 - 1)) ve)) hP hD 6 rfl (fun j hj => mix_end2 j3 (by omega))
              have hP : va_P D vwCl [(h0, .inr (5, [.int (nI P), .int (nI n), .int (nI room), .ref rR, .ref rC, .ref rV, .int (nI held), .ref rRi, .long (lN (pGn gg n)), .int (nI att), .int (nI prod), .ref rDr, .ref rVe, .ref rMa, .ref rRo, .int (nI rs), .ref rc, .ref rb, .ref rt, .int dg, .ref rSo, .int (nI ss)])), (rR, kd_ar cI 100 rows), (rC, kd_ar cI 100 cols), (rV, kd_al cJ 100 vals), (rRi, kd_al cJ 16 b0), (rDr, kd_al cJ 16 x), (rVe, kd_al cJ 16 (pMix n (pVk P rows cols vals held b0 (0 - 1)) ve)), (rMa, kd_al cJ 16 ma), (rRo, kd_al cJ 32 ro)] H := hP
              have hD : va_D A [(h0, .inr (5, [.int (nI P), .int (nI n), .int (nI room), .ref rR, .ref rC, .ref rV, .int (nI held), .ref rRi, .long (lN (pGn gg n)), .int (nI att), .int (nI prod), .ref rDr, .ref rVe, .ref rMa, .ref rRo, .int (nI rs), .ref rc, .ref rb, .ref rt, .int dg, .ref rSo, .int (nI ss)])), (rR, kd_ar cI 100 rows), (rC, kd_ar cI 100 cols), (rV, kd_al cJ 100 vals), (rRi, kd_al cJ 16 b0), (rDr, kd_al cJ 16 x), (rVe, kd_al cJ 16 (pMix n (pVk P rows cols vals held b0 (0 - 1)) ve)), (rMa, kd_al cJ 16 ma), (rRo, kd_al cJ 32 ro)] := hD
              have lr : ∀ (k_lr : Nat) (k : Nat) (mm : Nat → Nat) (y : Nat → Nat) (H : Heap) (locs : List Loc) (ls : Array Slot), (2 * n - k < k_lr) → (k ≤ 2 * n) → (∀ j, j < k → y j = pRow P n rows cols vals held b0 gg j) → va_P D vwCl [(h0, .inr (5, [.int (nI P), .int (nI n), .int (nI room), .ref rR, .ref rC, .ref rV, .int (nI held), .ref rRi, .long (lN (pGn gg n)), .int (nI att), .int (nI (prod + (k - 1))), .ref rDr, .ref rVe, .ref rMa, .ref rRo, .int (nI rs), .ref rc, .ref rb, .ref rt, .int dg, .ref rSo, .int (nI ss)])), (rR, kd_ar cI 100 rows), (rC, kd_ar cI 100 cols), (rV, kd_al cJ 100 vals), (rRi, kd_al cJ 16 b0), (rDr, kd_al cJ 16 x), (rVe, kd_al cJ 16 (pMix n (pVk P rows cols vals held b0 (k - 1)) ve)), (rMa, kd_al cJ 16 mm), (rRo, kd_al cJ 32 y)] H → va_D A [(h0, .inr (5, [.int (nI P), .int (nI n), .int (nI room), .ref rR, .ref rC, .ref rV, .int (nI held), .ref rRi, .long (lN (pGn gg n)), .int (nI att), .int (nI (prod + (k - 1))), .ref rDr, .ref rVe, .ref rMa, .ref rRo, .int (nI rs), .ref rc, .ref rb, .ref rt, .int dg, .ref rSo, .int (nI ss)])), (rR, kd_ar cI 100 rows), (rC, kd_ar cI 100 cols), (rV, kd_al cJ 100 vals), (rRi, kd_al cJ 16 b0), (rDr, kd_al cJ 16 x), (rVe, kd_al cJ 16 (pMix n (pVk P rows cols vals held b0 (k - 1)) ve)), (rMa, kd_al cJ 16 mm), (rRo, kd_al cJ 32 y)] → va_S A s.heap H locs → lv_has ls 5 [(1, .int (nI k)), (0, .ref h0)] → W p l e { frames := 1, cells := 0, slots := 0, locals := 21 } s m args below meth c H locs 0 0 Q (F0 m 56 ls []) := by
                intro k_lr
                induction k_lr with
                | zero => intro k mm y H locs ls k1 k2 k3 hP hD hS hl; omega
                | succ k_lr ih_lr =>
                  intro k mm y H locs ls k1 k2 k3 hP hD hS hl
                  refine lv_iload_n hx hb dX5_makeRow_56 rfl (lv_at hl 0 rfl) ?_
                  refine lv_iconst (v := (nI 2)) hx hb dX5_makeRow_57 (by decide) ?_
                  refine lv_aload_n hx hb dX5_makeRow_58 rfl (lv_at hl 1 rfl) ?_
                  refine va_get (D := D) (ci := 5) (v := .int (nI n)) (C := RX5) (T := TX5) (N := 22) hx hb hts i_X5 hown hK hP 0 rfl rfl 1 (by decide) fl63 (fun _ h9 => h9) rfl dX5_makeRow_59 ?_
                  refine kd_mul hx hb dX5_makeRow_62 ?_
                  refine kd_ge (tgt := 131) hx hb dX5_makeRow_63 (by decide) (by omega) (by omega) (fun c_63 => ?_) (fun c_63 => ?_)
                  · skip
                    refine lv_aload_n hx hb dX5_makeRow_131 rfl (lv_at hl 1 rfl) ?_
                    refine lv_iconst (v := (nI 1)) hx hb dX5_makeRow_132 (by decide) ?_
                    refine va_put (D := D) (ci := 5) (v := .int (nI 1)) (ty := .boolean) (C := RX5) (T := TX5) (N := 22) hx hb hts i_X5 tyX5 tyX5_ok nmX5 hown hK hP hD hS 0 rfl rfl 15 (by decide) fl73 (fun _ h9 => h9) rfl (by decide +kernel) rfl rfl (Nat.le_of_ble_eq_true rfl) dX5_makeRow_133 (fun H locs hP hD hS => ?_)
                    have hP : va_P D vwCl [(h0, .inr (5, [.int (nI P), .int (nI n), .int (nI room), .ref rR, .ref rC, .ref rV, .int (nI held), .ref rRi, .long (lN (pGn gg n)), .int (nI att), .int (nI (prod + (k - 1))), .ref rDr, .ref rVe, .ref rMa, .ref rRo, .int (nI 1), .ref rc, .ref rb, .ref rt, .int dg, .ref rSo, .int (nI ss)])), (rR, kd_ar cI 100 rows), (rC, kd_ar cI 100 cols), (rV, kd_al cJ 100 vals), (rRi, kd_al cJ 16 b0), (rDr, kd_al cJ 16 x), (rVe, kd_al cJ 16 (pMix n (pVk P rows cols vals held b0 (k - 1)) ve)), (rMa, kd_al cJ 16 mm), (rRo, kd_al cJ 32 y)] H := hP
                    have hD : va_D A [(h0, .inr (5, [.int (nI P), .int (nI n), .int (nI room), .ref rR, .ref rC, .ref rV, .int (nI held), .ref rRi, .long (lN (pGn gg n)), .int (nI att), .int (nI (prod + (k - 1))), .ref rDr, .ref rVe, .ref rMa, .ref rRo, .int (nI 1), .ref rc, .ref rb, .ref rt, .int dg, .ref rSo, .int (nI ss)])), (rR, kd_ar cI 100 rows), (rC, kd_ar cI 100 cols), (rV, kd_al cJ 100 vals), (rRi, kd_al cJ 16 b0), (rDr, kd_al cJ 16 x), (rVe, kd_al cJ 16 (pMix n (pVk P rows cols vals held b0 (k - 1)) ve)), (rMa, kd_al cJ 16 mm), (rRo, kd_al cJ 32 y)] := hD
                    have e7 : k = 2 * n := by omega
                    rw [e7] at hP hD k3
                    obtain ⟨hP, hD⟩ := kd_swapL (g := (pMix (2 * n) (pRow P n rows cols vals held b0 gg) y)) hP hD 8 rfl (fun j hj => pMix_of (fun j hj => k3 j hj) j)
                    have hP : va_P D vwCl [(h0, .inr (5, [.int (nI P), .int (nI n), .int (nI room), .ref rR, .ref rC, .ref rV, .int (nI held), .ref rRi, .long (lN (pGn gg n)), .int (nI att), .int (nI (prod + (2 * n - 1))), .ref rDr, .ref rVe, .ref rMa, .ref rRo, .int (nI 1), .ref rc, .ref rb, .ref rt, .int dg, .ref rSo, .int (nI ss)])), (rR, kd_ar cI 100 rows), (rC, kd_ar cI 100 cols), (rV, kd_al cJ 100 vals), (rRi, kd_al cJ 16 b0), (rDr, kd_al cJ 16 x), (rVe, kd_al cJ 16 (pMix n (pVk P rows cols vals held b0 (2 * n - 1)) ve)), (rMa, kd_al cJ 16 mm), (rRo, kd_al cJ 32 (pMix (2 * n) (pRow P n rows cols vals held b0 gg) y))] H := hP
                    have hD : va_D A [(h0, .inr (5, [.int (nI P), .int (nI n), .int (nI room), .ref rR, .ref rC, .ref rV, .int (nI held), .ref rRi, .long (lN (pGn gg n)), .int (nI att), .int (nI (prod + (2 * n - 1))), .ref rDr, .ref rVe, .ref rMa, .ref rRo, .int (nI 1), .ref rc, .ref rb, .ref rt, .int dg, .ref rSo, .int (nI ss)])), (rR, kd_ar cI 100 rows), (rC, kd_ar cI 100 cols), (rV, kd_al cJ 100 vals), (rRi, kd_al cJ 16 b0), (rDr, kd_al cJ 16 x), (rVe, kd_al cJ 16 (pMix n (pVk P rows cols vals held b0 (2 * n - 1)) ve)), (rMa, kd_al cJ 16 mm), (rRo, kd_al cJ 32 (pMix (2 * n) (pRow P n rows cols vals held b0 gg) y))] := hD
                    exact ret (x, pMix n (pVk P rows cols vals held b0 (2 * n - 1)) ve, mm, y) _ _ _ _ dX5_makeRow_136 hS (hP.sub [0, 1, 2, 3, 4, 5, 6, 7, 8] rfl) (hD.sub [0, 1, 2, 3, 4, 5, 6, 7, 8] (by decide) rfl)
                  · skip
                    refine lv_iload_n hx hb dX5_makeRow_66 rfl (lv_at hl 0 rfl) ?_
                    refine kd_le0 (tgt := 74) hx hb dX5_makeRow_67 (by decide) (by omega) (fun c_67 => ?_) (fun c_67 => ?_)
                    · skip
                      rw [show k - 1 = k by omega] at hP hD
                      refine lv_lconst (v := lN 0) hx hb dX5_makeRow_74 (by decide) ?_
                      refine lv_lstore_n (lv' := [(2, .long (lN 0)), (1, .int (nI k)), (0, .ref h0)]) hx hb dX5_makeRow_75 rfl hl (by decide) rfl (fun ls hl => ?_)
                      refine lv_iconst (v := (nI 0)) hx hb dX5_makeRow_76 (by decide) ?_
                      refine lv_istore (lv' := [(4, .int (nI 0)), (2, .long (lN 0)), (1, .int (nI k)), (0, .ref h0)]) hx hb dX5_makeRow_77 hl (by decide) rfl (fun ls hl => ?_)
                      have ls : ∀ (k_ls : Nat) (i : Nat) (H : Heap) (locs : List Loc) (ls : Array Slot), (n - i < k_ls) → (i ≤ n) → va_P D vwCl [(h0, .inr (5, [.int (nI P), .int (nI n), .int (nI room), .ref rR, .ref rC, .ref rV, .int (nI held), .ref rRi, .long (lN (pGn gg n)), .int (nI att), .int (nI (prod + k)), .ref rDr, .ref rVe, .ref rMa, .ref rRo, .int (nI rs), .ref rc, .ref rb, .ref rt, .int dg, .ref rSo, .int (nI ss)])), (rR, kd_ar cI 100 rows), (rC, kd_ar cI 100 cols), (rV, kd_al cJ 100 vals), (rRi, kd_al cJ 16 b0), (rDr, kd_al cJ 16 x), (rVe, kd_al cJ 16 (pMix n (pVk P rows cols vals held b0 k) ve)), (rMa, kd_al cJ 16 mm), (rRo, kd_al cJ 32 y)] H → va_D A [(h0, .inr (5, [.int (nI P), .int (nI n), .int (nI room), .ref rR, .ref rC, .ref rV, .int (nI held), .ref rRi, .long (lN (pGn gg n)), .int (nI att), .int (nI (prod + k)), .ref rDr, .ref rVe, .ref rMa, .ref rRo, .int (nI rs), .ref rc, .ref rb, .ref rt, .int dg, .ref rSo, .int (nI ss)])), (rR, kd_ar cI 100 rows), (rC, kd_ar cI 100 cols), (rV, kd_al cJ 100 vals), (rRi, kd_al cJ 16 b0), (rDr, kd_al cJ 16 x), (rVe, kd_al cJ 16 (pMix n (pVk P rows cols vals held b0 k) ve)), (rMa, kd_al cJ 16 mm), (rRo, kd_al cJ 32 y)] → va_S A s.heap H locs → lv_has ls 5 [(4, .int (nI i)), (2, .long (lN (pDot P (pCh P gg) (pVk P rows cols vals held b0 k) i))), (1, .int (nI k)), (0, .ref h0)] → W p l e { frames := 1, cells := 0, slots := 0, locals := 21 } s m args below meth c H locs 0 0 Q (F0 m 79 ls []) := by
                        intro k_ls
                        induction k_ls with
                        | zero => intro i H locs ls m1 m2 hP hD hS hl; omega
                        | succ k_ls ih_ls =>
                          intro i H locs ls m1 m2 hP hD hS hl
                          refine lv_iload hx hb dX5_makeRow_79 (lv_at hl 0 rfl) ?_
                          refine lv_aload_n hx hb dX5_makeRow_81 rfl (lv_at hl 3 rfl) ?_
                          refine va_get (D := D) (ci := 5) (v := .int (nI n)) (C := RX5) (T := TX5) (N := 22) hx hb hts i_X5 hown hK hP 0 rfl rfl 1 (by decide) fl63 (fun _ h9 => h9) rfl dX5_makeRow_82 ?_
                          refine kd_ge (tgt := 118) hx hb dX5_makeRow_85 (by decide) (by omega) (by omega) (fun c_85 => ?_) (fun c_85 => ?_)
                          · skip
                            have e8 : i = n := by omega
                            rw [e8] at hl
                            have hl : lv_has ls 5 [(4, .int (nI n)), (2, .long (lN (pRow P n rows cols vals held b0 gg k))), (1, .int (nI k)), (0, .ref h0)] := hl
                            refine lv_aload_n hx hb dX5_makeRow_118 rfl (lv_at hl 3 rfl) ?_
                            refine va_get (D := D) (ci := 5) (v := .ref rRo) (C := RX5) (T := TX5) (N := 22) hx hb hts i_X5 hown hK hP 0 rfl rfl 14 (by decide) fl36 (fun _ h9 => h9) rfl dX5_makeRow_119 ?_
                            refine lv_iload_n hx hb dX5_makeRow_122 rfl (lv_at hl 2 rfl) ?_
                            refine lv_lload_n hx hb dX5_makeRow_123 rfl (lv_at hl 1 rfl) ?_
                            refine kd_last hx hb hK hP hD hS 8 rfl k (by omega) (by omega) dX5_makeRow_124 (fun H locs hP hD hS => ?_)
                            have hP : va_P D vwCl [(h0, .inr (5, [.int (nI P), .int (nI n), .int (nI room), .ref rR, .ref rC, .ref rV, .int (nI held), .ref rRi, .long (lN (pGn gg n)), .int (nI att), .int (nI (prod + k)), .ref rDr, .ref rVe, .ref rMa, .ref rRo, .int (nI rs), .ref rc, .ref rb, .ref rt, .int dg, .ref rSo, .int (nI ss)])), (rR, kd_ar cI 100 rows), (rC, kd_ar cI 100 cols), (rV, kd_al cJ 100 vals), (rRi, kd_al cJ 16 b0), (rDr, kd_al cJ 16 x), (rVe, kd_al cJ 16 (pMix n (pVk P rows cols vals held b0 k) ve)), (rMa, kd_al cJ 16 mm), (rRo, kd_al cJ 32 (va_up y k (pRow P n rows cols vals held b0 gg k)))] H := hP
                            have hD : va_D A [(h0, .inr (5, [.int (nI P), .int (nI n), .int (nI room), .ref rR, .ref rC, .ref rV, .int (nI held), .ref rRi, .long (lN (pGn gg n)), .int (nI att), .int (nI (prod + k)), .ref rDr, .ref rVe, .ref rMa, .ref rRo, .int (nI rs), .ref rc, .ref rb, .ref rt, .int dg, .ref rSo, .int (nI ss)])), (rR, kd_ar cI 100 rows), (rC, kd_ar cI 100 cols), (rV, kd_al cJ 100 vals), (rRi, kd_al cJ 16 b0), (rDr, kd_al cJ 16 x), (rVe, kd_al cJ 16 (pMix n (pVk P rows cols vals held b0 k) ve)), (rMa, kd_al cJ 16 mm), (rRo, kd_al cJ 32 (va_up y k (pRow P n rows cols vals held b0 gg k)))] := hD
                            refine lv_iinc (v := (nI (k + 1))) (lv' := [(1, .int (nI (k + 1))), (4, .int (nI n)), (2, .long (lN (pRow P n rows cols vals held b0 gg k))), (0, .ref h0)]) hx hb dX5_makeRow_125 hl (k := 2) rfl (nI_1 _) (by decide) rfl (fun ls hl => ?_)
                            refine lv_goto (tgt := 56) hx hb dX5_makeRow_128 (by decide) ?_
                            exact ih_lr (k + 1) mm (va_up y k (pRow P n rows cols vals held b0 gg k)) _ _ _ (by omega) (by omega) (lt_upf k3) (hP.sub [0, 1, 2, 3, 4, 5, 6, 7, 8] rfl) (hD.sub [0, 1, 2, 3, 4, 5, 6, 7, 8] (by decide) rfl) hS (lv_sub hl [0, 3] rfl)
                          · skip
                            refine lv_lload_n hx hb dX5_makeRow_88 rfl (lv_at hl 1 rfl) ?_
                            refine lv_aload_n hx hb dX5_makeRow_89 rfl (lv_at hl 3 rfl) ?_
                            refine va_get (D := D) (ci := 5) (v := .ref rDr) (C := RX5) (T := TX5) (N := 22) hx hb hts i_X5 hown hK hP 0 rfl rfl 11 (by decide) fl27 (fun _ h9 => h9) rfl dX5_makeRow_90 ?_
                            refine lv_iload hx hb dX5_makeRow_93 (lv_at hl 0 rfl) ?_
                            refine kd_lald hx hb hK hP 5 rfl i (by omega) (by omega) dX5_makeRow_95 ?_
                            rw [i3 i (by omega)]
                            refine lv_aload_n hx hb dX5_makeRow_96 rfl (lv_at hl 3 rfl) ?_
                            refine va_get (D := D) (ci := 5) (v := .ref rVe) (C := RX5) (T := TX5) (N := 22) hx hb hts i_X5 hown hK hP 0 rfl rfl 12 (by decide) fl30 (fun _ h9 => h9) rfl dX5_makeRow_97 ?_
                            refine lv_iload hx hb dX5_makeRow_100 (lv_at hl 0 rfl) ?_
                            refine kd_lald hx hb hK hP 6 rfl i (by omega) (by omega) dX5_makeRow_102 ?_
                            rw [pMix_lt (show i < n by omega)]
                            refine kd_lmul hx hb dX5_makeRow_103 ?_
                            refine kd_ladd hx hb dX5_makeRow_104 ?_
                            refine lv_aload_n hx hb dX5_makeRow_105 rfl (lv_at hl 3 rfl) ?_
                            refine va_get (D := D) (ci := 5) (v := .int (nI P)) (C := RX5) (T := TX5) (N := 22) hx hb hts i_X5 hown hK hP 0 rfl rfl 0 (by decide) fl60 (fun _ h9 => h9) rfl dX5_makeRow_106 ?_
                            refine kd_i2l hx hb (by omega) dX5_makeRow_109 ?_
                            refine kd_lrem hx hb (by have := mul_small g2 (pCh_lt (P := P) (by omega) gg i) (pVk_lt (rows := rows) (cols := cols) (vals := vals) (held := held) (show 0 < P by omega) g10 k i (by omega)); have := pDot_lt (P := P) (by omega) (pCh P gg) (pVk P rows cols vals held b0 k) i; omega) (by omega) (by omega) dX5_makeRow_110 ?_
                            refine lv_lstore_n (lv' := [(2, .long (lN (((pDot P (pCh P gg) (pVk P rows cols vals held b0 k) i) + ((pCh P gg i) * ((pVk P rows cols vals held b0 k) i))) % P))), (4, .int (nI i)), (1, .int (nI k)), (0, .ref h0)]) hx hb dX5_makeRow_111 rfl hl (by decide) rfl (fun ls hl => ?_)
                            refine lv_iinc (v := (nI (i + 1))) (lv' := [(4, .int (nI (i + 1))), (2, .long (lN (((pDot P (pCh P gg) (pVk P rows cols vals held b0 k) i) + ((pCh P gg i) * ((pVk P rows cols vals held b0 k) i))) % P))), (1, .int (nI k)), (0, .ref h0)]) hx hb dX5_makeRow_112 hl (k := 1) rfl (nI_1 _) (by decide) rfl (fun ls hl => ?_)
                            refine lv_goto (tgt := 79) hx hb dX5_makeRow_115 (by decide) ?_
                            exact ih_ls (i + 1) _ _ _ (by omega) (by omega) (hP.sub [0, 1, 2, 3, 4, 5, 6, 7, 8] rfl) (hD.sub [0, 1, 2, 3, 4, 5, 6, 7, 8] (by decide) rfl) hS (lv_sub hl [0, 1, 2, 3] rfl)
                      exact ls (n + 1) 0 _ _ _ (by omega) (by omega) (hP.sub [0, 1, 2, 3, 4, 5, 6, 7, 8] rfl) (hD.sub [0, 1, 2, 3, 4, 5, 6, 7, 8] (by decide) rfl) hS (lv_sub hl [0, 1, 2, 3] rfl)
                    · skip
                      refine lv_aload_n hx hb dX5_makeRow_70 rfl (lv_at hl 1 rfl) ?_
                      refine kd_VV (As := []) (rest := []) (Wr := [(rRi, kd_al cJ 16 b0), (rDr, kd_al cJ 16 x), (rRo, kd_al cJ 32 y)]) ⟨hx, hb, hml, hown, hts⟩ (c_X5_product l D cI cJ h0 rR rC rV rRi rDr rVe rMa rRo rc rb rt rSo P n room held (pGn gg n) att (prod + (k - 1)) rs ss dg rows cols vals (pVk P rows cols vals held b0 (k - 1)) ve mm g1 g2 g4 g5 g6 g7 g8 g9 (fun j hj => pVk_lt (by omega) g10 _ j hj)) (cwV 0 hts gX5_makeRow_X5_product rfl rfl rfl (by decide +kernel) ⟨Nat.le_of_ble_eq_true rfl, Nat.le_of_ble_eq_true rfl⟩) hK hP hD hS hA [0, 1, 2, 3, 6, 7] [4, 5, 8] rfl rfl (by decide) (by decide) 0 rfl rfl rfl rfl hl.1 (Nat.le_of_ble_eq_true rfl) dX5_makeRow_71 ⟨Nat.le_of_ble_eq_true rfl, Nat.le_of_ble_eq_true rfl⟩ (fun mm H locs hP hD hS => ?_)
                      have hP : va_P D vwCl [(rRi, kd_al cJ 16 b0), (rDr, kd_al cJ 16 x), (rRo, kd_al cJ 32 y), (h0, .inr (5, [.int (nI P), .int (nI n), .int (nI room), .ref rR, .ref rC, .ref rV, .int (nI held), .ref rRi, .long (lN (pGn gg n)), .int (nI att), .int (nI (prod + (k - 1) + 1)), .ref rDr, .ref rVe, .ref rMa, .ref rRo, .int (nI rs), .ref rc, .ref rb, .ref rt, .int dg, .ref rSo, .int (nI ss)])), (rR, kd_ar cI 100 rows), (rC, kd_ar cI 100 cols), (rV, kd_al cJ 100 vals), (rVe, kd_al cJ 16 (pMix n (pVk P rows cols vals held b0 (k - 1 + 1)) ve)), (rMa, kd_al cJ 16 mm)] H := hP
                      have hD : va_D A [(rRi, kd_al cJ 16 b0), (rDr, kd_al cJ 16 x), (rRo, kd_al cJ 32 y), (h0, .inr (5, [.int (nI P), .int (nI n), .int (nI room), .ref rR, .ref rC, .ref rV, .int (nI held), .ref rRi, .long (lN (pGn gg n)), .int (nI att), .int (nI (prod + (k - 1) + 1)), .ref rDr, .ref rVe, .ref rMa, .ref rRo, .int (nI rs), .ref rc, .ref rb, .ref rt, .int dg, .ref rSo, .int (nI ss)])), (rR, kd_ar cI 100 rows), (rC, kd_ar cI 100 cols), (rV, kd_al cJ 100 vals), (rVe, kd_al cJ 16 (pMix n (pVk P rows cols vals held b0 (k - 1 + 1)) ve)), (rMa, kd_al cJ 16 mm)] := hD
                      rw [show prod + (k - 1) + 1 = prod + k by omega, show k - 1 + 1 = k by omega] at hP hD
                      refine lv_lconst (v := lN 0) hx hb dX5_makeRow_74 (by decide) ?_
                      refine lv_lstore_n (lv' := [(2, .long (lN 0)), (1, .int (nI k)), (0, .ref h0)]) hx hb dX5_makeRow_75 rfl hl (by decide) rfl (fun ls hl => ?_)
                      refine lv_iconst (v := (nI 0)) hx hb dX5_makeRow_76 (by decide) ?_
                      refine lv_istore (lv' := [(4, .int (nI 0)), (2, .long (lN 0)), (1, .int (nI k)), (0, .ref h0)]) hx hb dX5_makeRow_77 hl (by decide) rfl (fun ls hl => ?_)
                      have ls : ∀ (k_ls : Nat) (i : Nat) (H : Heap) (locs : List Loc) (ls : Array Slot), (n - i < k_ls) → (i ≤ n) → va_P D vwCl [(h0, .inr (5, [.int (nI P), .int (nI n), .int (nI room), .ref rR, .ref rC, .ref rV, .int (nI held), .ref rRi, .long (lN (pGn gg n)), .int (nI att), .int (nI (prod + k)), .ref rDr, .ref rVe, .ref rMa, .ref rRo, .int (nI rs), .ref rc, .ref rb, .ref rt, .int dg, .ref rSo, .int (nI ss)])), (rR, kd_ar cI 100 rows), (rC, kd_ar cI 100 cols), (rV, kd_al cJ 100 vals), (rRi, kd_al cJ 16 b0), (rDr, kd_al cJ 16 x), (rVe, kd_al cJ 16 (pMix n (pVk P rows cols vals held b0 k) ve)), (rMa, kd_al cJ 16 mm), (rRo, kd_al cJ 32 y)] H → va_D A [(h0, .inr (5, [.int (nI P), .int (nI n), .int (nI room), .ref rR, .ref rC, .ref rV, .int (nI held), .ref rRi, .long (lN (pGn gg n)), .int (nI att), .int (nI (prod + k)), .ref rDr, .ref rVe, .ref rMa, .ref rRo, .int (nI rs), .ref rc, .ref rb, .ref rt, .int dg, .ref rSo, .int (nI ss)])), (rR, kd_ar cI 100 rows), (rC, kd_ar cI 100 cols), (rV, kd_al cJ 100 vals), (rRi, kd_al cJ 16 b0), (rDr, kd_al cJ 16 x), (rVe, kd_al cJ 16 (pMix n (pVk P rows cols vals held b0 k) ve)), (rMa, kd_al cJ 16 mm), (rRo, kd_al cJ 32 y)] → va_S A s.heap H locs → lv_has ls 5 [(4, .int (nI i)), (2, .long (lN (pDot P (pCh P gg) (pVk P rows cols vals held b0 k) i))), (1, .int (nI k)), (0, .ref h0)] → W p l e { frames := 1, cells := 0, slots := 0, locals := 21 } s m args below meth c H locs 0 0 Q (F0 m 79 ls []) := by
                        intro k_ls
                        induction k_ls with
                        | zero => intro i H locs ls m1 m2 hP hD hS hl; omega
                        | succ k_ls ih_ls =>
                          intro i H locs ls m1 m2 hP hD hS hl
                          refine lv_iload hx hb dX5_makeRow_79 (lv_at hl 0 rfl) ?_
                          refine lv_aload_n hx hb dX5_makeRow_81 rfl (lv_at hl 3 rfl) ?_
                          refine va_get (D := D) (ci := 5) (v := .int (nI n)) (C := RX5) (T := TX5) (N := 22) hx hb hts i_X5 hown hK hP 0 rfl rfl 1 (by decide) fl63 (fun _ h9 => h9) rfl dX5_makeRow_82 ?_
                          refine kd_ge (tgt := 118) hx hb dX5_makeRow_85 (by decide) (by omega) (by omega) (fun c_85 => ?_) (fun c_85 => ?_)
                          · skip
                            have e8 : i = n := by omega
                            rw [e8] at hl
                            have hl : lv_has ls 5 [(4, .int (nI n)), (2, .long (lN (pRow P n rows cols vals held b0 gg k))), (1, .int (nI k)), (0, .ref h0)] := hl
                            refine lv_aload_n hx hb dX5_makeRow_118 rfl (lv_at hl 3 rfl) ?_
                            refine va_get (D := D) (ci := 5) (v := .ref rRo) (C := RX5) (T := TX5) (N := 22) hx hb hts i_X5 hown hK hP 0 rfl rfl 14 (by decide) fl36 (fun _ h9 => h9) rfl dX5_makeRow_119 ?_
                            refine lv_iload_n hx hb dX5_makeRow_122 rfl (lv_at hl 2 rfl) ?_
                            refine lv_lload_n hx hb dX5_makeRow_123 rfl (lv_at hl 1 rfl) ?_
                            refine kd_last hx hb hK hP hD hS 8 rfl k (by omega) (by omega) dX5_makeRow_124 (fun H locs hP hD hS => ?_)
                            have hP : va_P D vwCl [(h0, .inr (5, [.int (nI P), .int (nI n), .int (nI room), .ref rR, .ref rC, .ref rV, .int (nI held), .ref rRi, .long (lN (pGn gg n)), .int (nI att), .int (nI (prod + k)), .ref rDr, .ref rVe, .ref rMa, .ref rRo, .int (nI rs), .ref rc, .ref rb, .ref rt, .int dg, .ref rSo, .int (nI ss)])), (rR, kd_ar cI 100 rows), (rC, kd_ar cI 100 cols), (rV, kd_al cJ 100 vals), (rRi, kd_al cJ 16 b0), (rDr, kd_al cJ 16 x), (rVe, kd_al cJ 16 (pMix n (pVk P rows cols vals held b0 k) ve)), (rMa, kd_al cJ 16 mm), (rRo, kd_al cJ 32 (va_up y k (pRow P n rows cols vals held b0 gg k)))] H := hP
                            have hD : va_D A [(h0, .inr (5, [.int (nI P), .int (nI n), .int (nI room), .ref rR, .ref rC, .ref rV, .int (nI held), .ref rRi, .long (lN (pGn gg n)), .int (nI att), .int (nI (prod + k)), .ref rDr, .ref rVe, .ref rMa, .ref rRo, .int (nI rs), .ref rc, .ref rb, .ref rt, .int dg, .ref rSo, .int (nI ss)])), (rR, kd_ar cI 100 rows), (rC, kd_ar cI 100 cols), (rV, kd_al cJ 100 vals), (rRi, kd_al cJ 16 b0), (rDr, kd_al cJ 16 x), (rVe, kd_al cJ 16 (pMix n (pVk P rows cols vals held b0 k) ve)), (rMa, kd_al cJ 16 mm), (rRo, kd_al cJ 32 (va_up y k (pRow P n rows cols vals held b0 gg k)))] := hD
                            refine lv_iinc (v := (nI (k + 1))) (lv' := [(1, .int (nI (k + 1))), (4, .int (nI n)), (2, .long (lN (pRow P n rows cols vals held b0 gg k))), (0, .ref h0)]) hx hb dX5_makeRow_125 hl (k := 2) rfl (nI_1 _) (by decide) rfl (fun ls hl => ?_)
                            refine lv_goto (tgt := 56) hx hb dX5_makeRow_128 (by decide) ?_
                            exact ih_lr (k + 1) mm (va_up y k (pRow P n rows cols vals held b0 gg k)) _ _ _ (by omega) (by omega) (lt_upf k3) (hP.sub [0, 1, 2, 3, 4, 5, 6, 7, 8] rfl) (hD.sub [0, 1, 2, 3, 4, 5, 6, 7, 8] (by decide) rfl) hS (lv_sub hl [0, 3] rfl)
                          · skip
                            refine lv_lload_n hx hb dX5_makeRow_88 rfl (lv_at hl 1 rfl) ?_
                            refine lv_aload_n hx hb dX5_makeRow_89 rfl (lv_at hl 3 rfl) ?_
                            refine va_get (D := D) (ci := 5) (v := .ref rDr) (C := RX5) (T := TX5) (N := 22) hx hb hts i_X5 hown hK hP 0 rfl rfl 11 (by decide) fl27 (fun _ h9 => h9) rfl dX5_makeRow_90 ?_
                            refine lv_iload hx hb dX5_makeRow_93 (lv_at hl 0 rfl) ?_
                            refine kd_lald hx hb hK hP 5 rfl i (by omega) (by omega) dX5_makeRow_95 ?_
                            rw [i3 i (by omega)]
                            refine lv_aload_n hx hb dX5_makeRow_96 rfl (lv_at hl 3 rfl) ?_
                            refine va_get (D := D) (ci := 5) (v := .ref rVe) (C := RX5) (T := TX5) (N := 22) hx hb hts i_X5 hown hK hP 0 rfl rfl 12 (by decide) fl30 (fun _ h9 => h9) rfl dX5_makeRow_97 ?_
                            refine lv_iload hx hb dX5_makeRow_100 (lv_at hl 0 rfl) ?_
                            refine kd_lald hx hb hK hP 6 rfl i (by omega) (by omega) dX5_makeRow_102 ?_
                            rw [pMix_lt (show i < n by omega)]
                            refine kd_lmul hx hb dX5_makeRow_103 ?_
                            refine kd_ladd hx hb dX5_makeRow_104 ?_
                            refine lv_aload_n hx hb dX5_makeRow_105 rfl (lv_at hl 3 rfl) ?_
                            refine va_get (D := D) (ci := 5) (v := .int (nI P)) (C := RX5) (T := TX5) (N := 22) hx hb hts i_X5 hown hK hP 0 rfl rfl 0 (by decide) fl60 (fun _ h9 => h9) rfl dX5_makeRow_106 ?_
                            refine kd_i2l hx hb (by omega) dX5_makeRow_109 ?_
                            refine kd_lrem hx hb (by have := mul_small g2 (pCh_lt (P := P) (by omega) gg i) (pVk_lt (rows := rows) (cols := cols) (vals := vals) (held := held) (show 0 < P by omega) g10 k i (by omega)); have := pDot_lt (P := P) (by omega) (pCh P gg) (pVk P rows cols vals held b0 k) i; omega) (by omega) (by omega) dX5_makeRow_110 ?_
                            refine lv_lstore_n (lv' := [(2, .long (lN (((pDot P (pCh P gg) (pVk P rows cols vals held b0 k) i) + ((pCh P gg i) * ((pVk P rows cols vals held b0 k) i))) % P))), (4, .int (nI i)), (1, .int (nI k)), (0, .ref h0)]) hx hb dX5_makeRow_111 rfl hl (by decide) rfl (fun ls hl => ?_)
                            refine lv_iinc (v := (nI (i + 1))) (lv' := [(4, .int (nI (i + 1))), (2, .long (lN (((pDot P (pCh P gg) (pVk P rows cols vals held b0 k) i) + ((pCh P gg i) * ((pVk P rows cols vals held b0 k) i))) % P))), (1, .int (nI k)), (0, .ref h0)]) hx hb dX5_makeRow_112 hl (k := 1) rfl (nI_1 _) (by decide) rfl (fun ls hl => ?_)
                            refine lv_goto (tgt := 79) hx hb dX5_makeRow_115 (by decide) ?_
                            exact ih_ls (i + 1) _ _ _ (by omega) (by omega) (hP.sub [0, 1, 2, 3, 4, 5, 6, 7, 8] rfl) (hD.sub [0, 1, 2, 3, 4, 5, 6, 7, 8] (by decide) rfl) hS (lv_sub hl [0, 1, 2, 3] rfl)
                      exact ls (n + 1) 0 _ _ _ (by omega) (by omega) (hP.sub [3, 4, 5, 6, 0, 1, 7, 8, 2] rfl) (hD.sub [3, 4, 5, 6, 0, 1, 7, 8, 2] (by decide) rfl) hS (lv_sub hl [0, 1, 2, 3] rfl)
              exact lr (2 * n + 1) 0 ma ro _ _ _ (by omega) (by omega) (fun j hj => by omega) (hP.sub [0, 1, 2, 3, 4, 5, 6, 7, 8] rfl) (hD.sub [0, 1, 2, 3, 4, 5, 6, 7, 8] (by decide) rfl) hS (lv_sub hl [0, 1] rfl)
            · skip
              refine lv_aload_n hx hb dX5_makeRow_36 rfl (lv_at hl 1 rfl) ?_
              refine va_get (D := D) (ci := 5) (v := .ref rVe) (C := RX5) (T := TX5) (N := 22) hx hb hts i_X5 hown hK hP 0 rfl rfl 12 (by decide) fl30 (fun _ h9 => h9) rfl dX5_makeRow_37 ?_
              refine lv_iload_n hx hb dX5_makeRow_40 rfl (lv_at hl 0 rfl) ?_
              refine lv_aload_n hx hb dX5_makeRow_41 rfl (lv_at hl 1 rfl) ?_
              refine va_get (D := D) (ci := 5) (v := .ref rRi) (C := RX5) (T := TX5) (N := 22) hx hb hts i_X5 hown hK hP 0 rfl rfl 7 (by decide) fl20 (fun _ h9 => h9) rfl dX5_makeRow_42 ?_
              refine lv_iload_n hx hb dX5_makeRow_45 rfl (lv_at hl 0 rfl) ?_
              refine kd_lald hx hb hK hP 4 rfl i (by omega) (by omega) dX5_makeRow_46 ?_
              refine kd_last hx hb hK hP hD hS 6 rfl i (by omega) (by omega) dX5_makeRow_47 (fun H locs hP hD hS => ?_)
              have hP : va_P D vwCl [(h0, .inr (5, [.int (nI P), .int (nI n), .int (nI room), .ref rR, .ref rC, .ref rV, .int (nI held), .ref rRi, .long (lN (pGn gg n)), .int (nI att), .int (nI prod), .ref rDr, .ref rVe, .ref rMa, .ref rRo, .int (nI rs), .ref rc, .ref rb, .ref rt, .int dg, .ref rSo, .int (nI ss)])), (rR, kd_ar cI 100 rows), (rC, kd_ar cI 100 cols), (rV, kd_al cJ 100 vals), (rRi, kd_al cJ 16 b0), (rDr, kd_al cJ 16 x), (rVe, kd_al cJ 16 (va_up v i (b0 i))), (rMa, kd_al cJ 16 ma), (rRo, kd_al cJ 32 ro)] H := hP
              have hD : va_D A [(h0, .inr (5, [.int (nI P), .int (nI n), .int (nI room), .ref rR, .ref rC, .ref rV, .int (nI held), .ref rRi, .long (lN (pGn gg n)), .int (nI att), .int (nI prod), .ref rDr, .ref rVe, .ref rMa, .ref rRo, .int (nI rs), .ref rc, .ref rb, .ref rt, .int dg, .ref rSo, .int (nI ss)])), (rR, kd_ar cI 100 rows), (rC, kd_ar cI 100 cols), (rV, kd_al cJ 100 vals), (rRi, kd_al cJ 16 b0), (rDr, kd_al cJ 16 x), (rVe, kd_al cJ 16 (va_up v i (b0 i))), (rMa, kd_al cJ 16 ma), (rRo, kd_al cJ 32 ro)] := hD
              refine lv_iinc (v := (nI (i + 1))) (lv' := [(1, .int (nI (i + 1))), (0, .ref h0)]) hx hb dX5_makeRow_48 hl (k := 0) rfl (nI_1 _) (by decide) rfl (fun ls hl => ?_)
              refine lv_goto (tgt := 28) hx hb dX5_makeRow_51 (by decide) ?_
              exact ih_lq (i + 1) (va_up v i (b0 i)) _ _ _ (by omega) (by omega) (lt_upg j3) (hP.sub [0, 1, 2, 3, 4, 5, 6, 7, 8] rfl) (hD.sub [0, 1, 2, 3, 4, 5, 6, 7, 8] (by decide) rfl) hS (lv_sub hl [0, 1] rfl)
        exact lq (n + 1) 0 ve _ _ _ (by omega) (by omega) (fun j => by rw [if_neg (by omega)]) (hP.sub [0, 1, 2, 3, 4, 5, 6, 7, 8] rfl) (hD.sub [0, 1, 2, 3, 4, 5, 6, 7, 8] (by decide) rfl) hS (lv_sub hl [0, 1] rfl)
      · skip
        refine lv_aload_n hx hb dX5_makeRow_10 rfl (lv_at hl 1 rfl) ?_
        refine va_get (D := D) (ci := 5) (v := .ref rDr) (C := RX5) (T := TX5) (N := 22) hx hb hts i_X5 hown hK hP 0 rfl rfl 11 (by decide) fl27 (fun _ h9 => h9) rfl dX5_makeRow_11 ?_
        refine lv_iload_n hx hb dX5_makeRow_14 rfl (lv_at hl 0 rfl) ?_
        refine lv_aload_n hx hb dX5_makeRow_15 rfl (lv_at hl 1 rfl) ?_
        refine kd_VL (As := []) (rest := [.int (nI i), .ref rDr]) (Wr := [(rR, kd_ar cI 100 rows), (rC, kd_ar cI 100 cols), (rV, kd_al cJ 100 vals), (rRi, kd_al cJ 16 b0), (rDr, kd_al cJ 16 x), (rVe, kd_al cJ 16 ve), (rMa, kd_al cJ 16 ma), (rRo, kd_al cJ 32 ro)]) ⟨hx, hb, hml, hown, hts⟩ (c_X5_draw l D cI cJ h0 rR rC rV rRi rDr rVe rMa rRo rc rb rt rSo P n room held (pGn gg i) att prod rs ss dg g1 g2 (pGn_lt g11 i)) (cwV 0 hts gX5_makeRow_X5_draw rfl rfl rfl (by decide +kernel) ⟨Nat.le_of_ble_eq_true rfl, Nat.le_of_ble_eq_true rfl⟩) hK hP hD hS hA [0] [1, 2, 3, 4, 5, 6, 7, 8] rfl rfl (by decide) (by decide) 0 rfl rfl rfl rfl hl.1 (Nat.le_of_ble_eq_true rfl) dX5_makeRow_16 ⟨Nat.le_of_ble_eq_true rfl, Nat.le_of_ble_eq_true rfl⟩ (fun _ H locs hP hD hS => ?_)
        have hP : va_P D vwCl [(rR, kd_ar cI 100 rows), (rC, kd_ar cI 100 cols), (rV, kd_al cJ 100 vals), (rRi, kd_al cJ 16 b0), (rDr, kd_al cJ 16 x), (rVe, kd_al cJ 16 ve), (rMa, kd_al cJ 16 ma), (rRo, kd_al cJ 32 ro), (h0, .inr (5, [.int (nI P), .int (nI n), .int (nI room), .ref rR, .ref rC, .ref rV, .int (nI held), .ref rRi, .long (lN (pGn gg (i + 1))), .int (nI att), .int (nI prod), .ref rDr, .ref rVe, .ref rMa, .ref rRo, .int (nI rs), .ref rc, .ref rb, .ref rt, .int dg, .ref rSo, .int (nI ss)]))] H := hP
        have hD : va_D A [(rR, kd_ar cI 100 rows), (rC, kd_ar cI 100 cols), (rV, kd_al cJ 100 vals), (rRi, kd_al cJ 16 b0), (rDr, kd_al cJ 16 x), (rVe, kd_al cJ 16 ve), (rMa, kd_al cJ 16 ma), (rRo, kd_al cJ 32 ro), (h0, .inr (5, [.int (nI P), .int (nI n), .int (nI room), .ref rR, .ref rC, .ref rV, .int (nI held), .ref rRi, .long (lN (pGn gg (i + 1))), .int (nI att), .int (nI prod), .ref rDr, .ref rVe, .ref rMa, .ref rRo, .int (nI rs), .ref rc, .ref rb, .ref rt, .int dg, .ref rSo, .int (nI ss)]))] := hD
        rw [show pGen (pGn gg i) / 65536 % P = pCh P gg i from rfl]
        refine kd_last hx hb hK hP hD hS 4 rfl i (by omega) (by omega) dX5_makeRow_19 (fun H locs hP hD hS => ?_)
        have hP : va_P D vwCl [(rR, kd_ar cI 100 rows), (rC, kd_ar cI 100 cols), (rV, kd_al cJ 100 vals), (rRi, kd_al cJ 16 b0), (rDr, kd_al cJ 16 (va_up x i (pCh P gg i))), (rVe, kd_al cJ 16 ve), (rMa, kd_al cJ 16 ma), (rRo, kd_al cJ 32 ro), (h0, .inr (5, [.int (nI P), .int (nI n), .int (nI room), .ref rR, .ref rC, .ref rV, .int (nI held), .ref rRi, .long (lN (pGn gg (i + 1))), .int (nI att), .int (nI prod), .ref rDr, .ref rVe, .ref rMa, .ref rRo, .int (nI rs), .ref rc, .ref rb, .ref rt, .int dg, .ref rSo, .int (nI ss)]))] H := hP
        have hD : va_D A [(rR, kd_ar cI 100 rows), (rC, kd_ar cI 100 cols), (rV, kd_al cJ 100 vals), (rRi, kd_al cJ 16 b0), (rDr, kd_al cJ 16 (va_up x i (pCh P gg i))), (rVe, kd_al cJ 16 ve), (rMa, kd_al cJ 16 ma), (rRo, kd_al cJ 32 ro), (h0, .inr (5, [.int (nI P), .int (nI n), .int (nI room), .ref rR, .ref rC, .ref rV, .int (nI held), .ref rRi, .long (lN (pGn gg (i + 1))), .int (nI att), .int (nI prod), .ref rDr, .ref rVe, .ref rMa, .ref rRo, .int (nI rs), .ref rc, .ref rb, .ref rt, .int dg, .ref rSo, .int (nI ss)]))] := hD
        refine lv_iinc (v := (nI (i + 1))) (lv' := [(1, .int (nI (i + 1))), (0, .ref h0)]) hx hb dX5_makeRow_20 hl (k := 0) rfl (nI_1 _) (by decide) rfl (fun ls hl => ?_)
        refine lv_goto (tgt := 2) hx hb dX5_makeRow_23 (by decide) ?_
        exact ih_lp (i + 1) (va_up x i (pCh P gg i)) _ _ _ (by omega) (by omega) (lt_upf i3) (hP.sub [8, 0, 1, 2, 3, 4, 5, 6, 7] rfl) (hD.sub [8, 0, 1, 2, 3, 4, 5, 6, 7] (by decide) rfl) hS (lv_sub hl [0, 1] rfl)
  exact lp (n + 1) 0 dr _ _ _ (by omega) (by omega) (fun j hj => by omega) (hP.sub [0, 1, 2, 3, 4, 5, 6, 7, 8] rfl) (hD.sub [0, 1, 2, 3, 4, 5, 6, 7, 8] (by decide) rfl) hS (lv_sub hl [0, 1] rfl)

set_option maxHeartbeats 4000000 in
set_option maxRecDepth 100000 in
/-- the recurrence -/
theorem c_X5_recur (l : Launch) (D : va_G) (cI cJ : ClassId) (h0 rR rC rV rRi rDr rVe rMa rRo rc rb rt rSo : Nat) (P n room held gg att prod rs ss : Nat) (dg : Int32) (row xr C0 B0 T0 : Nat → Nat) (g1 : 2 ≤ P) (g2 : P ≤ 46337) (g3 : 1 ≤ n) (g4 : n ≤ 16) (g5 : ∀ j, j < 2 * n → row j < P) : kd_MV (S := (Nat → Nat) × (Nat → Nat)) l yX5_recur wsX5_recur { frames := 2, cells := 0, slots := 0, locals := 48 } [.ref h0] D vwCl cI cJ [(h0, .inr (5, [.int (nI P), .int (nI n), .int (nI room), .ref rR, .ref rC, .ref rV, .int (nI held), .ref rRi, .long (lN gg), .int (nI att), .int (nI prod), .ref rDr, .ref rVe, .ref rMa, .ref rRo, .int (nI rs), .ref rc, .ref rb, .ref rt, .int dg, .ref rSo, .int (nI ss)])), (rRo, kd_al cJ 32 (pMix (2 * n) row xr)), (rc, kd_al cJ 100 C0), (rb, kd_al cJ 100 B0), (rt, kd_al cJ 100 T0)] (fun u9 => [(h0, .inr (5, [.int (nI P), .int (nI n), .int (nI room), .ref rR, .ref rC, .ref rV, .int (nI held), .ref rRi, .long (lN gg), .int (nI att), .int (nI prod), .ref rDr, .ref rVe, .ref rMa, .ref rRo, .int (nI rs), .ref rc, .ref rb, .ref rt, .int (nI ((pBM P row (2 * n)).2.2.1)), .ref rSo, .int (nI ss)])), (rRo, kd_al cJ 32 (pMix (2 * n) row xr)), (rc, kd_al cJ 100 ((pBM P row (2 * n)).1)), (rb, kd_al cJ 100 u9.1), (rt, kd_al cJ 100 u9.2)]) 0 0 := by
  refine kd_enterV (cc := cX5_recur) (maxL := 11) (by decide) rfl (Nat.le_of_ble_eq_true rfl) ?_
  intro p e s m args below meth c A ls Q hx hb hr hts hown hlk hnm hml hP hK hD hA hS hl ret
  have hl : lv_has ls 11 [(0, .ref h0)] := hl
  have hown : s.vm.findClass RX5 = some m.cls := hown
  have i_X5 : ∀ w ∈ wsX50, w ∈ wsX5_recur := by decide +kernel
  have fl39 := hts (.fieldLink RX5 39 "KrylovDeskModel" "c" "[J") (by decide +kernel)
  have fl42 := hts (.fieldLink RX5 42 "KrylovDeskModel" "b" "[J") (by decide +kernel)
  have fl63 := hts (.fieldLink RX5 63 "KrylovDeskModel" "n" "I") (by decide +kernel)
  have fl48 := hts (.fieldLink RX5 48 "KrylovDeskModel" "degree" "I") (by decide +kernel)
  have fl36 := hts (.fieldLink RX5 36 "KrylovDeskModel" "row" "[J") (by decide +kernel)
  have fl60 := hts (.fieldLink RX5 60 "KrylovDeskModel" "prime" "I") (by decide +kernel)
  have fl45 := hts (.fieldLink RX5 45 "KrylovDeskModel" "t" "[J") (by decide +kernel)
  refine lv_iconst (v := (nI 0)) hx hb dX5_recur_0 (by decide) ?_
  refine lv_istore_n (lv' := [(1, .int (nI 0)), (0, .ref h0)]) hx hb dX5_recur_1 rfl hl (by decide) rfl (fun ls hl => ?_)
  have lp : ∀ (k_lp : Nat) (i : Nat) (x : Nat → Nat) (y : Nat → Nat) (H : Heap) (locs : List Loc) (ls : Array Slot), (100 - i < k_lp) → (i ≤ 100) → (∀ j, j < i → x j = 0) → (∀ j, j < i → y j = 0) → va_P D vwCl [(h0, .inr (5, [.int (nI P), .int (nI n), .int (nI room), .ref rR, .ref rC, .ref rV, .int (nI held), .ref rRi, .long (lN gg), .int (nI att), .int (nI prod), .ref rDr, .ref rVe, .ref rMa, .ref rRo, .int (nI rs), .ref rc, .ref rb, .ref rt, .int dg, .ref rSo, .int (nI ss)])), (rRo, kd_al cJ 32 (pMix (2 * n) row xr)), (rc, kd_al cJ 100 x), (rb, kd_al cJ 100 y), (rt, kd_al cJ 100 T0)] H → va_D A [(h0, .inr (5, [.int (nI P), .int (nI n), .int (nI room), .ref rR, .ref rC, .ref rV, .int (nI held), .ref rRi, .long (lN gg), .int (nI att), .int (nI prod), .ref rDr, .ref rVe, .ref rMa, .ref rRo, .int (nI rs), .ref rc, .ref rb, .ref rt, .int dg, .ref rSo, .int (nI ss)])), (rRo, kd_al cJ 32 (pMix (2 * n) row xr)), (rc, kd_al cJ 100 x), (rb, kd_al cJ 100 y), (rt, kd_al cJ 100 T0)] → va_S A s.heap H locs → lv_has ls 11 [(1, .int (nI i)), (0, .ref h0)] → W p l e { frames := 2, cells := 0, slots := 0, locals := 48 } s m args below meth c H locs 0 0 Q (F0 m 2 ls []) := by
    intro k_lp
    induction k_lp with
    | zero => intro i x y H locs ls i1 i2 i3 i4 hP hD hS hl; omega
    | succ k_lp ih_lp =>
      intro i x y H locs ls i1 i2 i3 i4 hP hD hS hl
      refine lv_iload_n hx hb dX5_recur_2 rfl (lv_at hl 0 rfl) ?_
      refine lv_bipush (v := (nI 100)) hx hb dX5_recur_3 (by decide) ?_
      refine kd_ge (tgt := 28) hx hb dX5_recur_5 (by decide) (by omega) (by omega) (fun c_5 => ?_) (fun c_5 => ?_)
      · skip
        obtain ⟨hP, hD⟩ := kd_swapL (g := (fun _ => 0)) hP hD 2 rfl (fun j hj => i3 j (by omega))
        have hP : va_P D vwCl [(h0, .inr (5, [.int (nI P), .int (nI n), .int (nI room), .ref rR, .ref rC, .ref rV, .int (nI held), .ref rRi, .long (lN gg), .int (nI att), .int (nI prod), .ref rDr, .ref rVe, .ref rMa, .ref rRo, .int (nI rs), .ref rc, .ref rb, .ref rt, .int dg, .ref rSo, .int (nI ss)])), (rRo, kd_al cJ 32 (pMix (2 * n) row xr)), (rc, kd_al cJ 100 (fun _ => 0)), (rb, kd_al cJ 100 y), (rt, kd_al cJ 100 T0)] H := hP
        have hD : va_D A [(h0, .inr (5, [.int (nI P), .int (nI n), .int (nI room), .ref rR, .ref rC, .ref rV, .int (nI held), .ref rRi, .long (lN gg), .int (nI att), .int (nI prod), .ref rDr, .ref rVe, .ref rMa, .ref rRo, .int (nI rs), .ref rc, .ref rb, .ref rt, .int dg, .ref rSo, .int (nI ss)])), (rRo, kd_al cJ 32 (pMix (2 * n) row xr)), (rc, kd_al cJ 100 (fun _ => 0)), (rb, kd_al cJ 100 y), (rt, kd_al cJ 100 T0)] := hD
        obtain ⟨hP, hD⟩ := kd_swapL (g := (fun _ => 0)) hP hD 3 rfl (fun j hj => i4 j (by omega))
        have hP : va_P D vwCl [(h0, .inr (5, [.int (nI P), .int (nI n), .int (nI room), .ref rR, .ref rC, .ref rV, .int (nI held), .ref rRi, .long (lN gg), .int (nI att), .int (nI prod), .ref rDr, .ref rVe, .ref rMa, .ref rRo, .int (nI rs), .ref rc, .ref rb, .ref rt, .int dg, .ref rSo, .int (nI ss)])), (rRo, kd_al cJ 32 (pMix (2 * n) row xr)), (rc, kd_al cJ 100 (fun _ => 0)), (rb, kd_al cJ 100 (fun _ => 0)), (rt, kd_al cJ 100 T0)] H := hP
        have hD : va_D A [(h0, .inr (5, [.int (nI P), .int (nI n), .int (nI room), .ref rR, .ref rC, .ref rV, .int (nI held), .ref rRi, .long (lN gg), .int (nI att), .int (nI prod), .ref rDr, .ref rVe, .ref rMa, .ref rRo, .int (nI rs), .ref rc, .ref rb, .ref rt, .int dg, .ref rSo, .int (nI ss)])), (rRo, kd_al cJ 32 (pMix (2 * n) row xr)), (rc, kd_al cJ 100 (fun _ => 0)), (rb, kd_al cJ 100 (fun _ => 0)), (rt, kd_al cJ 100 T0)] := hD
        refine lv_aload_n hx hb dX5_recur_28 rfl (lv_at hl 1 rfl) ?_
        refine va_get (D := D) (ci := 5) (v := .ref rc) (C := RX5) (T := TX5) (N := 22) hx hb hts i_X5 hown hK hP 0 rfl rfl 16 (by decide) fl39 (fun _ h9 => h9) rfl dX5_recur_29 ?_
        refine lv_iconst (v := (nI 0)) hx hb dX5_recur_32 (by decide) ?_
        refine lv_lconst (v := lN 1) hx hb dX5_recur_33 (by decide) ?_
        refine kd_last hx hb hK hP hD hS 2 rfl 0 (by omega) (by omega) dX5_recur_34 (fun H locs hP hD hS => ?_)
        have hP : va_P D vwCl [(h0, .inr (5, [.int (nI P), .int (nI n), .int (nI room), .ref rR, .ref rC, .ref rV, .int (nI held), .ref rRi, .long (lN gg), .int (nI att), .int (nI prod), .ref rDr, .ref rVe, .ref rMa, .ref rRo, .int (nI rs), .ref rc, .ref rb, .ref rt, .int dg, .ref rSo, .int (nI ss)])), (rRo, kd_al cJ 32 (pMix (2 * n) row xr)), (rc, kd_al cJ 100 (va_up (fun _ => 0) 0 1)), (rb, kd_al cJ 100 (fun _ => 0)), (rt, kd_al cJ 100 T0)] H := hP
        have hD : va_D A [(h0, .inr (5, [.int (nI P), .int (nI n), .int (nI room), .ref rR, .ref rC, .ref rV, .int (nI held), .ref rRi, .long (lN gg), .int (nI att), .int (nI prod), .ref rDr, .ref rVe, .ref rMa, .ref rRo, .int (nI rs), .ref rc, .ref rb, .ref rt, .int dg, .ref rSo, .int (nI ss)])), (rRo, kd_al cJ 32 (pMix (2 * n) row xr)), (rc, kd_al cJ 100 (va_up (fun _ => 0) 0 1)), (rb, kd_al cJ 100 (fun _ => 0)), (rt, kd_al cJ 100 T0)] := hD
        refine lv_aload_n hx hb dX5_recur_35 rfl (lv_at hl 1 rfl) ?_
        refine va_get (D := D) (ci := 5) (v := .ref rb) (C := RX5) (T := TX5) (N := 22) hx hb hts i_X5 hown hK hP 0 rfl rfl 17 (by decide) fl42 (fun _ h9 => h9) rfl dX5_recur_36 ?_
        refine lv_iconst (v := (nI 0)) hx hb dX5_recur_39 (by decide) ?_
        refine lv_lconst (v := lN 1) hx hb dX5_recur_40 (by decide) ?_
        refine kd_last hx hb hK hP hD hS 3 rfl 0 (by omega) (by omega) dX5_recur_41 (fun H locs hP hD hS => ?_)
        have hP : va_P D vwCl [(h0, .inr (5, [.int (nI P), .int (nI n), .int (nI room), .ref rR, .ref rC, .ref rV, .int (nI held), .ref rRi, .long (lN gg), .int (nI att), .int (nI prod), .ref rDr, .ref rVe, .ref rMa, .ref rRo, .int (nI rs), .ref rc, .ref rb, .ref rt, .int dg, .ref rSo, .int (nI ss)])), (rRo, kd_al cJ 32 (pMix (2 * n) row xr)), (rc, kd_al cJ 100 (va_up (fun _ => 0) 0 1)), (rb, kd_al cJ 100 (va_up (fun _ => 0) 0 1)), (rt, kd_al cJ 100 T0)] H := hP
        have hD : va_D A [(h0, .inr (5, [.int (nI P), .int (nI n), .int (nI room), .ref rR, .ref rC, .ref rV, .int (nI held), .ref rRi, .long (lN gg), .int (nI att), .int (nI prod), .ref rDr, .ref rVe, .ref rMa, .ref rRo, .int (nI rs), .ref rc, .ref rb, .ref rt, .int dg, .ref rSo, .int (nI ss)])), (rRo, kd_al cJ 32 (pMix (2 * n) row xr)), (rc, kd_al cJ 100 (va_up (fun _ => 0) 0 1)), (rb, kd_al cJ 100 (va_up (fun _ => 0) 0 1)), (rt, kd_al cJ 100 T0)] := hD
        refine lv_iconst (v := (nI 0)) hx hb dX5_recur_42 (by decide) ?_
        refine lv_istore_n (lv' := [(1, .int (nI 0)), (0, .ref h0)]) hx hb dX5_recur_43 rfl hl (by decide) rfl (fun ls hl => ?_)
        refine lv_iconst (v := (nI 1)) hx hb dX5_recur_44 (by decide) ?_
        refine lv_istore_n (lv' := [(2, .int (nI 1)), (1, .int (nI 0)), (0, .ref h0)]) hx hb dX5_recur_45 rfl hl (by decide) rfl (fun ls hl => ?_)
        refine lv_lconst (v := lN 1) hx hb dX5_recur_46 (by decide) ?_
        refine lv_lstore_n (lv' := [(3, .long (lN 1)), (2, .int (nI 1)), (1, .int (nI 0)), (0, .ref h0)]) hx hb dX5_recur_47 rfl hl (by decide) rfl (fun ls hl => ?_)
        refine lv_iconst (v := (nI 0)) hx hb dX5_recur_48 (by decide) ?_
        refine lv_istore (lv' := [(5, .int (nI 0)), (3, .long (lN 1)), (2, .int (nI 1)), (1, .int (nI 0)), (0, .ref h0)]) hx hb dX5_recur_49 hl (by decide) rfl (fun ls hl => ?_)
        have lm : ∀ (k_lm : Nat) (k : Nat) (C : Nat → Nat) (B : Nat → Nat) (T : Nat → Nat) (L : Nat) (sh : Nat) (em : Nat) (H : Heap) (locs : List Loc) (ls : Array Slot), (2 * n - k < k_lm) → (k ≤ 2 * n) → (pBM P row k = (C, B, L, sh, em)) → va_P D vwCl [(h0, .inr (5, [.int (nI P), .int (nI n), .int (nI room), .ref rR, .ref rC, .ref rV, .int (nI held), .ref rRi, .long (lN gg), .int (nI att), .int (nI prod), .ref rDr, .ref rVe, .ref rMa, .ref rRo, .int (nI rs), .ref rc, .ref rb, .ref rt, .int dg, .ref rSo, .int (nI ss)])), (rRo, kd_al cJ 32 (pMix (2 * n) row xr)), (rc, kd_al cJ 100 C), (rb, kd_al cJ 100 B), (rt, kd_al cJ 100 T)] H → va_D A [(h0, .inr (5, [.int (nI P), .int (nI n), .int (nI room), .ref rR, .ref rC, .ref rV, .int (nI held), .ref rRi, .long (lN gg), .int (nI att), .int (nI prod), .ref rDr, .ref rVe, .ref rMa, .ref rRo, .int (nI rs), .ref rc, .ref rb, .ref rt, .int dg, .ref rSo, .int (nI ss)])), (rRo, kd_al cJ 32 (pMix (2 * n) row xr)), (rc, kd_al cJ 100 C), (rb, kd_al cJ 100 B), (rt, kd_al cJ 100 T)] → va_S A s.heap H locs → lv_has ls 11 [(5, .int (nI k)), (3, .long (lN em)), (2, .int (nI sh)), (1, .int (nI L)), (0, .ref h0)] → W p l e { frames := 2, cells := 0, slots := 0, locals := 48 } s m args below meth c H locs 0 0 Q (F0 m 51 ls []) := by
          intro k_lm
          induction k_lm with
          | zero => intro k C B T L sh em H locs ls j1 j2 hz hP hD hS hl; omega
          | succ k_lm ih_lm =>
            intro k C B T L sh em H locs ls j1 j2 hz hP hD hS hl
            have zok := pBM_ok g1 k (fun j hj => g5 j (by omega)) (row := row)
            rw [hz] at zok
            obtain ⟨z1, z2, z3, z4, z5⟩ : (∀ j, C j < P) ∧ (∀ j, B j < P) ∧ L ≤ k ∧ sh ≤ k + 1 ∧ em < P := zok
            refine lv_iload hx hb dX5_recur_51 (lv_at hl 0 rfl) ?_
            refine lv_iconst (v := (nI 2)) hx hb dX5_recur_53 (by decide) ?_
            refine lv_aload_n hx hb dX5_recur_54 rfl (lv_at hl 4 rfl) ?_
            refine va_get (D := D) (ci := 5) (v := .int (nI n)) (C := RX5) (T := TX5) (N := 22) hx hb hts i_X5 hown hK hP 0 rfl rfl 1 (by decide) fl63 (fun _ h9 => h9) rfl dX5_recur_55 ?_
            refine kd_mul hx hb dX5_recur_58 ?_
            refine kd_ge (tgt := 287) hx hb dX5_recur_59 (by decide) (by omega) (by omega) (fun c_59 => ?_) (fun c_59 => ?_)
            · skip
              refine lv_aload_n hx hb dX5_recur_287 rfl (lv_at hl 4 rfl) ?_
              refine lv_iload_n hx hb dX5_recur_288 rfl (lv_at hl 3 rfl) ?_
              refine va_put (D := D) (ci := 5) (v := .int (nI L)) (ty := .int) (C := RX5) (T := TX5) (N := 22) hx hb hts i_X5 tyX5 tyX5_ok nmX5 hown hK hP hD hS 0 rfl rfl 19 (by decide) fl48 (fun _ h9 => h9) rfl (by decide +kernel) rfl rfl (Nat.le_of_ble_eq_true rfl) dX5_recur_289 (fun H locs hP hD hS => ?_)
              have hP : va_P D vwCl [(h0, .inr (5, [.int (nI P), .int (nI n), .int (nI room), .ref rR, .ref rC, .ref rV, .int (nI held), .ref rRi, .long (lN gg), .int (nI att), .int (nI prod), .ref rDr, .ref rVe, .ref rMa, .ref rRo, .int (nI rs), .ref rc, .ref rb, .ref rt, .int (nI L), .ref rSo, .int (nI ss)])), (rRo, kd_al cJ 32 (pMix (2 * n) row xr)), (rc, kd_al cJ 100 C), (rb, kd_al cJ 100 B), (rt, kd_al cJ 100 T)] H := hP
              have hD : va_D A [(h0, .inr (5, [.int (nI P), .int (nI n), .int (nI room), .ref rR, .ref rC, .ref rV, .int (nI held), .ref rRi, .long (lN gg), .int (nI att), .int (nI prod), .ref rDr, .ref rVe, .ref rMa, .ref rRo, .int (nI rs), .ref rc, .ref rb, .ref rt, .int (nI L), .ref rSo, .int (nI ss)])), (rRo, kd_al cJ 32 (pMix (2 * n) row xr)), (rc, kd_al cJ 100 C), (rb, kd_al cJ 100 B), (rt, kd_al cJ 100 T)] := hD
              have e7 : k = 2 * n := by omega
              rw [e7] at hz
              rw [hz] at ret
              exact ret (B, T) _ _ _ _ dX5_recur_292 hS (hP.sub [0, 1, 2, 3, 4] rfl) (hD.sub [0, 1, 2, 3, 4] (by decide) rfl)
            · skip
              refine lv_aload_n hx hb dX5_recur_62 rfl (lv_at hl 4 rfl) ?_
              refine va_get (D := D) (ci := 5) (v := .ref rRo) (C := RX5) (T := TX5) (N := 22) hx hb hts i_X5 hown hK hP 0 rfl rfl 14 (by decide) fl36 (fun _ h9 => h9) rfl dX5_recur_63 ?_
              refine lv_iload hx hb dX5_recur_66 (lv_at hl 0 rfl) ?_
              refine kd_lald hx hb hK hP 1 rfl k (by omega) (by omega) dX5_recur_68 ?_
              rw [pMix_lt (show k < 2 * n by omega)]
              refine lv_lstore (lv' := [(6, .long (lN (row k))), (5, .int (nI k)), (3, .long (lN em)), (2, .int (nI sh)), (1, .int (nI L)), (0, .ref h0)]) hx hb dX5_recur_69 hl (by decide) rfl (fun ls hl => ?_)
              refine lv_iconst (v := (nI 1)) hx hb dX5_recur_71 (by decide) ?_
              refine lv_istore (lv' := [(8, .int (nI 1)), (6, .long (lN (row k))), (5, .int (nI k)), (3, .long (lN em)), (2, .int (nI sh)), (1, .int (nI L)), (0, .ref h0)]) hx hb dX5_recur_72 hl (by decide) rfl (fun ls hl => ?_)
              have la : ∀ (k_la : Nat) (i0 : Nat) (H : Heap) (locs : List Loc) (ls : Array Slot), (L - i0 < k_la) → (i0 ≤ L) → va_P D vwCl [(h0, .inr (5, [.int (nI P), .int (nI n), .int (nI room), .ref rR, .ref rC, .ref rV, .int (nI held), .ref rRi, .long (lN gg), .int (nI att), .int (nI prod), .ref rDr, .ref rVe, .ref rMa, .ref rRo, .int (nI rs), .ref rc, .ref rb, .ref rt, .int dg, .ref rSo, .int (nI ss)])), (rRo, kd_al cJ 32 (pMix (2 * n) row xr)), (rc, kd_al cJ 100 C), (rb, kd_al cJ 100 B), (rt, kd_al cJ 100 T)] H → va_D A [(h0, .inr (5, [.int (nI P), .int (nI n), .int (nI room), .ref rR, .ref rC, .ref rV, .int (nI held), .ref rRi, .long (lN gg), .int (nI att), .int (nI prod), .ref rDr, .ref rVe, .ref rMa, .ref rRo, .int (nI rs), .ref rc, .ref rb, .ref rt, .int dg, .ref rSo, .int (nI ss)])), (rRo, kd_al cJ 32 (pMix (2 * n) row xr)), (rc, kd_al cJ 100 C), (rb, kd_al cJ 100 B), (rt, kd_al cJ 100 T)] → va_S A s.heap H locs → lv_has ls 11 [(8, .int (nI (i0 + 1))), (6, .long (lN (pMs P row C k i0))), (5, .int (nI k)), (3, .long (lN em)), (2, .int (nI sh)), (1, .int (nI L)), (0, .ref h0)] → W p l e { frames := 2, cells := 0, slots := 0, locals := 48 } s m args below meth c H locs 0 0 Q (F0 m 74 ls []) := by
                intro k_la
                induction k_la with
                | zero => intro i0 H locs ls a1 a2 hP hD hS hl; omega
                | succ k_la ih_la =>
                  intro i0 H locs ls a1 a2 hP hD hS hl
                  refine lv_iload hx hb dX5_recur_74 (lv_at hl 0 rfl) ?_
                  refine lv_iload_n hx hb dX5_recur_76 rfl (lv_at hl 5 rfl) ?_
                  refine kd_gt (tgt := 115) hx hb dX5_recur_77 (by decide) (by omega) (by omega) (fun c_77 => ?_) (fun c_77 => ?_)
                  · skip
                    have e8 : i0 = L := by omega
                    rw [e8] at hl
                    have hl : lv_has ls 11 [(8, .int (nI (L + 1))), (6, .long (lN (pMs P row C k L))), (5, .int (nI k)), (3, .long (lN em)), (2, .int (nI sh)), (1, .int (nI L)), (0, .ref h0)] := hl
                    have hms : pMs P row C k L < P := pMs_lt (by omega) (g5 k (by omega)) C L
                    refine lv_lload hx hb dX5_recur_115 (lv_at hl 1 rfl) ?_
                    refine lv_lconst (v := lN 0) hx hb dX5_recur_117 (by decide) ?_
                    refine W.lcmp hx hb dX5_recur_118 ?_
                    refine lv_if_ne (tgt := 128) hx hb dX5_recur_119 (by decide) (fun c_119 => ?_) (fun c_119 => ?_)
                    · skip
                      have c_119 := fun q => c_119 ((lg_cmp_eq _ _).mpr q)
                      have c_119 : ¬ (pMs P row C k L) = 0 := fun q => c_119 (by rw [q])
                      refine lv_iconst (v := (nI 0)) hx hb dX5_recur_128 (by decide) ?_
                      refine lv_istore (lv' := [(8, .int (nI 0)), (6, .long (lN (pMs P row C k L))), (5, .int (nI k)), (3, .long (lN em)), (2, .int (nI sh)), (1, .int (nI L)), (0, .ref h0)]) hx hb dX5_recur_129 hl (by decide) rfl (fun ls hl => ?_)
                      have lb : ∀ (k_lb : Nat) (i : Nat) (y : Nat → Nat) (H : Heap) (locs : List Loc) (ls : Array Slot), (100 - i < k_lb) → (i ≤ 100) → (∀ j, j < i → y j = C j) → va_P D vwCl [(h0, .inr (5, [.int (nI P), .int (nI n), .int (nI room), .ref rR, .ref rC, .ref rV, .int (nI held), .ref rRi, .long (lN gg), .int (nI att), .int (nI prod), .ref rDr, .ref rVe, .ref rMa, .ref rRo, .int (nI rs), .ref rc, .ref rb, .ref rt, .int dg, .ref rSo, .int (nI ss)])), (rRo, kd_al cJ 32 (pMix (2 * n) row xr)), (rc, kd_al cJ 100 C), (rb, kd_al cJ 100 B), (rt, kd_al cJ 100 y)] H → va_D A [(h0, .inr (5, [.int (nI P), .int (nI n), .int (nI room), .ref rR, .ref rC, .ref rV, .int (nI held), .ref rRi, .long (lN gg), .int (nI att), .int (nI prod), .ref rDr, .ref rVe, .ref rMa, .ref rRo, .int (nI rs), .ref rc, .ref rb, .ref rt, .int dg, .ref rSo, .int (nI ss)])), (rRo, kd_al cJ 32 (pMix (2 * n) row xr)), (rc, kd_al cJ 100 C), (rb, kd_al cJ 100 B), (rt, kd_al cJ 100 y)] → va_S A s.heap H locs → lv_has ls 11 [(8, .int (nI i)), (6, .long (lN (pMs P row C k L))), (5, .int (nI k)), (3, .long (lN em)), (2, .int (nI sh)), (1, .int (nI L)), (0, .ref h0)] → W p l e { frames := 2, cells := 0, slots := 0, locals := 48 } s m args below meth c H locs 0 0 Q (F0 m 131 ls []) := by
                        intro k_lb
                        induction k_lb with
                        | zero => intro i y H locs ls b1 b2 b3 hP hD hS hl; omega
                        | succ k_lb ih_lb =>
                          intro i y H locs ls b1 b2 b3 hP hD hS hl
                          refine lv_iload hx hb dX5_recur_131 (lv_at hl 0 rfl) ?_
                          refine lv_bipush (v := (nI 100)) hx hb dX5_recur_133 (by decide) ?_
                          refine kd_ge (tgt := 158) hx hb dX5_recur_135 (by decide) (by omega) (by omega) (fun c_135 => ?_) (fun c_135 => ?_)
                          · skip
                            obtain ⟨hP, hD⟩ := kd_swapL (g := C) hP hD 4 rfl (fun j hj => b3 j (by omega))
                            have hP : va_P D vwCl [(h0, .inr (5, [.int (nI P), .int (nI n), .int (nI room), .ref rR, .ref rC, .ref rV, .int (nI held), .ref rRi, .long (lN gg), .int (nI att), .int (nI prod), .ref rDr, .ref rVe, .ref rMa, .ref rRo, .int (nI rs), .ref rc, .ref rb, .ref rt, .int dg, .ref rSo, .int (nI ss)])), (rRo, kd_al cJ 32 (pMix (2 * n) row xr)), (rc, kd_al cJ 100 C), (rb, kd_al cJ 100 B), (rt, kd_al cJ 100 C)] H := hP
                            have hD : va_D A [(h0, .inr (5, [.int (nI P), .int (nI n), .int (nI room), .ref rR, .ref rC, .ref rV, .int (nI held), .ref rRi, .long (lN gg), .int (nI att), .int (nI prod), .ref rDr, .ref rVe, .ref rMa, .ref rRo, .int (nI rs), .ref rc, .ref rb, .ref rt, .int dg, .ref rSo, .int (nI ss)])), (rRo, kd_al cJ 32 (pMix (2 * n) row xr)), (rc, kd_al cJ 100 C), (rb, kd_al cJ 100 B), (rt, kd_al cJ 100 C)] := hD
                            refine lv_lload hx hb dX5_recur_158 (lv_at hl 1 rfl) ?_
                            refine lv_aload_n hx hb dX5_recur_160 rfl (lv_at hl 6 rfl) ?_
                            refine lv_lload_n hx hb dX5_recur_161 rfl (lv_at hl 3 rfl) ?_
                            refine kd_VL (As := [.long (lN em)]) (rest := [.long (lN (pMs P row C k L))]) (Wr := [(rRo, kd_al cJ 32 (pMix (2 * n) row xr)), (rc, kd_al cJ 100 C), (rb, kd_al cJ 100 B), (rt, kd_al cJ 100 C)]) ⟨hx, hb, hml, hown, hts⟩ (c_X5_inverse l D cI cJ h0 rR rC rV rRi rDr rVe rMa rRo rc rb rt rSo P n room held gg att prod rs ss dg em g1 g2 z5) (cwV 1 hts gX5_recur_X5_inverse rfl rfl rfl (by decide +kernel) ⟨Nat.le_of_ble_eq_true rfl, Nat.le_of_ble_eq_true rfl⟩) hK hP hD hS hA [0] [1, 2, 3, 4] rfl rfl (by decide) (by decide) 0 rfl rfl rfl rfl hl.1 (Nat.le_of_ble_eq_true rfl) dX5_recur_162 ⟨Nat.le_of_ble_eq_true rfl, Nat.le_of_ble_eq_true rfl⟩ (fun _ H locs hP hD hS => ?_)
                            have hP : va_P D vwCl [(rRo, kd_al cJ 32 (pMix (2 * n) row xr)), (rc, kd_al cJ 100 C), (rb, kd_al cJ 100 B), (rt, kd_al cJ 100 C), (h0, .inr (5, [.int (nI P), .int (nI n), .int (nI room), .ref rR, .ref rC, .ref rV, .int (nI held), .ref rRi, .long (lN gg), .int (nI att), .int (nI prod), .ref rDr, .ref rVe, .ref rMa, .ref rRo, .int (nI rs), .ref rc, .ref rb, .ref rt, .int dg, .ref rSo, .int (nI ss)]))] H := hP
                            have hD : va_D A [(rRo, kd_al cJ 32 (pMix (2 * n) row xr)), (rc, kd_al cJ 100 C), (rb, kd_al cJ 100 B), (rt, kd_al cJ 100 C), (h0, .inr (5, [.int (nI P), .int (nI n), .int (nI room), .ref rR, .ref rC, .ref rV, .int (nI held), .ref rRi, .long (lN gg), .int (nI att), .int (nI prod), .ref rDr, .ref rVe, .ref rMa, .ref rRo, .int (nI rs), .ref rc, .ref rb, .ref rt, .int dg, .ref rSo, .int (nI ss)]))] := hD
                            refine kd_lmul hx hb dX5_recur_165 ?_
                            refine lv_aload_n hx hb dX5_recur_166 rfl (lv_at hl 6 rfl) ?_
                            refine va_get (D := D) (ci := 5) (v := .int (nI P)) (C := RX5) (T := TX5) (N := 22) hx hb hts i_X5 hown hK hP 4 rfl rfl 0 (by decide) fl60 (fun _ h9 => h9) rfl dX5_recur_167 ?_
                            refine kd_i2l hx hb (by omega) dX5_recur_170 ?_
                            refine kd_lrem hx hb (by have := mul_small g2 hms (pInv_lt (P := P) (a := em) (by omega)); omega) (by omega) (by omega) dX5_recur_171 ?_
                            rw [show pMs P row C k L * pInv P em % P = (0 + pMs P row C k L * pInv P em) % P by rw [Nat.zero_add]]
                            refine lv_lstore (lv' := [(8, .long (lN ((0 + pMs P row C k L * pInv P em) % P))), (6, .long (lN (pMs P row C k L))), (5, .int (nI k)), (3, .long (lN em)), (2, .int (nI sh)), (1, .int (nI L)), (0, .ref h0)]) hx hb dX5_recur_172 hl (by decide) rfl (fun ls hl => ?_)
                            refine lv_iconst (v := (nI 0)) hx hb dX5_recur_174 (by decide) ?_
                            refine lv_istore (lv' := [(10, .int (nI 0)), (8, .long (lN ((0 + pMs P row C k L * pInv P em) % P))), (6, .long (lN (pMs P row C k L))), (5, .int (nI k)), (3, .long (lN em)), (2, .int (nI sh)), (1, .int (nI L)), (0, .ref h0)]) hx hb dX5_recur_175 hl (by decide) rfl (fun ls hl => ?_)
                            obtain ⟨hP, hD⟩ := kd_swapL (g := (pSubI P C B sh ((0 + pMs P row C k L * pInv P em) % P) 0)) hP hD 1 rfl (fun j hj => pSubI_0)
                            have hP : va_P D vwCl [(rRo, kd_al cJ 32 (pMix (2 * n) row xr)), (rc, kd_al cJ 100 (pSubI P C B sh ((0 + pMs P row C k L * pInv P em) % P) 0)), (rb, kd_al cJ 100 B), (rt, kd_al cJ 100 C), (h0, .inr (5, [.int (nI P), .int (nI n), .int (nI room), .ref rR, .ref rC, .ref rV, .int (nI held), .ref rRi, .long (lN gg), .int (nI att), .int (nI prod), .ref rDr, .ref rVe, .ref rMa, .ref rRo, .int (nI rs), .ref rc, .ref rb, .ref rt, .int dg, .ref rSo, .int (nI ss)]))] H := hP
                            have hD : va_D A [(rRo, kd_al cJ 32 (pMix (2 * n) row xr)), (rc, kd_al cJ 100 (pSubI P C B sh ((0 + pMs P row C k L * pInv P em) % P) 0)), (rb, kd_al cJ 100 B), (rt, kd_al cJ 100 C), (h0, .inr (5, [.int (nI P), .int (nI n), .int (nI room), .ref rR, .ref rC, .ref rV, .int (nI held), .ref rRi, .long (lN gg), .int (nI att), .int (nI prod), .ref rDr, .ref rVe, .ref rMa, .ref rRo, .int (nI rs), .ref rc, .ref rb, .ref rt, .int dg, .ref rSo, .int (nI ss)]))] := hD
                            have lc : ∀ (k_lc : Nat) (i : Nat) (H : Heap) (locs : List Loc) (ls : Array Slot), (100 - i < k_lc) → (i ≤ 100) → va_P D vwCl [(h0, .inr (5, [.int (nI P), .int (nI n), .int (nI room), .ref rR, .ref rC, .ref rV, .int (nI held), .ref rRi, .long (lN gg), .int (nI att), .int (nI prod), .ref rDr, .ref rVe, .ref rMa, .ref rRo, .int (nI rs), .ref rc, .ref rb, .ref rt, .int dg, .ref rSo, .int (nI ss)])), (rRo, kd_al cJ 32 (pMix (2 * n) row xr)), (rc, kd_al cJ 100 (pSubI P C B sh ((0 + pMs P row C k L * pInv P em) % P) i)), (rb, kd_al cJ 100 B), (rt, kd_al cJ 100 C)] H → va_D A [(h0, .inr (5, [.int (nI P), .int (nI n), .int (nI room), .ref rR, .ref rC, .ref rV, .int (nI held), .ref rRi, .long (lN gg), .int (nI att), .int (nI prod), .ref rDr, .ref rVe, .ref rMa, .ref rRo, .int (nI rs), .ref rc, .ref rb, .ref rt, .int dg, .ref rSo, .int (nI ss)])), (rRo, kd_al cJ 32 (pMix (2 * n) row xr)), (rc, kd_al cJ 100 (pSubI P C B sh ((0 + pMs P row C k L * pInv P em) % P) i)), (rb, kd_al cJ 100 B), (rt, kd_al cJ 100 C)] → va_S A s.heap H locs → lv_has ls 11 [(10, .int (nI i)), (8, .long (lN ((0 + pMs P row C k L * pInv P em) % P))), (6, .long (lN (pMs P row C k L))), (5, .int (nI k)), (3, .long (lN em)), (2, .int (nI sh)), (1, .int (nI L)), (0, .ref h0)] → W p l e { frames := 2, cells := 0, slots := 0, locals := 48 } s m args below meth c H locs 0 0 Q (F0 m 177 ls []) := by
                              intro k_lc
                              induction k_lc with
                              | zero => intro i H locs ls d1 d2 hP hD hS hl; omega
                              | succ k_lc ih_lc =>
                                intro i H locs ls d1 d2 hP hD hS hl
                                refine lv_iload hx hb dX5_recur_177 (lv_at hl 0 rfl) ?_
                                refine lv_iload_n hx hb dX5_recur_179 rfl (lv_at hl 5 rfl) ?_
                                refine kd_add hx hb dX5_recur_180 ?_
                                refine lv_bipush (v := (nI 100)) hx hb dX5_recur_181 (by decide) ?_
                                refine kd_ge (tgt := 225) hx hb dX5_recur_183 (by decide) (by omega) (by omega) (fun c_183 => ?_) (fun c_183 => ?_)
                                · skip
                                  obtain ⟨hP, hD⟩ := kd_swapL (g := (pSub P C B sh ((0 + pMs P row C k L * pInv P em) % P))) hP hD 2 rfl (fun j hj => pSubI_end (by omega))
                                  have hP : va_P D vwCl [(h0, .inr (5, [.int (nI P), .int (nI n), .int (nI room), .ref rR, .ref rC, .ref rV, .int (nI held), .ref rRi, .long (lN gg), .int (nI att), .int (nI prod), .ref rDr, .ref rVe, .ref rMa, .ref rRo, .int (nI rs), .ref rc, .ref rb, .ref rt, .int dg, .ref rSo, .int (nI ss)])), (rRo, kd_al cJ 32 (pMix (2 * n) row xr)), (rc, kd_al cJ 100 (pSub P C B sh ((0 + pMs P row C k L * pInv P em) % P))), (rb, kd_al cJ 100 B), (rt, kd_al cJ 100 C)] H := hP
                                  have hD : va_D A [(h0, .inr (5, [.int (nI P), .int (nI n), .int (nI room), .ref rR, .ref rC, .ref rV, .int (nI held), .ref rRi, .long (lN gg), .int (nI att), .int (nI prod), .ref rDr, .ref rVe, .ref rMa, .ref rRo, .int (nI rs), .ref rc, .ref rb, .ref rt, .int dg, .ref rSo, .int (nI ss)])), (rRo, kd_al cJ 32 (pMix (2 * n) row xr)), (rc, kd_al cJ 100 (pSub P C B sh ((0 + pMs P row C k L * pInv P em) % P))), (rb, kd_al cJ 100 B), (rt, kd_al cJ 100 C)] := hD
                                  refine lv_iconst (v := (nI 2)) hx hb dX5_recur_225 (by decide) ?_
                                  refine lv_iload_n hx hb dX5_recur_226 rfl (lv_at hl 6 rfl) ?_
                                  refine kd_mul hx hb dX5_recur_227 ?_
                                  refine lv_iload hx hb dX5_recur_228 (lv_at hl 3 rfl) ?_
                                  refine kd_gt (tgt := 278) hx hb dX5_recur_230 (by decide) (by omega) (by omega) (fun c_230 => ?_) (fun c_230 => ?_)
                                  · skip
                                    refine lv_iinc (v := (nI (sh + 1))) (lv' := [(2, .int (nI (sh + 1))), (10, .int (nI i)), (8, .long (lN ((0 + pMs P row C k L * pInv P em) % P))), (6, .long (lN (pMs P row C k L))), (5, .int (nI k)), (3, .long (lN em)), (1, .int (nI L)), (0, .ref h0)]) hx hb dX5_recur_278 hl (k := 5) rfl (nI_1 _) (by decide) rfl (fun ls hl => ?_)
                                    refine lv_iinc (v := (nI (k + 1))) (lv' := [(5, .int (nI (k + 1))), (2, .int (nI (sh + 1))), (10, .int (nI i)), (8, .long (lN ((0 + pMs P row C k L * pInv P em) % P))), (6, .long (lN (pMs P row C k L))), (3, .long (lN em)), (1, .int (nI L)), (0, .ref h0)]) hx hb dX5_recur_281 hl (k := 4) rfl (nI_1 _) (by decide) rfl (fun ls hl => ?_)
                                    refine lv_goto (tgt := 51) hx hb dX5_recur_284 (by decide) ?_
                                    exact ih_lm (k + 1) (pSub P C B sh ((0 + pMs P row C k L * pInv P em) % P)) B C L (sh + 1) em _ _ _ (by omega) (by omega) (by show pStep P row k (pBM P row k) = _; rw [hz]; exact pStep_1 c_119 c_230) (hP.sub [0, 1, 2, 3, 4] rfl) (hD.sub [0, 1, 2, 3, 4] (by decide) rfl) hS (lv_sub hl [0, 5, 1, 6, 7] rfl)
                                  · skip
                                    refine lv_iload hx hb dX5_recur_233 (lv_at hl 3 rfl) ?_
                                    refine lv_iconst (v := (nI 1)) hx hb dX5_recur_235 (by decide) ?_
                                    refine kd_add hx hb dX5_recur_236 ?_
                                    refine lv_iload_n hx hb dX5_recur_237 rfl (lv_at hl 6 rfl) ?_
                                    refine kd_sub hx hb (by omega) dX5_recur_238 ?_
                                    refine lv_istore_n (lv' := [(1, .int (nI ((k + 1) - L))), (10, .int (nI i)), (8, .long (lN ((0 + pMs P row C k L * pInv P em) % P))), (6, .long (lN (pMs P row C k L))), (5, .int (nI k)), (3, .long (lN em)), (2, .int (nI sh)), (0, .ref h0)]) hx hb dX5_recur_239 rfl hl (by decide) rfl (fun ls hl => ?_)
                                    refine lv_iconst (v := (nI 0)) hx hb dX5_recur_240 (by decide) ?_
                                    refine lv_istore (lv' := [(10, .int (nI 0)), (1, .int (nI ((k + 1) - L))), (8, .long (lN ((0 + pMs P row C k L * pInv P em) % P))), (6, .long (lN (pMs P row C k L))), (5, .int (nI k)), (3, .long (lN em)), (2, .int (nI sh)), (0, .ref h0)]) hx hb dX5_recur_241 hl (by decide) rfl (fun ls hl => ?_)
                                    have ld : ∀ (k_ld : Nat) (i : Nat) (y : Nat → Nat) (H : Heap) (locs : List Loc) (ls : Array Slot), (100 - i < k_ld) → (i ≤ 100) → (∀ j, j < i → y j = C j) → va_P D vwCl [(h0, .inr (5, [.int (nI P), .int (nI n), .int (nI room), .ref rR, .ref rC, .ref rV, .int (nI held), .ref rRi, .long (lN gg), .int (nI att), .int (nI prod), .ref rDr, .ref rVe, .ref rMa, .ref rRo, .int (nI rs), .ref rc, .ref rb, .ref rt, .int dg, .ref rSo, .int (nI ss)])), (rRo, kd_al cJ 32 (pMix (2 * n) row xr)), (rc, kd_al cJ 100 (pSub P C B sh ((0 + pMs P row C k L * pInv P em) % P))), (rb, kd_al cJ 100 y), (rt, kd_al cJ 100 C)] H → va_D A [(h0, .inr (5, [.int (nI P), .int (nI n), .int (nI room), .ref rR, .ref rC, .ref rV, .int (nI held), .ref rRi, .long (lN gg), .int (nI att), .int (nI prod), .ref rDr, .ref rVe, .ref rMa, .ref rRo, .int (nI rs), .ref rc, .ref rb, .ref rt, .int dg, .ref rSo, .int (nI ss)])), (rRo, kd_al cJ 32 (pMix (2 * n) row xr)), (rc, kd_al cJ 100 (pSub P C B sh ((0 + pMs P row C k L * pInv P em) % P))), (rb, kd_al cJ 100 y), (rt, kd_al cJ 100 C)] → va_S A s.heap H locs → lv_has ls 11 [(10, .int (nI i)), (6, .long (lN (pMs P row C k L))), (5, .int (nI k)), (1, .int (nI (k + 1 - L))), (0, .ref h0)] → W p l e { frames := 2, cells := 0, slots := 0, locals := 48 } s m args below meth c H locs 0 0 Q (F0 m 243 ls []) := by
                                      intro k_ld
                                      induction k_ld with
                                      | zero => intro i y H locs ls f1 f2 f3 hP hD hS hl; omega
                                      | succ k_ld ih_ld =>
                                        intro i y H locs ls f1 f2 f3 hP hD hS hl
                                        refine lv_iload hx hb dX5_recur_243 (lv_at hl 0 rfl) ?_
                                        refine lv_bipush (v := (nI 100)) hx hb dX5_recur_245 (by decide) ?_
                                        refine kd_ge (tgt := 270) hx hb dX5_recur_247 (by decide) (by omega) (by omega) (fun c_247 => ?_) (fun c_247 => ?_)
                                        · skip
                                          obtain ⟨hP, hD⟩ := kd_swapL (g := C) hP hD 3 rfl (fun j hj => f3 j (by omega))
                                          have hP : va_P D vwCl [(h0, .inr (5, [.int (nI P), .int (nI n), .int (nI room), .ref rR, .ref rC, .ref rV, .int (nI held), .ref rRi, .long (lN gg), .int (nI att), .int (nI prod), .ref rDr, .ref rVe, .ref rMa, .ref rRo, .int (nI rs), .ref rc, .ref rb, .ref rt, .int dg, .ref rSo, .int (nI ss)])), (rRo, kd_al cJ 32 (pMix (2 * n) row xr)), (rc, kd_al cJ 100 (pSub P C B sh ((0 + pMs P row C k L * pInv P em) % P))), (rb, kd_al cJ 100 C), (rt, kd_al cJ 100 C)] H := hP
                                          have hD : va_D A [(h0, .inr (5, [.int (nI P), .int (nI n), .int (nI room), .ref rR, .ref rC, .ref rV, .int (nI held), .ref rRi, .long (lN gg), .int (nI att), .int (nI prod), .ref rDr, .ref rVe, .ref rMa, .ref rRo, .int (nI rs), .ref rc, .ref rb, .ref rt, .int dg, .ref rSo, .int (nI ss)])), (rRo, kd_al cJ 32 (pMix (2 * n) row xr)), (rc, kd_al cJ 100 (pSub P C B sh ((0 + pMs P row C k L * pInv P em) % P))), (rb, kd_al cJ 100 C), (rt, kd_al cJ 100 C)] := hD
                                          refine lv_lload hx hb dX5_recur_270 (lv_at hl 1 rfl) ?_
                                          refine lv_lstore_n (lv' := [(3, .long (lN (pMs P row C k L))), (10, .int (nI i)), (6, .long (lN (pMs P row C k L))), (5, .int (nI k)), (1, .int (nI (k + 1 - L))), (0, .ref h0)]) hx hb dX5_recur_272 rfl hl (by decide) rfl (fun ls hl => ?_)
                                          refine lv_iconst (v := (nI 1)) hx hb dX5_recur_273 (by decide) ?_
                                          refine lv_istore_n (lv' := [(2, .int (nI 1)), (3, .long (lN (pMs P row C k L))), (10, .int (nI i)), (6, .long (lN (pMs P row C k L))), (5, .int (nI k)), (1, .int (nI (k + 1 - L))), (0, .ref h0)]) hx hb dX5_recur_274 rfl hl (by decide) rfl (fun ls hl => ?_)
                                          refine lv_goto (tgt := 281) hx hb dX5_recur_275 (by decide) ?_
                                          refine lv_iinc (v := (nI (k + 1))) (lv' := [(5, .int (nI (k + 1))), (2, .int (nI 1)), (3, .long (lN (pMs P row C k L))), (10, .int (nI i)), (6, .long (lN (pMs P row C k L))), (1, .int (nI (k + 1 - L))), (0, .ref h0)]) hx hb dX5_recur_281 hl (k := 4) rfl (nI_1 _) (by decide) rfl (fun ls hl => ?_)
                                          refine lv_goto (tgt := 51) hx hb dX5_recur_284 (by decide) ?_
                                          exact ih_lm (k + 1) (pSub P C B sh ((0 + pMs P row C k L * pInv P em) % P)) C C (k + 1 - L) 1 (pMs P row C k L) _ _ _ (by omega) (by omega) (by show pStep P row k (pBM P row k) = _; rw [hz]; exact pStep_2 c_119 c_230) (hP.sub [0, 1, 2, 3, 4] rfl) (hD.sub [0, 1, 2, 3, 4] (by decide) rfl) hS (lv_sub hl [0, 2, 1, 5, 6] rfl)
                                        · skip
                                          refine lv_aload_n hx hb dX5_recur_250 rfl (lv_at hl 4 rfl) ?_
                                          refine va_get (D := D) (ci := 5) (v := .ref rb) (C := RX5) (T := TX5) (N := 22) hx hb hts i_X5 hown hK hP 0 rfl rfl 17 (by decide) fl42 (fun _ h9 => h9) rfl dX5_recur_251 ?_
                                          refine lv_iload hx hb dX5_recur_254 (lv_at hl 0 rfl) ?_
                                          refine lv_aload_n hx hb dX5_recur_256 rfl (lv_at hl 4 rfl) ?_
                                          refine va_get (D := D) (ci := 5) (v := .ref rt) (C := RX5) (T := TX5) (N := 22) hx hb hts i_X5 hown hK hP 0 rfl rfl 18 (by decide) fl45 (fun _ h9 => h9) rfl dX5_recur_257 ?_
                                          refine lv_iload hx hb dX5_recur_260 (lv_at hl 0 rfl) ?_
                                          refine kd_lald hx hb hK hP 4 rfl i (by omega) (by omega) dX5_recur_262 ?_
                                          refine kd_last hx hb hK hP hD hS 3 rfl i (by omega) (by omega) dX5_recur_263 (fun H locs hP hD hS => ?_)
                                          have hP : va_P D vwCl [(h0, .inr (5, [.int (nI P), .int (nI n), .int (nI room), .ref rR, .ref rC, .ref rV, .int (nI held), .ref rRi, .long (lN gg), .int (nI att), .int (nI prod), .ref rDr, .ref rVe, .ref rMa, .ref rRo, .int (nI rs), .ref rc, .ref rb, .ref rt, .int dg, .ref rSo, .int (nI ss)])), (rRo, kd_al cJ 32 (pMix (2 * n) row xr)), (rc, kd_al cJ 100 (pSub P C B sh ((0 + pMs P row C k L * pInv P em) % P))), (rb, kd_al cJ 100 (va_up y i (C i))), (rt, kd_al cJ 100 C)] H := hP
                                          have hD : va_D A [(h0, .inr (5, [.int (nI P), .int (nI n), .int (nI room), .ref rR, .ref rC, .ref rV, .int (nI held), .ref rRi, .long (lN gg), .int (nI att), .int (nI prod), .ref rDr, .ref rVe, .ref rMa, .ref rRo, .int (nI rs), .ref rc, .ref rb, .ref rt, .int dg, .ref rSo, .int (nI ss)])), (rRo, kd_al cJ 32 (pMix (2 * n) row xr)), (rc, kd_al cJ 100 (pSub P C B sh ((0 + pMs P row C k L * pInv P em) % P))), (rb, kd_al cJ 100 (va_up y i (C i))), (rt, kd_al cJ 100 C)] := hD
                                          refine lv_iinc (v := (nI (i + 1))) (lv' := [(10, .int (nI (i + 1))), (6, .long (lN (pMs P row C k L))), (5, .int (nI k)), (1, .int (nI (k + 1 - L))), (0, .ref h0)]) hx hb dX5_recur_264 hl (k := 0) rfl (nI_1 _) (by decide) rfl (fun ls hl => ?_)
                                          refine lv_goto (tgt := 243) hx hb dX5_recur_267 (by decide) ?_
                                          exact ih_ld (i + 1) (va_up y i (C i)) _ _ _ (by omega) (by omega) (lt_upf f3) (hP.sub [0, 1, 2, 3, 4] rfl) (hD.sub [0, 1, 2, 3, 4] (by decide) rfl) hS (lv_sub hl [0, 1, 2, 3, 4] rfl)
                                    exact ld 101 0 B _ _ _ (by omega) (by omega) (fun j hj => by omega) (hP.sub [0, 1, 2, 3, 4] rfl) (hD.sub [0, 1, 2, 3, 4] (by decide) rfl) hS (lv_sub hl [0, 3, 4, 1, 7] rfl)
                                · skip
                                  refine lv_aload_n hx hb dX5_recur_186 rfl (lv_at hl 7 rfl) ?_
                                  refine va_get (D := D) (ci := 5) (v := .ref rc) (C := RX5) (T := TX5) (N := 22) hx hb hts i_X5 hown hK hP 0 rfl rfl 16 (by decide) fl39 (fun _ h9 => h9) rfl dX5_recur_187 ?_
                                  refine lv_iload hx hb dX5_recur_190 (lv_at hl 0 rfl) ?_
                                  refine lv_iload_n hx hb dX5_recur_192 rfl (lv_at hl 5 rfl) ?_
                                  refine kd_add hx hb dX5_recur_193 ?_
                                  refine lv_aload_n hx hb dX5_recur_194 rfl (lv_at hl 7 rfl) ?_
                                  refine lv_aload_n hx hb dX5_recur_195 rfl (lv_at hl 7 rfl) ?_
                                  refine va_get (D := D) (ci := 5) (v := .ref rc) (C := RX5) (T := TX5) (N := 22) hx hb hts i_X5 hown hK hP 0 rfl rfl 16 (by decide) fl39 (fun _ h9 => h9) rfl dX5_recur_196 ?_
                                  refine lv_iload hx hb dX5_recur_199 (lv_at hl 0 rfl) ?_
                                  refine lv_iload_n hx hb dX5_recur_201 rfl (lv_at hl 5 rfl) ?_
                                  refine kd_add hx hb dX5_recur_202 ?_
                                  refine kd_lald hx hb hK hP 2 rfl (i + sh) (by omega) (by omega) dX5_recur_203 ?_
                                  refine lv_lload hx hb dX5_recur_204 (lv_at hl 1 rfl) ?_
                                  refine lv_aload_n hx hb dX5_recur_206 rfl (lv_at hl 7 rfl) ?_
                                  refine va_get (D := D) (ci := 5) (v := .ref rb) (C := RX5) (T := TX5) (N := 22) hx hb hts i_X5 hown hK hP 0 rfl rfl 17 (by decide) fl42 (fun _ h9 => h9) rfl dX5_recur_207 ?_
                                  refine lv_iload hx hb dX5_recur_210 (lv_at hl 0 rfl) ?_
                                  refine kd_lald hx hb hK hP 3 rfl i (by omega) (by omega) dX5_recur_212 ?_
                                  refine kd_lmul hx hb dX5_recur_213 ?_
                                  refine lv_lsub hx hb dX5_recur_214 ?_
                                  have hxa : (pSubI P C B sh ((0 + pMs P row C k L * pInv P em) % P) i) (i + sh) < P := by rw [pSubI_at]; exact z1 _
                                  have hfa : (0 + pMs P row C k L * pInv P em) % P < P := Nat.mod_lt _ (by omega)
                                  refine kd_VL (As := [.long ((lN ((pSubI P C B sh ((0 + pMs P row C k L * pInv P em) % P) i) (i + sh))) - (lN (((0 + pMs P row C k L * pInv P em) % P) * (B i))))]) (rest := [.int (nI (i + sh)), .ref rc]) (Wr := [(rRo, kd_al cJ 32 (pMix (2 * n) row xr)), (rc, kd_al cJ 100 (pSubI P C B sh ((0 + pMs P row C k L * pInv P em) % P) i)), (rb, kd_al cJ 100 B), (rt, kd_al cJ 100 C)]) ⟨hx, hb, hml, hown, hts⟩ (c_X5_within l D cI cJ h0 rR rC rV rRi rDr rVe rMa rRo rc rb rt rSo P n room held gg att prod rs ss dg ((lN ((pSubI P C B sh ((0 + pMs P row C k L * pInv P em) % P) i) (i + sh))) - (lN (((0 + pMs P row C k L * pInv P em) % P) * (B i)))) g1 g2 (sub_rng g2 hxa hfa (z2 i))) (cwV 1 hts gX5_recur_X5_within rfl rfl rfl (by decide +kernel) ⟨Nat.le_of_ble_eq_true rfl, Nat.le_of_ble_eq_true rfl⟩) hK hP hD hS hA [0] [1, 2, 3, 4] rfl rfl (by decide) (by decide) 0 rfl rfl rfl rfl hl.1 (Nat.le_of_ble_eq_true rfl) dX5_recur_215 ⟨Nat.le_of_ble_eq_true rfl, Nat.le_of_ble_eq_true rfl⟩ (fun _ H locs hP hD hS => ?_)
                                  have hP : va_P D vwCl [(rRo, kd_al cJ 32 (pMix (2 * n) row xr)), (rc, kd_al cJ 100 (pSubI P C B sh ((0 + pMs P row C k L * pInv P em) % P) i)), (rb, kd_al cJ 100 B), (rt, kd_al cJ 100 C), (h0, .inr (5, [.int (nI P), .int (nI n), .int (nI room), .ref rR, .ref rC, .ref rV, .int (nI held), .ref rRi, .long (lN gg), .int (nI att), .int (nI prod), .ref rDr, .ref rVe, .ref rMa, .ref rRo, .int (nI rs), .ref rc, .ref rb, .ref rt, .int dg, .ref rSo, .int (nI ss)]))] H := hP
                                  have hD : va_D A [(rRo, kd_al cJ 32 (pMix (2 * n) row xr)), (rc, kd_al cJ 100 (pSubI P C B sh ((0 + pMs P row C k L * pInv P em) % P) i)), (rb, kd_al cJ 100 B), (rt, kd_al cJ 100 C), (h0, .inr (5, [.int (nI P), .int (nI n), .int (nI room), .ref rR, .ref rC, .ref rV, .int (nI held), .ref rRi, .long (lN gg), .int (nI att), .int (nI prod), .ref rDr, .ref rVe, .ref rMa, .ref rRo, .int (nI rs), .ref rc, .ref rb, .ref rt, .int dg, .ref rSo, .int (nI ss)]))] := hD
                                  rw [pRedL_sub g2 hxa hfa (z2 i)]
                                  refine kd_last hx hb hK hP hD hS 1 rfl (i + sh) (by omega) (by omega) dX5_recur_218 (fun H locs hP hD hS => ?_)
                                  have hP : va_P D vwCl [(rRo, kd_al cJ 32 (pMix (2 * n) row xr)), (rc, kd_al cJ 100 (va_up (pSubI P C B sh ((0 + pMs P row C k L * pInv P em) % P) i) (i + sh) (((pSubI P C B sh ((0 + pMs P row C k L * pInv P em) % P) i) (i + sh) + pNeg P ((0 + pMs P row C k L * pInv P em) % P) * B i) % P))), (rb, kd_al cJ 100 B), (rt, kd_al cJ 100 C), (h0, .inr (5, [.int (nI P), .int (nI n), .int (nI room), .ref rR, .ref rC, .ref rV, .int (nI held), .ref rRi, .long (lN gg), .int (nI att), .int (nI prod), .ref rDr, .ref rVe, .ref rMa, .ref rRo, .int (nI rs), .ref rc, .ref rb, .ref rt, .int dg, .ref rSo, .int (nI ss)]))] H := hP
                                  have hD : va_D A [(rRo, kd_al cJ 32 (pMix (2 * n) row xr)), (rc, kd_al cJ 100 (va_up (pSubI P C B sh ((0 + pMs P row C k L * pInv P em) % P) i) (i + sh) (((pSubI P C B sh ((0 + pMs P row C k L * pInv P em) % P) i) (i + sh) + pNeg P ((0 + pMs P row C k L * pInv P em) % P) * B i) % P))), (rb, kd_al cJ 100 B), (rt, kd_al cJ 100 C), (h0, .inr (5, [.int (nI P), .int (nI n), .int (nI room), .ref rR, .ref rC, .ref rV, .int (nI held), .ref rRi, .long (lN gg), .int (nI att), .int (nI prod), .ref rDr, .ref rVe, .ref rMa, .ref rRo, .int (nI rs), .ref rc, .ref rb, .ref rt, .int dg, .ref rSo, .int (nI ss)]))] := hD
                                  obtain ⟨hP, hD⟩ := kd_swapL (g := (pSubI P C B sh ((0 + pMs P row C k L * pInv P em) % P) (i + 1))) hP hD 1 rfl (fun j _ => pSubI_step j)
                                  have hP : va_P D vwCl [(rRo, kd_al cJ 32 (pMix (2 * n) row xr)), (rc, kd_al cJ 100 (pSubI P C B sh ((0 + pMs P row C k L * pInv P em) % P) (i + 1))), (rb, kd_al cJ 100 B), (rt, kd_al cJ 100 C), (h0, .inr (5, [.int (nI P), .int (nI n), .int (nI room), .ref rR, .ref rC, .ref rV, .int (nI held), .ref rRi, .long (lN gg), .int (nI att), .int (nI prod), .ref rDr, .ref rVe, .ref rMa, .ref rRo, .int (nI rs), .ref rc, .ref rb, .ref rt, .int dg, .ref rSo, .int (nI ss)]))] H := hP
                                  have hD : va_D A [(rRo, kd_al cJ 32 (pMix (2 * n) row xr)), (rc, kd_al cJ 100 (pSubI P C B sh ((0 + pMs P row C k L * pInv P em) % P) (i + 1))), (rb, kd_al cJ 100 B), (rt, kd_al cJ 100 C), (h0, .inr (5, [.int (nI P), .int (nI n), .int (nI room), .ref rR, .ref rC, .ref rV, .int (nI held), .ref rRi, .long (lN gg), .int (nI att), .int (nI prod), .ref rDr, .ref rVe, .ref rMa, .ref rRo, .int (nI rs), .ref rc, .ref rb, .ref rt, .int dg, .ref rSo, .int (nI ss)]))] := hD
                                  refine lv_iinc (v := (nI (i + 1))) (lv' := [(10, .int (nI (i + 1))), (8, .long (lN ((0 + pMs P row C k L * pInv P em) % P))), (6, .long (lN (pMs P row C k L))), (5, .int (nI k)), (3, .long (lN em)), (2, .int (nI sh)), (1, .int (nI L)), (0, .ref h0)]) hx hb dX5_recur_219 hl (k := 0) rfl (nI_1 _) (by decide) rfl (fun ls hl => ?_)
                                  refine lv_goto (tgt := 177) hx hb dX5_recur_222 (by decide) ?_
                                  exact ih_lc (i + 1) _ _ _ (by omega) (by omega) (hP.sub [4, 0, 1, 2, 3] rfl) (hD.sub [4, 0, 1, 2, 3] (by decide) rfl) hS (lv_sub hl [0, 1, 2, 3, 4, 5, 6, 7] rfl)
                            exact lc 101 0 _ _ _ (by omega) (by omega) (hP.sub [4, 0, 1, 2, 3] rfl) (hD.sub [4, 0, 1, 2, 3] (by decide) rfl) hS (lv_sub hl [0, 1, 2, 3, 4, 5, 6, 7] rfl)
                          · skip
                            refine lv_aload_n hx hb dX5_recur_138 rfl (lv_at hl 6 rfl) ?_
                            refine va_get (D := D) (ci := 5) (v := .ref rt) (C := RX5) (T := TX5) (N := 22) hx hb hts i_X5 hown hK hP 0 rfl rfl 18 (by decide) fl45 (fun _ h9 => h9) rfl dX5_recur_139 ?_
                            refine lv_iload hx hb dX5_recur_142 (lv_at hl 0 rfl) ?_
                            refine lv_aload_n hx hb dX5_recur_144 rfl (lv_at hl 6 rfl) ?_
                            refine va_get (D := D) (ci := 5) (v := .ref rc) (C := RX5) (T := TX5) (N := 22) hx hb hts i_X5 hown hK hP 0 rfl rfl 16 (by decide) fl39 (fun _ h9 => h9) rfl dX5_recur_145 ?_
                            refine lv_iload hx hb dX5_recur_148 (lv_at hl 0 rfl) ?_
                            refine kd_lald hx hb hK hP 2 rfl i (by omega) (by omega) dX5_recur_150 ?_
                            refine kd_last hx hb hK hP hD hS 4 rfl i (by omega) (by omega) dX5_recur_151 (fun H locs hP hD hS => ?_)
                            have hP : va_P D vwCl [(h0, .inr (5, [.int (nI P), .int (nI n), .int (nI room), .ref rR, .ref rC, .ref rV, .int (nI held), .ref rRi, .long (lN gg), .int (nI att), .int (nI prod), .ref rDr, .ref rVe, .ref rMa, .ref rRo, .int (nI rs), .ref rc, .ref rb, .ref rt, .int dg, .ref rSo, .int (nI ss)])), (rRo, kd_al cJ 32 (pMix (2 * n) row xr)), (rc, kd_al cJ 100 C), (rb, kd_al cJ 100 B), (rt, kd_al cJ 100 (va_up y i (C i)))] H := hP
                            have hD : va_D A [(h0, .inr (5, [.int (nI P), .int (nI n), .int (nI room), .ref rR, .ref rC, .ref rV, .int (nI held), .ref rRi, .long (lN gg), .int (nI att), .int (nI prod), .ref rDr, .ref rVe, .ref rMa, .ref rRo, .int (nI rs), .ref rc, .ref rb, .ref rt, .int dg, .ref rSo, .int (nI ss)])), (rRo, kd_al cJ 32 (pMix (2 * n) row xr)), (rc, kd_al cJ 100 C), (rb, kd_al cJ 100 B), (rt, kd_al cJ 100 (va_up y i (C i)))] := hD
                            refine lv_iinc (v := (nI (i + 1))) (lv' := [(8, .int (nI (i + 1))), (6, .long (lN (pMs P row C k L))), (5, .int (nI k)), (3, .long (lN em)), (2, .int (nI sh)), (1, .int (nI L)), (0, .ref h0)]) hx hb dX5_recur_152 hl (k := 0) rfl (nI_1 _) (by decide) rfl (fun ls hl => ?_)
                            refine lv_goto (tgt := 131) hx hb dX5_recur_155 (by decide) ?_
                            exact ih_lb (i + 1) (va_up y i (C i)) _ _ _ (by omega) (by omega) (lt_upf b3) (hP.sub [0, 1, 2, 3, 4] rfl) (hD.sub [0, 1, 2, 3, 4] (by decide) rfl) hS (lv_sub hl [0, 1, 2, 3, 4, 5, 6] rfl)
                      exact lb 101 0 T _ _ _ (by omega) (by omega) (fun j hj => by omega) (hP.sub [0, 1, 2, 3, 4] rfl) (hD.sub [0, 1, 2, 3, 4] (by decide) rfl) hS (lv_sub hl [0, 1, 2, 3, 4, 5, 6] rfl)
                    · skip
                      have c_119 := (lg_cmp_eq _ _).mp c_119
                      have c_119 : (pMs P row C k L) = 0 := (pk_lEQ (by omega) (by omega)).mp c_119
                      refine lv_iinc (v := (nI (sh + 1))) (lv' := [(2, .int (nI (sh + 1))), (8, .int (nI (L + 1))), (6, .long (lN (pMs P row C k L))), (5, .int (nI k)), (3, .long (lN em)), (1, .int (nI L)), (0, .ref h0)]) hx hb dX5_recur_122 hl (k := 4) rfl (nI_1 _) (by decide) rfl (fun ls hl => ?_)
                      refine lv_goto (tgt := 281) hx hb dX5_recur_125 (by decide) ?_
                      refine lv_iinc (v := (nI (k + 1))) (lv' := [(5, .int (nI (k + 1))), (2, .int (nI (sh + 1))), (8, .int (nI (L + 1))), (6, .long (lN (pMs P row C k L))), (3, .long (lN em)), (1, .int (nI L)), (0, .ref h0)]) hx hb dX5_recur_281 hl (k := 3) rfl (nI_1 _) (by decide) rfl (fun ls hl => ?_)
                      refine lv_goto (tgt := 51) hx hb dX5_recur_284 (by decide) ?_
                      exact ih_lm (k + 1) C B T L (sh + 1) em _ _ _ (by omega) (by omega) (by show pStep P row k (pBM P row k) = _; rw [hz]; exact pStep_0 c_119) (hP.sub [0, 1, 2, 3, 4] rfl) (hD.sub [0, 1, 2, 3, 4] (by decide) rfl) hS (lv_sub hl [0, 4, 1, 5, 6] rfl)
                  · skip
                    refine lv_lload hx hb dX5_recur_80 (lv_at hl 1 rfl) ?_
                    refine lv_aload_n hx hb dX5_recur_82 rfl (lv_at hl 6 rfl) ?_
                    refine va_get (D := D) (ci := 5) (v := .ref rc) (C := RX5) (T := TX5) (N := 22) hx hb hts i_X5 hown hK hP 0 rfl rfl 16 (by decide) fl39 (fun _ h9 => h9) rfl dX5_recur_83 ?_
                    refine lv_iload hx hb dX5_recur_86 (lv_at hl 0 rfl) ?_
                    refine kd_lald hx hb hK hP 2 rfl (i0 + 1) (by omega) (by omega) dX5_recur_88 ?_
                    refine lv_aload_n hx hb dX5_recur_89 rfl (lv_at hl 6 rfl) ?_
                    refine va_get (D := D) (ci := 5) (v := .ref rRo) (C := RX5) (T := TX5) (N := 22) hx hb hts i_X5 hown hK hP 0 rfl rfl 14 (by decide) fl36 (fun _ h9 => h9) rfl dX5_recur_90 ?_
                    refine lv_iload hx hb dX5_recur_93 (lv_at hl 2 rfl) ?_
                    refine lv_iload hx hb dX5_recur_95 (lv_at hl 0 rfl) ?_
                    refine kd_sub hx hb (by omega) dX5_recur_97 ?_
                    refine kd_lald hx hb hK hP 1 rfl (k - (i0 + 1)) (by omega) (by omega) dX5_recur_98 ?_
                    rw [pMix_lt (show k - (i0 + 1) < 2 * n by omega)]
                    refine kd_lmul hx hb dX5_recur_99 ?_
                    refine kd_ladd hx hb dX5_recur_100 ?_
                    refine lv_aload_n hx hb dX5_recur_101 rfl (lv_at hl 6 rfl) ?_
                    refine va_get (D := D) (ci := 5) (v := .int (nI P)) (C := RX5) (T := TX5) (N := 22) hx hb hts i_X5 hown hK hP 0 rfl rfl 0 (by decide) fl60 (fun _ h9 => h9) rfl dX5_recur_102 ?_
                    refine kd_i2l hx hb (by omega) dX5_recur_105 ?_
                    refine kd_lrem hx hb (by have := mul_small g2 (z1 (i0 + 1)) (g5 (k - (i0 + 1)) (by omega)); have := pMs_lt (P := P) (by omega) (g5 k (by omega)) C i0; omega) (by omega) (by omega) dX5_recur_106 ?_
                    refine lv_lstore (lv' := [(6, .long (lN (((pMs P row C k i0) + ((C (i0 + 1)) * (row (k - (i0 + 1))))) % P))), (8, .int (nI (i0 + 1))), (5, .int (nI k)), (3, .long (lN em)), (2, .int (nI sh)), (1, .int (nI L)), (0, .ref h0)]) hx hb dX5_recur_107 hl (by decide) rfl (fun ls hl => ?_)
                    refine lv_iinc (v := (nI ((i0 + 1) + 1))) (lv' := [(8, .int (nI ((i0 + 1) + 1))), (6, .long (lN (((pMs P row C k i0) + ((C (i0 + 1)) * (row (k - (i0 + 1))))) % P))), (5, .int (nI k)), (3, .long (lN em)), (2, .int (nI sh)), (1, .int (nI L)), (0, .ref h0)]) hx hb dX5_recur_109 hl (k := 1) rfl (nI_1 _) (by decide) rfl (fun ls hl => ?_)
                    refine lv_goto (tgt := 74) hx hb dX5_recur_112 (by decide) ?_
                    exact ih_la (i0 + 1) _ _ _ (by omega) (by omega) (hP.sub [0, 1, 2, 3, 4] rfl) (hD.sub [0, 1, 2, 3, 4] (by decide) rfl) hS (lv_sub hl [0, 1, 2, 3, 4, 5, 6] rfl)
              exact la (L + 1) 0 _ _ _ (by omega) (by omega) (hP.sub [0, 1, 2, 3, 4] rfl) (hD.sub [0, 1, 2, 3, 4] (by decide) rfl) hS (lv_sub hl [0, 1, 2, 3, 4, 5, 6] rfl)
        exact lm (2 * n + 1) 0 (va_up (fun _ => 0) 0 1) (va_up (fun _ => 0) 0 1) T0 0 1 1 _ _ _ (by omega) (by omega) rfl (hP.sub [0, 1, 2, 3, 4] rfl) (hD.sub [0, 1, 2, 3, 4] (by decide) rfl) hS (lv_sub hl [0, 1, 2, 3, 4] rfl)
      · skip
        refine lv_aload_n hx hb dX5_recur_8 rfl (lv_at hl 1 rfl) ?_
        refine va_get (D := D) (ci := 5) (v := .ref rc) (C := RX5) (T := TX5) (N := 22) hx hb hts i_X5 hown hK hP 0 rfl rfl 16 (by decide) fl39 (fun _ h9 => h9) rfl dX5_recur_9 ?_
        refine lv_iload_n hx hb dX5_recur_12 rfl (lv_at hl 0 rfl) ?_
        refine lv_lconst (v := lN 0) hx hb dX5_recur_13 (by decide) ?_
        refine kd_last hx hb hK hP hD hS 2 rfl i (by omega) (by omega) dX5_recur_14 (fun H locs hP hD hS => ?_)
        have hP : va_P D vwCl [(h0, .inr (5, [.int (nI P), .int (nI n), .int (nI room), .ref rR, .ref rC, .ref rV, .int (nI held), .ref rRi, .long (lN gg), .int (nI att), .int (nI prod), .ref rDr, .ref rVe, .ref rMa, .ref rRo, .int (nI rs), .ref rc, .ref rb, .ref rt, .int dg, .ref rSo, .int (nI ss)])), (rRo, kd_al cJ 32 (pMix (2 * n) row xr)), (rc, kd_al cJ 100 (va_up x i 0)), (rb, kd_al cJ 100 y), (rt, kd_al cJ 100 T0)] H := hP
        have hD : va_D A [(h0, .inr (5, [.int (nI P), .int (nI n), .int (nI room), .ref rR, .ref rC, .ref rV, .int (nI held), .ref rRi, .long (lN gg), .int (nI att), .int (nI prod), .ref rDr, .ref rVe, .ref rMa, .ref rRo, .int (nI rs), .ref rc, .ref rb, .ref rt, .int dg, .ref rSo, .int (nI ss)])), (rRo, kd_al cJ 32 (pMix (2 * n) row xr)), (rc, kd_al cJ 100 (va_up x i 0)), (rb, kd_al cJ 100 y), (rt, kd_al cJ 100 T0)] := hD
        refine lv_aload_n hx hb dX5_recur_15 rfl (lv_at hl 1 rfl) ?_
        refine va_get (D := D) (ci := 5) (v := .ref rb) (C := RX5) (T := TX5) (N := 22) hx hb hts i_X5 hown hK hP 0 rfl rfl 17 (by decide) fl42 (fun _ h9 => h9) rfl dX5_recur_16 ?_
        refine lv_iload_n hx hb dX5_recur_19 rfl (lv_at hl 0 rfl) ?_
        refine lv_lconst (v := lN 0) hx hb dX5_recur_20 (by decide) ?_
        refine kd_last hx hb hK hP hD hS 3 rfl i (by omega) (by omega) dX5_recur_21 (fun H locs hP hD hS => ?_)
        have hP : va_P D vwCl [(h0, .inr (5, [.int (nI P), .int (nI n), .int (nI room), .ref rR, .ref rC, .ref rV, .int (nI held), .ref rRi, .long (lN gg), .int (nI att), .int (nI prod), .ref rDr, .ref rVe, .ref rMa, .ref rRo, .int (nI rs), .ref rc, .ref rb, .ref rt, .int dg, .ref rSo, .int (nI ss)])), (rRo, kd_al cJ 32 (pMix (2 * n) row xr)), (rc, kd_al cJ 100 (va_up x i 0)), (rb, kd_al cJ 100 (va_up y i 0)), (rt, kd_al cJ 100 T0)] H := hP
        have hD : va_D A [(h0, .inr (5, [.int (nI P), .int (nI n), .int (nI room), .ref rR, .ref rC, .ref rV, .int (nI held), .ref rRi, .long (lN gg), .int (nI att), .int (nI prod), .ref rDr, .ref rVe, .ref rMa, .ref rRo, .int (nI rs), .ref rc, .ref rb, .ref rt, .int dg, .ref rSo, .int (nI ss)])), (rRo, kd_al cJ 32 (pMix (2 * n) row xr)), (rc, kd_al cJ 100 (va_up x i 0)), (rb, kd_al cJ 100 (va_up y i 0)), (rt, kd_al cJ 100 T0)] := hD
        refine lv_iinc (v := (nI (i + 1))) (lv' := [(1, .int (nI (i + 1))), (0, .ref h0)]) hx hb dX5_recur_22 hl (k := 0) rfl (nI_1 _) (by decide) rfl (fun ls hl => ?_)
        refine lv_goto (tgt := 2) hx hb dX5_recur_25 (by decide) ?_
        exact ih_lp (i + 1) (va_up x i 0) (va_up y i 0) _ _ _ (by omega) (by omega) (lt_up i3) (lt_up i4) (hP.sub [0, 1, 2, 3, 4] rfl) (hD.sub [0, 1, 2, 3, 4] (by decide) rfl) hS (lv_sub hl [0, 1] rfl)
  exact lp 101 0 C0 B0 _ _ _ (by omega) (by omega) (fun j hj => by omega) (fun j hj => by omega) (hP.sub [0, 1, 2, 3, 4] rfl) (hD.sub [0, 1, 2, 3, 4] (by decide) rfl) hS (lv_sub hl [0, 1] rfl)
