/-! the law: its script, its own cell(), the array classes, and what its loop keeps -/
def pCell (xs : Nat → Int32) (Ln k : Nat) : Int32 := if k < Ln then xs k else 0
section LB
variable {p : Program} {l : Launch} {e : Env} {R : Room} {s : State} {m : MethodId} {args : Array Value} {below : List Frame} {meth : Method} {c : Code} {H : Heap} {locs : List Loc} {cells slots : Nat} {Q : State → Prop}
variable {cc : ByteArray} {pc : Nat} {ls : Array Slot} {rest : List Value} {A : Nat → Prop} {D : va_G} {cl : List vw_C} {Wn : va_W} {b Ln : Nat} {xs : Nat → Int32}
theorem kd_slen (hexec : p.tables.exec = Jvm.exec) (hb : c.code = cc) (hX : va_X b Ln xs s s.heap) (hbl : b < s.heap.size) (hbA : ¬ A b) (hS : va_S A s.heap H locs) (hdg : decode cc pc = .ok (.arraylength, 1))
    (kk : W p l e R s m args below meth c H locs cells slots Q (F0 m (pc + 1) ls (.int (nI Ln) :: rest))) : W p l e R s m args below meth c H locs cells slots Q (F0 m pc ls (.ref b :: rest)) := va_slen hexec hb hX hbl hbA hS hdg kk
theorem kd_sld (hexec : p.tables.exec = Jvm.exec) (hb : c.code = cc) (hX : va_X b Ln xs s s.heap) (hbl : b < s.heap.size) (hbA : ¬ A b) (hS : va_S A s.heap H locs) (i : Nat) (hi : i < Ln) (hn : Ln < 2 ^ 31) (hdg : decode cc pc = .ok (.iaload, 1))
    (kk : W p l e R s m args below meth c H locs cells slots Q (F0 m (pc + 1) ls (.int (xs i) :: rest))) : W p l e R s m args below meth c H locs cells slots Q (F0 m pc ls (.int (nI i) :: .ref b :: rest)) := by
  refine va_sld hexec hb hX hbl hbA hS (vp_in_nI hi hn) hdg ?_
  rw [nI_clamp (by omega)]
  exact kk
theorem X_lt (hX : va_X b Ln xs s s.heap) : b < s.heap.size := by
  obtain ⟨scr, h1, -⟩ := hX
  exact (Array.getElem?_eq_some_iff.mp h1).1
end LB
set_option maxHeartbeats 4000000 in
set_option maxRecDepth 100000 in
/-- cell(script, k) -/
theorem c_L_cell (l : Launch) (b Ln k : Nat) (xs : Nat → Int32) (hk : k < 2 ^ 31) (hL : Ln < 2 ^ 31) : Met l yL_cell wsL_cell { frames := 0, cells := 0, slots := 0, locals := 0 } (va_Pc [.ref b, .int (nI k)] (fun U => va_X b Ln xs U U.heap)) (va_Qi (S := Unit) (fun r _ => r = pCell xs Ln k) (fun _ _ => True) (fun _ => False)) 0 0 (fun _ => False) := by
  refine Met.ofW (cc := cL_cell) (maxL := 2) (ret := some .int) (by decide) rfl ?_
  intro p e s m args below meth c s₁ B hml hv
  obtain ⟨rfl, hX⟩ := hv
  have hx := B.exec
  have hb := B.bytes
  have hr := B.returns
  have hlk := B.notSynchronized
  have hbl := X_lt hX
  have hS : va_S (fun _ => False) s.heap s.heap [] := va_S.rf
  have hbA : ¬ (fun _ : Nat => False) b := fun h => h
  have hl := lv_entry ([.ref b, .int (nI k)]) (n := 2) (Nat.le_of_ble_eq_true rfl)
  rw [lg_entry_eq]
  generalize (lg_sl ([.ref b, .int (nI k)]) ++ List.replicate (2 - (lg_sl ([.ref b, .int (nI k)])).length) Slot.unset).toArray = ls at hl ⊢
  have hl : lv_has ls 2 [(0, .ref b), (1, .int (nI k))] := hl
  refine lv_iload_n hx hb dL_cell_0 rfl (lv_at hl 1 rfl) ?_
  refine lv_aload_n hx hb dL_cell_1 rfl (lv_at hl 0 rfl) ?_
  refine kd_slen hx hb hX hbl hbA hS dL_cell_2 ?_
  refine kd_ge (tgt := 12) hx hb dL_cell_3 (by decide) hk hL (fun c_3 => ?_) (fun c_3 => ?_)
  · refine lv_iconst (v := 0) hx hb dL_cell_12 (by decide) ?_
    exact W.iret hx hb hr (fun t ht hW => ⟨⟨0, (), rfl, (if_neg (by omega)).symm, trivial⟩, hS.F ht⟩) hS.2.2 dL_cell_13 hlk
  · refine lv_aload_n hx hb dL_cell_6 rfl (lv_at hl 0 rfl) ?_
    refine lv_iload_n hx hb dL_cell_7 rfl (lv_at hl 1 rfl) ?_
    refine kd_sld hx hb hX hbl hbA hS k (by omega) hL dL_cell_8 ?_
    refine lv_goto (tgt := 13) hx hb dL_cell_9 (by decide) ?_
    exact W.iret hx hb hr (fun t ht hW => ⟨⟨xs k, (), rfl, (if_pos (by omega)).symm, trivial⟩, hS.F ht⟩) hS.2.2 dL_cell_13 hlk
section LC
variable {p : Program} {l : Launch} {e : Env} {R : Room} {s : State} {m : MethodId} {args : Array Value} {below : List Frame} {meth : Method} {c : Code} {H : Heap} {locs : List Loc} {cells slots : Nat} {Q : State → Prop}
variable {cc : ByteArray} {pc nL index : Nat} {ls : Array Slot} {rest : List Value} {A : Nat → Prop} {D : va_G} {cl : List vw_C} {Wn : va_W} {b Ln : Nat} {xs : Nat → Int32} {Ts : List Cond} {own : String} {bytes : ByteArray} {maxL : Nat} {ret : Option FieldType}
/-- a call of cell(): nothing changes -/
theorem kd_cell (Sx : CallFix p m c cc nL s args Ts own) (k : Nat) (hk : k < 2 ^ 31) (hL : Ln < 2 ^ 31) (cw : CallB R s args own index yL_cell bytes maxL ret wsL_cell { frames := 0, cells := 0, slots := 0, locals := 0 } 0 0 2 ∧ (Cond.static yL_cell).before args s = true) (hX : va_X b Ln xs s s.heap) (hbl : b < s.heap.size) (hbA : ¬ A b) (hP : va_P D cl Wn H) (hD : va_D A Wn) (hS : va_S A s.heap H locs)
    (hls : ls.size = nL) (hroom : (rest.map fun v => v.category).sum ≤ 8) (hdg : decode cc pc = .ok (.invokestatic index, 3)) (hf : cells + 0 ≤ R.cells ∧ slots + 0 ≤ R.slots)
    (kk : ∀ (H1 : Heap) (locs1 : List Loc), va_P D cl Wn H1 → va_D A Wn → va_S A s.heap H1 locs1 → W p l e R s m args below meth c H1 locs1 cells slots Q (F0 m (pc + 3) ls (.int (pCell xs Ln k) :: rest))) : W p l e R s m args below meth c H locs cells slots Q (F0 m pc ls (.int (nI k) :: .ref b :: rest)) := by
  have hX2 : va_X b Ln xs s H := hX.kept (hS.2.1 b hbl hbA)
  have hbd : FrameBlind (va_Pc [.ref b, .int (nI k)] (fun U => va_X b Ln xs U U.heap)) := by
    intro z U g mk q
    exact ⟨q.1, va_X.moved (u := U) (U := U.calling g mk z) (Vm.Alike.refl U.vm) q.2⟩
  have hr := va_runS (As := [.ref b, .int (nI k)]) (rest := rest) Sx (c_L_cell l b Ln k xs hk hL) cw ⟨hbd, fun U hU hW => ⟨rfl, by show va_X b Ln xs U U.heap; rw [hU]; exact hX2.moved hW.alike⟩⟩ (g := F0 m pc ls (.int (nI k) :: .ref b :: rest)) (H := H) (locs := locs) (cells := cells) (slots := slots) (below := below) (e := e) (meth := meth) rfl rfl hls rfl (lv_room (ls := ls) (m := m) (pc := pc) (rest := .int (nI k) :: .ref b :: rest) hroom) hdg hf
  refine va_calli hr hS (fun q _ h => h.elim) (fun q h => h.elim) (fun r u t H1 locs1 ht hvm hw hB hz1 hk1 hS1 => ?_)
  rw [hw]
  exact kk H1 locs1 (hP.kept (fun j q hq => hk1 q.1 (hP j q hq).lt (fun h => h))) hD hS1
end LC
/-- the array classes of ints and of longs -/
theorem arr_known {args : Array Value} {s : State} {ty : FieldType} (h : (Cond.arrayClass ty).before args s = true) (hty : ∀ C, ty ≠ .object C) : ∃ cA : ClassId, ArrOfT s cA ty ∧ va_RA s cA ty := by
  obtain ⟨cA, k, comp, h1, h2, h3⟩ := Cond.arrayClass_spec h
  refine ⟨cA, fun n z => ⟨fun q hq => (by cases hq), k, h2, comp, h3⟩, ?_⟩
  cases ty <;> first | exact h1 | exact absurd rfl (hty _)
theorem law_go {Ln i : Nat} (hL : Ln ≤ 2051) (hi : i ≤ 4000) (h : ¬ nI Ln - nI 4 < nI i) : i + 4 ≤ Ln := by
  apply Decidable.byContradiction
  intro q
  apply h
  apply Int32.lt_iff_toInt_lt.mpr
  rw [pk_sub_toInt (by omega) (by omega), nI_toInt (by omega)]
  omega
theorem law_sw (x : Int32) : ∃ j : Nat, j < 16 ∧ x &&& nI 15 = nI j := pk_andE x 4 (by decide)
theorem sSs_lt {P n : Nat} {rows cols vals : Nat → Nat} {held : Nat} {b : Nat → Nat} {g ss : Nat} (h : ss < 2) : ∀ k, sSs P n rows cols vals held b g ss k < 2
  | 0 => h
  | k + 1 => by
    show pAtSs P n rows cols vals held b (sG n g k) < 2
    unfold pAtSs
    split
    · omega
    · exact pB_lt _
theorem sRs_lt {rs : Nat} (h : rs < 2) : ∀ k, sRs rs k < 2
  | 0 => h
  | _ + 1 => by show 1 < 2; omega
theorem sL_le {P n : Nat} (hP : 2 ≤ P) {rows cols vals : Nat → Nat} {held : Nat} {b : Nat → Nat} {g L : Nat} (h : L ≤ 2 * n) : ∀ k, sL P n rows cols vals held b g L k ≤ 2 * n
  | 0 => h
  | k + 1 => (pRec_ok hP rows cols vals held b (sG n g k)).2.2.1
theorem sDg_eq {P n : Nat} {rows cols vals : Nat → Nat} {held : Nat} {b : Nat → Nat} {g rs L : Nat} : ∀ k, sDg P n rows cols vals held b g (pDeg rs L) k = pDeg (sRs rs k) (sL P n rows cols vals held b g L k)
  | 0 => rfl
  | _ + 1 => rfl
/-- what holds of the numbers between two calls -/
def pInvL (P n room held gg rs ss L : Nat) (rows cols vals b an : Nat → Nat) : Prop := pOK P n room held rows cols vals b ∧ gg < 2 ^ 31 ∧ rs < 2 ∧ ss < 2 ∧ L ≤ 2 * n ∧ ∀ j, j < n → an j < P
theorem pInvL_entry {P n room held gg rs ss L : Nat} {rows cols vals b an : Nat → Nat} (h : pInvL P n room held gg rs ss L rows cols vals b an) (r c v : Int32) : pInvL P n room (if pOkE n room held r c then held + 1 else held) gg (if pOkE n room held r c then 0 else rs) (if pOkE n room held r c then 0 else ss) L (if pOkE n room held r c then va_up rows held (pIx r) else rows) (if pOkE n room held r c then va_up cols held (pIx c) else cols) (if pOkE n room held r c then va_up vals held (pRed P v) else vals) b an := by
  by_cases e : pOkE n room held r c
  · simp only [if_pos e]
    obtain ⟨⟨g1, g2, g3, g4, g5, g6, g7, g8, g9, g10⟩, h2, h3, h4, h5, h6⟩ := h
    have q1 := (pPl_ix e.1.1).2
    have q2 := (pPl_ix e.1.2).2
    refine ⟨⟨g1, g2, g3, g4, g5, e.2, ?_, ?_, ?_, g10⟩, h2, by omega, by omega, h5, h6⟩
    · intro i hi
      by_cases a : i = held
      · rw [a, up_self]; exact q1
      · rw [up_ne a]; exact g7 i (by omega)
    · intro i hi
      by_cases a : i = held
      · rw [a, up_self]; exact q2
      · rw [up_ne a]; exact g8 i (by omega)
    · intro i hi
      by_cases a : i = held
      · rw [a, up_self]; exact pRed_lt (by omega) v
      · rw [up_ne a]; exact g9 i (by omega)
  · simp only [if_neg e]
    exact h
theorem pInvL_side {P n room held gg rs ss L : Nat} {rows cols vals b an : Nat → Nat} (h : pInvL P n room held gg rs ss L rows cols vals b an) (r v : Int32) : pInvL P n room held gg (if pPl n r then 0 else rs) (if pPl n r then 0 else ss) L rows cols vals (if pPl n r then va_up b (pIx r) (pRed P v) else b) an := by
  by_cases e : pPl n r
  · simp only [if_pos e]
    obtain ⟨⟨g1, g2, g3, g4, g5, g6, g7, g8, g9, g10⟩, h2, h3, h4, h5, h6⟩ := h
    refine ⟨⟨g1, g2, g3, g4, g5, g6, g7, g8, g9, ?_⟩, h2, by omega, by omega, h5, h6⟩
    intro j hj
    by_cases a : j = pIx r
    · rw [a, up_self]; exact pRed_lt (by omega) v
    · rw [up_ne a]; exact g10 j hj
  · simp only [if_neg e]
    exact h
theorem pInvL_tries {P n room held gg rs ss L : Nat} {rows cols vals b an : Nat → Nat} (h : pInvL P n room held gg rs ss L rows cols vals b an) (k : Nat) : pInvL P n room held (sG n gg k) (sRs rs k) (sSs P n rows cols vals held b gg ss k) (sL P n rows cols vals held b gg L k) rows cols vals b (sAn P n rows cols vals held b gg an k) := by
  obtain ⟨g, h2, h3, h4, h5, h6⟩ := h
  exact ⟨g, sG_lt h2 k, sRs_lt h3 k, sSs_lt h4 k, sL_le g.1 h5 k, sAn_lt (by have := g.1; omega) h6 k⟩
theorem if_deg {c : Prop} [Decidable c] {rs L : Nat} : (if c then (-1 : Int32) else pDeg rs L) = pDeg (if c then 0 else rs) L := by
  by_cases e : c
  · rw [if_pos e, if_pos e]; rfl
  · rw [if_neg e, if_neg e]
theorem pMix_0 (n j : Nat) : 0 = pMix n (fun _ => 0) (fun _ => 0) j := by
  unfold pMix
  split <;> rfl
