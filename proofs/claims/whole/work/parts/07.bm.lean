/-! the pure model: the shortest recurrence of a row -/
def pMs (P : Nat) (row C : Nat → Nat) (k : Nat) : Nat → Nat
  | 0 => row k
  | i + 1 => (pMs P row C k i + C (i + 1) * row (k - (i + 1))) % P
theorem pMs_lt {P : Nat} {row : Nat → Nat} {k : Nat} (h : 0 < P) (hr : row k < P) (C : Nat → Nat) : ∀ i, pMs P row C k i < P
  | 0 => hr
  | _ + 1 => Nat.mod_lt _ h
def pSub (P : Nat) (C B : Nat → Nat) (sh f : Nat) : Nat → Nat := fun j => if sh ≤ j then (C j + pNeg P f * B (j - sh)) % P else C j
theorem pSub_lt {P : Nat} (h : 0 < P) {C : Nat → Nat} (hC : ∀ j, C j < P) (B : Nat → Nat) (sh f j : Nat) : pSub P C B sh f j < P := by
  unfold pSub
  split
  · exact Nat.mod_lt _ h
  · exact hC j
def pSubI (P : Nat) (C B : Nat → Nat) (sh f i : Nat) : Nat → Nat := fun j => if sh ≤ j ∧ j < i + sh then (C j + pNeg P f * B (j - sh)) % P else C j
theorem pSubI_at {P : Nat} {C B : Nat → Nat} {sh f i : Nat} : pSubI P C B sh f i (i + sh) = C (i + sh) := if_neg (by omega)
theorem pSubI_0 {P : Nat} {C B : Nat → Nat} {sh f j : Nat} : C j = pSubI P C B sh f 0 j := (if_neg (by omega)).symm
theorem pSubI_end {P : Nat} {C B : Nat → Nat} {sh f i j : Nat} (h : j < i + sh) : pSubI P C B sh f i j = pSub P C B sh f j := by
  unfold pSubI pSub
  by_cases h1 : sh ≤ j
  · rw [if_pos ⟨h1, h⟩, if_pos h1]
  · rw [if_neg (fun q => h1 q.1), if_neg h1]
theorem pSubI_step {P : Nat} {C B : Nat → Nat} {sh f i : Nat} (j : Nat) : va_up (pSubI P C B sh f i) (i + sh) ((pSubI P C B sh f i (i + sh) + pNeg P f * B i) % P) j = pSubI P C B sh f (i + 1) j := by
  by_cases h : j = i + sh
  · rw [h, up_self, pSubI_at]
    unfold pSubI
    rw [if_pos ⟨by omega, by omega⟩, Nat.add_sub_cancel]
  · rw [up_ne h]
    unfold pSubI
    by_cases h1 : sh ≤ j ∧ j < i + sh
    · rw [if_pos h1, if_pos ⟨h1.1, by omega⟩]
    · rw [if_neg h1, if_neg (fun q => h1 ⟨q.1, by omega⟩)]
/-- C, B, L, m, e of section 2 -/
abbrev pZ : Type := (Nat → Nat) × (Nat → Nat) × Nat × Nat × Nat
def pStep (P : Nat) (row : Nat → Nat) (k : Nat) (z : pZ) : pZ :=
  if pMs P row z.1 k z.2.2.1 = 0 then (z.1, z.2.1, z.2.2.1, z.2.2.2.1 + 1, z.2.2.2.2)
  else if k < 2 * z.2.2.1 then (pSub P z.1 z.2.1 z.2.2.2.1 ((0 + pMs P row z.1 k z.2.2.1 * pInv P z.2.2.2.2) % P), z.2.1, z.2.2.1, z.2.2.2.1 + 1, z.2.2.2.2)
  else (pSub P z.1 z.2.1 z.2.2.2.1 ((0 + pMs P row z.1 k z.2.2.1 * pInv P z.2.2.2.2) % P), z.1, k + 1 - z.2.2.1, 1, pMs P row z.1 k z.2.2.1)
theorem pStep_0 {P : Nat} {row C B : Nat → Nat} {k L sh em : Nat} (h : pMs P row C k L = 0) : pStep P row k (C, B, L, sh, em) = (C, B, L, sh + 1, em) := if_pos h
theorem pStep_1 {P : Nat} {row C B : Nat → Nat} {k L sh em : Nat} (h : ¬ pMs P row C k L = 0) (h2 : k < 2 * L) : pStep P row k (C, B, L, sh, em) = (pSub P C B sh ((0 + pMs P row C k L * pInv P em) % P), B, L, sh + 1, em) := (if_neg h).trans (if_pos h2)
theorem pStep_2 {P : Nat} {row C B : Nat → Nat} {k L sh em : Nat} (h : ¬ pMs P row C k L = 0) (h2 : ¬ k < 2 * L) : pStep P row k (C, B, L, sh, em) = (pSub P C B sh ((0 + pMs P row C k L * pInv P em) % P), C, k + 1 - L, 1, pMs P row C k L) := (if_neg h).trans (if_neg h2)
def pBM (P : Nat) (row : Nat → Nat) : Nat → pZ
  | 0 => (va_up (fun _ => 0) 0 1, va_up (fun _ => 0) 0 1, 0, 1, 1)
  | k + 1 => pStep P row k (pBM P row k)
/-- what holds of C, B, L, m, e before number k -/
def pZok (P k : Nat) (z : pZ) : Prop := (∀ j, z.1 j < P) ∧ (∀ j, z.2.1 j < P) ∧ z.2.2.1 ≤ k ∧ z.2.2.2.1 ≤ k + 1 ∧ z.2.2.2.2 < P
theorem pStep_ok {P : Nat} (hP : 2 ≤ P) {row : Nat → Nat} {k : Nat} (hr : row k < P) {z : pZ} (h : pZok P k z) : pZok P (k + 1) (pStep P row k z) := by
  obtain ⟨C, B, L, sh, em⟩ := z
  obtain ⟨h1, h2, h3, h4, h5⟩ := h
  dsimp only at h1 h2 h3 h4 h5
  by_cases a : pMs P row C k L = 0
  · rw [pStep_0 a]
    exact ⟨h1, h2, by dsimp only; omega, by dsimp only; omega, h5⟩
  · by_cases b : k < 2 * L
    · rw [pStep_1 a b]
      exact ⟨fun j => pSub_lt (by omega) h1 _ _ _ j, h2, by dsimp only; omega, by dsimp only; omega, h5⟩
    · rw [pStep_2 a b]
      exact ⟨fun j => pSub_lt (by omega) h1 _ _ _ j, h1, by dsimp only; omega, by dsimp only; omega, pMs_lt (by omega) hr C L⟩
theorem pBM_ok {P : Nat} (hP : 2 ≤ P) {row : Nat → Nat} : ∀ k, (∀ j, j < k → row j < P) → pZok P k (pBM P row k)
  | 0, _ => by
    have h : ∀ j, va_up (fun _ => 0) 0 1 j < P := by
      intro j
      unfold va_up
      dsimp only
      split <;> omega
    exact ⟨h, h, Nat.le_refl _, Nat.le_refl _, by show 1 < P; omega⟩
  | k + 1, hr => pStep_ok hP (hr k (by omega)) (pBM_ok hP k (fun j hj => hr j (by omega)))
