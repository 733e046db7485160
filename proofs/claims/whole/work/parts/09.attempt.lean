/-! the pure model: places, draws, the row, the candidate, the check -/
abbrev pPl (n : Nat) (i : Int32) : Prop := 0 ≤ i.toInt ∧ i.toInt < (n : Int)
def pIx (i : Int32) : Nat := i.toInt.toNat
theorem pPl_neg {n : Nat} {i : Int32} (h : i < 0) : ¬ pPl n i := by
  intro q
  have h1 : ¬ 0 ≤ i := fun z => absurd h (Int32.not_lt.mpr z)
  exact h1 (Jvm.Kit.i32_nonneg.mpr q.1)
theorem pPl_big {n : Nat} {i : Int32} (hn : n < 2 ^ 31) (h : nI n ≤ i) : ¬ pPl n i := by
  intro q
  have h1 := Int32.le_iff_toInt_le.mp h
  rw [nI_toInt hn] at h1
  omega
theorem pPl_in {n : Nat} {i : Int32} (hn : n < 2 ^ 31) (h0 : ¬ i < 0) (h : ¬ nI n ≤ i) : pPl n i := by
  have h1 : 0 ≤ i := Int32.not_lt.mp h0
  have h2 := Jvm.Kit.i32_nonneg.mp h1
  refine ⟨h2, ?_⟩
  apply Decidable.byContradiction
  intro q
  apply h
  apply Int32.le_iff_toInt_le.mpr
  rw [nI_toInt hn]
  omega
theorem pPl_ix {n : Nat} {i : Int32} (h : pPl n i) : i = nI (pIx i) ∧ pIx i < n := by
  have h2 : pIx i < n := by unfold pIx; omega
  refine ⟨?_, h2⟩
  apply Int32.toInt_inj.mp
  have h3 := Int32.toInt_lt i
  rw [nI_toInt (by unfold pIx; omega)]
  unfold pIx
  omega
theorem pIx_nI {j : Nat} (h : j < 2 ^ 31) : pIx (nI j) = j := by
  unfold pIx
  rw [nI_toInt h]
  omega
theorem pPl_nI {n j : Nat} (h : j < 2 ^ 31) : pPl n (nI j) ↔ j < n := by
  unfold pPl
  rw [nI_toInt h]
  omega
theorem pRed_nI {P x : Nat} (h : x < 2 ^ 31) : pRed P (nI x) = x % P := by
  unfold pRed
  rw [nI_toInt h]
  exact Int.toNat_natCast (x % P)
/-- the generator's number behind k draws -/
def pGn (g : Nat) : Nat → Nat
  | 0 => g
  | k + 1 => pGen (pGn g k)
theorem pGn_lt {g : Nat} (h : g < 2 ^ 31) : ∀ k, pGn g k < 2 ^ 31
  | 0 => h
  | _ + 1 => pGen_lt _
def pCh (P g i : Nat) : Nat := pGn g (i + 1) / 65536 % P
theorem pCh_lt {P : Nat} (h : 0 < P) (g i : Nat) : pCh P g i < P := Nat.mod_lt _ h
theorem pCh_eq (P g i : Nat) : pRed P (nI (pGen (pGn g i) / 65536)) = pCh P g i := by
  have h := pGen_lt (pGn g i)
  rw [pRed_nI (by omega)]
  rfl
/-- a sum of products -/
def pDot (P : Nat) (u v : Nat → Nat) : Nat → Nat
  | 0 => 0
  | i + 1 => (pDot P u v i + u i * v i) % P
theorem pDot_lt {P : Nat} (h : 0 < P) (u v : Nat → Nat) : ∀ i, pDot P u v i < P
  | 0 => h
  | _ + 1 => Nat.mod_lt _ h
/-- b, A b, A A b .. -/
def pVk (P : Nat) (rows cols vals : Nat → Nat) (held : Nat) (b : Nat → Nat) : Nat → Nat → Nat
  | 0 => b
  | k + 1 => pAcc P rows cols vals (pVk P rows cols vals held b k) held
theorem pVk_lt {P : Nat} (h : 0 < P) {rows cols vals : Nat → Nat} {held n : Nat} {b : Nat → Nat} (hb : ∀ j, j < n → b j < P) : ∀ k j, j < n → pVk P rows cols vals held b k j < P
  | 0, j, hj => hb j hj
  | _ + 1, j, _ => pAcc_lt h _ _ _ _ _ j
/-- the row -/
def pRow (P n : Nat) (rows cols vals : Nat → Nat) (held : Nat) (b : Nat → Nat) (g k : Nat) : Nat := pDot P (pCh P g) (pVk P rows cols vals held b k) n
theorem pRow_lt {P : Nat} (h : 0 < P) {n : Nat} {rows cols vals : Nat → Nat} {held : Nat} {b : Nat → Nat} {g k : Nat} : pRow P n rows cols vals held b g k < P := pDot_lt h _ _ n
/-- w on its way -/
def pWk (P : Nat) (rows cols vals : Nat → Nat) (held : Nat) (b C : Nat → Nat) : Nat → Nat → Nat
  | 0 => b
  | i + 1 => fun j => (pAcc P rows cols vals (pWk P rows cols vals held b C i) held j + C (i + 1) * b j) % P
theorem pWk_lt {P : Nat} (h : 0 < P) {rows cols vals : Nat → Nat} {held n : Nat} {b C : Nat → Nat} (hb : ∀ j, j < n → b j < P) : ∀ k j, j < n → pWk P rows cols vals held b C k j < P
  | 0, j, hj => hb j hj
  | _ + 1, _, _ => Nat.mod_lt _ h
def pCand (P : Nat) (rows cols vals : Nat → Nat) (held : Nat) (b C : Nat → Nat) (L : Nat) : Nat → Nat := fun j => if L = 0 then 0 else (0 + pWk P rows cols vals held b C (L - 1) j * pInv P (pNeg P (C L))) % P
theorem pCand_lt {P : Nat} (h : 0 < P) {rows cols vals : Nat → Nat} {held : Nat} {b C : Nat → Nat} {L j : Nat} : pCand P rows cols vals held b C L j < P := by
  unfold pCand
  split
  · exact h
  · exact Nat.mod_lt _ h
/-- whether A times it is b -/
abbrev pHolds (P n : Nat) (rows cols vals : Nat → Nat) (held : Nat) (b x : Nat → Nat) : Prop := ∀ j, j < n → pAcc P rows cols vals x held j = b j
def pOK (P n room held : Nat) (rows cols vals b : Nat → Nat) : Prop := 2 ≤ P ∧ P ≤ 46337 ∧ 1 ≤ n ∧ n ≤ 16 ∧ room ≤ 100 ∧ held ≤ room ∧ (∀ i, i < held → rows i < n) ∧ (∀ i, i < held → cols i < n) ∧ (∀ i, i < held → vals i < P) ∧ (∀ j, j < n → b j < P)
theorem lt_upf {x y : Nat → Nat} {i : Nat} (h : ∀ j, j < i → x j = y j) : ∀ j, j < i + 1 → va_up x i (y i) j = y j := by
  intro j hj
  by_cases e9 : j = i
  · rw [e9, up_self]
  · rw [up_ne e9]
    exact h j (by omega)
theorem lt_upg {x y z : Nat → Nat} {i : Nat} (h : ∀ j, x j = if j < i then y j else z j) : ∀ j, va_up x i (y i) j = if j < i + 1 then y j else z j := by
  intro j
  by_cases e9 : j = i
  · rw [e9, up_self, if_pos (by omega)]
  · rw [up_ne e9, h j]
    by_cases e8 : j < i
    · rw [if_pos e8, if_pos (by omega)]
    · rw [if_neg e8, if_neg (by omega)]
