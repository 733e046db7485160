/-! the pure model: an attempt, several attempts, what the calls tell -/
section PS
variable (P n : Nat) (rows cols vals : Nat → Nat) (held : Nat) (b : Nat → Nat)
/-- the recurrence of the row that the generator's number g gives -/
abbrev pRec (g : Nat) : pZ := pBM P (pRow P n rows cols vals held b g) (2 * n)
abbrev pAtCn (g : Nat) : Prop := 0 < (pRec P n rows cols vals held b g).2.2.1 ∧ (pRec P n rows cols vals held b g).1 (pRec P n rows cols vals held b g).2.2.1 = 0
abbrev pAtCa (g : Nat) : Nat → Nat := pCand P rows cols vals held b (pRec P n rows cols vals held b g).1 (pRec P n rows cols vals held b g).2.2.1
def pAtAns (g : Nat) : Nat := if pAtCn P n rows cols vals held b g then 3 else if pHolds P n rows cols vals held b (pAtCa P n rows cols vals held b g) then 0 else 4
def pAtSs (g : Nat) : Nat := if pAtCn P n rows cols vals held b g then 0 else pB (pHolds P n rows cols vals held b (pAtCa P n rows cols vals held b g))
def pAtProd (g prod : Nat) : Nat := if pAtCn P n rows cols vals held b g then prod + (2 * n - 1) else prod + (2 * n - 1) + ((pRec P n rows cols vals held b g).2.2.1 - 1) + 1
def pAtAn (g : Nat) (an : Nat → Nat) : Nat → Nat := if pAtCn P n rows cols vals held b g then an else pAtCa P n rows cols vals held b g
/-- k attempts -/
def sG (g : Nat) : Nat → Nat
  | 0 => g
  | k + 1 => pGn (sG g k) n
def sProd (g prod : Nat) : Nat → Nat
  | 0 => prod
  | k + 1 => pAtProd P n rows cols vals held b (sG n g k) (sProd g prod k)
def sAn (g : Nat) (an : Nat → Nat) : Nat → Nat → Nat
  | 0 => an
  | k + 1 => pAtAn P n rows cols vals held b (sG n g k) (sAn g an k)
def sNu (g : Nat) (nu : Nat → Nat) : Nat → Nat → Nat
  | 0 => nu
  | k + 1 => pRow P n rows cols vals held b (sG n g k)
def sC (g : Nat) (C : Nat → Nat) : Nat → Nat → Nat
  | 0 => C
  | k + 1 => (pRec P n rows cols vals held b (sG n g k)).1
def sL (g L : Nat) : Nat → Nat
  | 0 => L
  | k + 1 => (pRec P n rows cols vals held b (sG n g k)).2.2.1
def sSs (g ss : Nat) : Nat → Nat
  | 0 => ss
  | k + 1 => pAtSs P n rows cols vals held b (sG n g k)
def sTold (g : Nat) : Nat → Nat
  | 0 => 5
  | k + 1 => pAtAns P n rows cols vals held b (sG n g k)
end PS
def sRs (rs : Nat) : Nat → Nat
  | 0 => rs
  | _ + 1 => 1
/-- how many attempts are made, with f left and k made already, where a k is what attempt k tells -/
def pTry (a : Nat → Nat) : Nat → Nat → Nat
  | 0, k => k
  | f + 1, k => if a k = 0 then k + 1 else pTry a f (k + 1)
abbrev pMost (i : Int32) : Prop := 1 ≤ i.toInt ∧ i.toInt ≤ 50
def pTries (P n : Nat) (rows cols vals : Nat → Nat) (held : Nat) (b : Nat → Nat) (g : Nat) (most : Int32) : Nat := if pMost most then pTry (fun k => pAtAns P n rows cols vals held b (sG n g k)) (pIx most) 0 else 0
def pSol (n ss : Nat) (an : Nat → Nat) (i : Int32) : Int32 := if ¬ ss = 0 ∧ pPl n i then nI (an (pIx i)) else -1
def pDeg (rs L : Nat) : Int32 := if rs = 0 then -1 else nI L
def pCoef (rs L : Nat) (C : Nat → Nat) (i : Int32) : Int32 := if ¬ rs = 0 ∧ pPl (L + 1) i then nI (C (L - pIx i)) else -1
def pNum (n rs : Nat) (nu : Nat → Nat) (i : Int32) : Int32 := if ¬ rs = 0 ∧ pPl (2 * n) i then nI (nu (pIx i)) else -1
def pCount (P n held g att : Nat) (i : Int32) : Int32 := if i = 0 then nI P else if i = 1 then nI n else if i = 2 then nI held else if i = 3 then nI g else if i = 4 then nI att else -1
abbrev pOkE (n room held : Nat) (r c : Int32) : Prop := (pPl n r ∧ pPl n c) ∧ held < room
def pEntry (n room held : Nat) (r c : Int32) : Nat := if pPl n r ∧ pPl n c then if held < room then 0 else 2 else 1
theorem pB_nar (c : Prop) [Decidable c] : narrow .boolean (.int (nI (pB c))) = .int (nI (pB c)) := by
  rcases pB_01 c with h | h <;> rw [h] <;> rfl
theorem pB_fit (c : Prop) [Decidable c] : fits .boolean (.int (nI (pB c))) = true := by
  rcases pB_01 c with h | h <;> rw [h] <;> rfl
theorem pB_e0 {c : Prop} [Decidable c] (h : pB c = 0) : ¬ c := by
  intro q
  rw [pB_t q] at h
  omega
theorem pB_e1 {c : Prop} [Decidable c] (h : ¬ pB c = 0) : c := by
  apply Decidable.byContradiction
  intro q
  exact h (pB_f q)
section PA
variable {P n : Nat} {rows cols vals : Nat → Nat} {held : Nat} {b : Nat → Nat} {g : Nat}
theorem pAt_c (h : pAtCn P n rows cols vals held b g) : pAtAns P n rows cols vals held b g = 3 ∧ pAtSs P n rows cols vals held b g = 0 ∧ (∀ prod, pAtProd P n rows cols vals held b g prod = prod + (2 * n - 1)) ∧ ∀ an, pAtAn P n rows cols vals held b g an = an := ⟨if_pos h, if_pos h, fun _ => if_pos h, fun _ => if_pos h⟩
theorem pAt_n (h : ¬ pAtCn P n rows cols vals held b g) : pAtAns P n rows cols vals held b g = (if pHolds P n rows cols vals held b (pAtCa P n rows cols vals held b g) then 0 else 4) ∧ pAtSs P n rows cols vals held b g = pB (pHolds P n rows cols vals held b (pAtCa P n rows cols vals held b g)) ∧ (∀ prod, pAtProd P n rows cols vals held b g prod = prod + (2 * n - 1) + ((pRec P n rows cols vals held b g).2.2.1 - 1) + 1) ∧ ∀ an, pAtAn P n rows cols vals held b g an = pAtCa P n rows cols vals held b g := ⟨if_neg h, if_neg h, fun _ => if_neg h, fun _ => if_neg h⟩
theorem pAtAns_lt : pAtAns P n rows cols vals held b g < 5 := by
  unfold pAtAns
  split
  · omega
  · split <;> omega
theorem pAtAn_lt (h : 0 < P) {an : Nat → Nat} {m : Nat} (ha : ∀ j, j < m → an j < P) : ∀ j, j < m → pAtAn P n rows cols vals held b g an j < P := by
  intro j hj
  unfold pAtAn
  split
  · exact ha j hj
  · exact pCand_lt h
theorem sAn_lt (h : 0 < P) {an : Nat → Nat} {m : Nat} (ha : ∀ j, j < m → an j < P) : ∀ k j, j < m → sAn P n rows cols vals held b g an k j < P
  | 0, j, hj => ha j hj
  | k + 1, j, hj => pAtAn_lt h (sAn_lt h ha k) j hj
theorem sG_lt (h : g < 2 ^ 31) : ∀ k, sG n g k < 2 ^ 31
  | 0 => h
  | k + 1 => pGn_lt (sG_lt h k) n
theorem sTold_lt : ∀ k, sTold P n rows cols vals held b g k < 6
  | 0 => by show 5 < 6; omega
  | k + 1 => by
    have := pAtAns_lt (P := P) (n := n) (rows := rows) (cols := cols) (vals := vals) (held := held) (b := b) (g := sG n g k)
    show pAtAns P n rows cols vals held b (sG n g k) < 6
    omega
end PA
theorem pRec_ok {P n : Nat} (hP : 2 ≤ P) (rows cols vals : Nat → Nat) (held : Nat) (b : Nat → Nat) (g : Nat) : pZok P (2 * n) (pRec P n rows cols vals held b g) := pBM_ok hP (2 * n) (fun _ _ => pRow_lt (by omega))
/-- attempts on their way: k are made, what comes is what the whole count says -/
def pTryAt (told : Nat → Nat) (mo k : Nat) : Prop := pTry (fun j => told (j + 1)) mo 0 = if told k = 0 then k else pTry (fun j => told (j + 1)) (mo - k) k
theorem pTryAt_0 {P n : Nat} {rows cols vals : Nat → Nat} {held : Nat} {b : Nat → Nat} {g mo : Nat} : pTryAt (sTold P n rows cols vals held b g) mo 0 := by
  unfold pTryAt
  rw [if_neg (show ¬ sTold P n rows cols vals held b g 0 = 0 by show ¬ 5 = 0; omega)]
  rfl
theorem pTry_step {told : Nat → Nat} {mo k : Nat} (h : pTryAt told mo k) (hk : k < mo) (h0 : ¬ told k = 0) (_ : k ≤ mo) : pTryAt told mo (k + 1) := by
  unfold pTryAt at h ⊢
  rw [h, if_neg h0, show mo - k = (mo - (k + 1)) + 1 by omega]
  rfl
theorem pMost_lo {i : Int32} (h : i < nI 1) : ¬ pMost i := by
  intro q
  have h1 := Int32.lt_iff_toInt_lt.mp h
  rw [nI_toInt (by omega)] at h1
  have := q.1
  omega
theorem pMost_hi {i : Int32} (h : ¬ i ≤ nI 50) : ¬ pMost i := by
  intro q
  apply h
  apply Int32.le_iff_toInt_le.mpr
  rw [nI_toInt (by omega)]
  exact q.2
theorem pMost_in {i : Int32} (h : ¬ i < nI 1) (h2 : i ≤ nI 50) : pMost i ∧ ∃ mo : Nat, 1 ≤ mo ∧ mo ≤ 50 ∧ i = nI mo := by
  have h1 : ¬ i.toInt < 1 := fun q => h (Int32.lt_iff_toInt_lt.mpr (by rw [nI_toInt (by omega)]; exact q))
  have h3 := Int32.le_iff_toInt_le.mp h2
  rw [nI_toInt (by omega)] at h3
  refine ⟨⟨by omega, h3⟩, i.toInt.toNat, by omega, by omega, ?_⟩
  apply Int32.toInt_inj.mp
  rw [nI_toInt (by omega)]
  omega
theorem pTries_end {P n : Nat} {rows cols vals : Nat → Nat} {held : Nat} {b : Nat → Nat} {g mo k : Nat} (h : pMost (nI mo)) (h1 : mo ≤ 50) (h2 : k ≤ mo) (h3 : pTryAt (sTold P n rows cols vals held b g) mo k) (h4 : k = mo ∨ sTold P n rows cols vals held b g k = 0) : pTries P n rows cols vals held b g (nI mo) = k := by
  unfold pTries
  rw [if_pos h, pIx_nI (by omega)]
  unfold pTryAt at h3
  refine Eq.trans h3 ?_
  by_cases e : sTold P n rows cols vals held b g k = 0
  · rw [if_pos e]
  · rcases h4 with h4 | h4
    · rw [if_neg e, h4, Nat.sub_self]
      rfl
    · exact absurd h4 e
theorem pPl_le {L : Nat} {i : Int32} (hn : L + 1 < 2 ^ 31) (h0 : ¬ i < 0) (h : i ≤ nI L) : pPl (L + 1) i := by
  have h2 := Jvm.Kit.i32_nonneg.mp (Int32.not_lt.mp h0)
  have h3 := Int32.le_iff_toInt_le.mp h
  rw [nI_toInt (by omega)] at h3
  exact ⟨h2, by omega⟩
theorem pPl_gt {L : Nat} {i : Int32} (hn : L + 1 < 2 ^ 31) (h : ¬ i ≤ nI L) : ¬ pPl (L + 1) i := by
  intro q
  apply h
  apply Int32.le_iff_toInt_le.mpr
  rw [nI_toInt (by omega)]
  have := q.2
  omega
theorem kd_out4 {i : Int32} (h0 : ¬ i = 0) (h1 : ¬ i = 1) (h2 : ¬ i = 2) (h3 : ¬ i = 3) (h4 : ¬ i = 4) : i.toInt < 0 ∨ 4 < i.toInt := by
  apply Decidable.byContradiction
  intro q
  have a0 : i.toInt ≠ 0 := fun z => h0 (Int32.toInt_inj.mp z)
  have a1 : i.toInt ≠ 1 := fun z => h1 (Int32.toInt_inj.mp z)
  have a2 : i.toInt ≠ 2 := fun z => h2 (Int32.toInt_inj.mp z)
  have a3 : i.toInt ≠ 3 := fun z => h3 (Int32.toInt_inj.mp z)
  have a4 : i.toInt ≠ 4 := fun z => h4 (Int32.toInt_inj.mp z)
  omega
