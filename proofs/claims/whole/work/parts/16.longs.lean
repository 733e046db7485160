/-! for the reference: longs, rows that are longer than what is used of them, powers from the highest bit on -/
def pRedL (P : Nat) (v : Int64) : Nat := (v.toInt % (P : Int)).toNat
theorem pRedL_lt {P : Nat} (h : 0 < P) (v : Int64) : pRedL P v < P := by
  have h1 := Int.emod_nonneg v.toInt (b := (P : Int)) (by omega)
  have h2 := Int.emod_lt_of_pos v.toInt (b := (P : Int)) (by omega)
  unfold pRedL
  omega
theorem lrem_i {P : Nat} (h0 : 0 < P) (h1 : P ≤ 46337) {v : Int64} (hv : -2 ^ 40 ≤ v.toInt) (hw : v.toInt < 2 ^ 40) : (v - v / lN P * lN P).toInt = v.toInt.tmod P := by
  have hp : (lN P).toInt = (P : Int) := pk_lT (by omega)
  have hb := tmod_bounds (a := v.toInt) (M := (P : Int)) (by omega)
  have hq := Int.tmod_add_mul_tdiv v.toInt (P : Int)
  have hd : (v / lN P).toInt = v.toInt.tdiv P := by rw [Jvm.Kit.i64_div (by rw [hp]; omega), hp]
  have hc := Int.mul_comm (P : Int) (v.toInt.tdiv P)
  have hm : (v / lN P * lN P).toInt = v.toInt.tdiv P * P := by rw [Jvm.Kit.i64_mul (by rw [hd, hp]; omega) (by rw [hd, hp]; omega), hd, hp]
  rw [Jvm.Kit.i64_sub (by rw [hm]; omega) (by rw [hm]; omega), hm]
  omega
theorem redL_pos {P : Nat} (h0 : 0 < P) (h1 : P ≤ 46337) {v : Int64} (hv : -2 ^ 40 ≤ v.toInt) (hw : v.toInt < 2 ^ 40) (h : lN 0 ≤ v - v / lN P * lN P) : v - v / lN P * lN P = lN (pRedL P v) := by
  have hm := lrem_i h0 h1 hv hw
  have hb := tmod_bounds (a := v.toInt) (M := (P : Int)) (by omega)
  have hn : 0 ≤ v.toInt.tmod P := by
    have := Int64.le_iff_toInt_le.mp h
    rw [hm, pk_lT (by omega)] at this
    exact this
  have hv2 := Int.tmod_add_mul_tdiv v.toInt (P : Int)
  have e := em_char (v := v.toInt) (x := v.toInt.tmod P) (q := v.toInt.tdiv P) (P := P) hv2.symm hn hb.2
  apply Int64.toInt_inj.mp
  have hlt := pRedL_lt h0 v
  rw [hm, pk_lT (by omega)]
  unfold pRedL
  rw [e]
  omega
theorem redL_neg {P : Nat} (h0 : 0 < P) (h1 : P ≤ 46337) {v : Int64} (hv : -2 ^ 40 ≤ v.toInt) (hw : v.toInt < 2 ^ 40) (h : ¬ lN 0 ≤ v - v / lN P * lN P) : v - v / lN P * lN P + lN P = lN (pRedL P v) := by
  have hm := lrem_i h0 h1 hv hw
  have hp : (lN P).toInt = (P : Int) := pk_lT (by omega)
  have hb := tmod_bounds (a := v.toInt) (M := (P : Int)) (by omega)
  have hn : ¬ 0 ≤ v.toInt.tmod P := by
    intro z
    apply h
    apply Int64.le_iff_toInt_le.mpr
    rw [hm, pk_lT (by omega)]
    exact z
  have hv2 := Int.tmod_add_mul_tdiv v.toInt (P : Int)
  have hq : v.toInt = (v.toInt.tmod P + P) + P * (v.toInt.tdiv P - 1) := by rw [Int.mul_sub, Int.mul_one]; omega
  have e := em_char hq (by omega) (by omega)
  apply Int64.toInt_inj.mp
  have hlt := pRedL_lt h0 v
  rw [Jvm.Kit.i64_add (by rw [hm, hp]; omega) (by rw [hm, hp]; omega), hm, hp, pk_lT (by omega)]
  unfold pRedL
  rw [e]
  omega
theorem pRedL_int (P : Nat) (v : Int32) : pRedL P v.toInt64 = pRed P v := by
  unfold pRedL pRed
  rw [Jvm.Kit.i64_of_i32]
theorem pNeg_eq {P f : Nat} (hf : f < P) : ((pNeg P f : Nat) : Int) = (if f = 0 then 0 else (P : Int) - f) := by
  unfold pNeg
  by_cases h : f = 0
  · rw [if_pos h, if_pos h]; rfl
  · rw [if_neg h, if_neg h]; omega
theorem pRedL_sub {P a f b : Nat} (h2 : P ≤ 46337) (ha : a < P) (hf : f < P) (hb : b < P) : pRedL P (lN a - lN (f * b)) = (a + pNeg P f * b) % P := by
  have hs := mul_small h2 hf hb
  have e1 : (lN a).toInt = (a : Int) := pk_lT (by omega)
  have e2 : (lN (f * b)).toInt = ((f * b : Nat) : Int) := pk_lT (by omega)
  unfold pRedL
  rw [Jvm.Kit.i64_sub (by rw [e1, e2]; omega) (by rw [e1, e2]; omega), e1, e2]
  have e3 : ((a : Int) - ((f * b : Nat) : Int)) % (P : Int) = (((a + pNeg P f * b : Nat) : Int)) % (P : Int) := by
    by_cases h : f = 0
    · subst h
      unfold pNeg
      rw [if_pos rfl, Nat.zero_mul]
      congr 1
    · unfold pNeg
      rw [if_neg h]
      have hx : ((a + (P - f) * b : Nat) : Int) = ((a : Int) - ((f * b : Nat) : Int)) + (P : Int) * (b : Int) := by
        have : ((P - f : Nat) : Int) = (P : Int) - f := by omega
        rw [Int.natCast_add, Int.natCast_mul, this, Int.sub_mul, Int.natCast_mul]
        omega
      rw [hx, Int.add_mul_emod_self_left]
  rw [e3]
  exact Int.toNat_natCast _
theorem pRedL_neg {P a : Nat} (h2 : P ≤ 46337) (ha : a < P) : pRedL P (-lN a) = pNeg P a := by
  have e1 : (lN a).toInt = (a : Int) := pk_lT (by omega)
  unfold pRedL pNeg
  rw [Jvm.Kit.i64_neg (by rw [e1]; omega), e1]
  by_cases h : a = 0
  · subst h
    rw [if_pos rfl]
    simp
  · rw [if_neg h, em_char (v := -(a : Int)) (x := (P : Int) - a) (q := -1) (P := P) (by omega) (by omega) (by omega)]
    omega
theorem sub_rng {P a f b : Nat} (h2 : P ≤ 46337) (ha : a < P) (hf : f < P) (hb : b < P) : -2 ^ 40 ≤ (lN a - lN (f * b)).toInt ∧ (lN a - lN (f * b)).toInt < 2 ^ 40 := by
  have hs := mul_small h2 hf hb
  have e1 : (lN a).toInt = (a : Int) := pk_lT (by omega)
  have e2 : (lN (f * b)).toInt = ((f * b : Nat) : Int) := pk_lT (by omega)
  rw [Jvm.Kit.i64_sub (by rw [e1, e2]; omega) (by rw [e1, e2]; omega), e1, e2]
  omega
theorem neg_rng {P a : Nat} (h2 : P ≤ 46337) (ha : a < P) : -2 ^ 40 ≤ (-lN a).toInt ∧ (-lN a).toInt < 2 ^ 40 := by
  have e1 : (lN a).toInt = (a : Int) := pk_lT (by omega)
  rw [Jvm.Kit.i64_neg (by rw [e1]; omega), e1]
  omega
theorem int_rng (v : Int32) : -2 ^ 40 ≤ v.toInt64.toInt ∧ v.toInt64.toInt < 2 ^ 40 := by
  rw [Jvm.Kit.i64_of_i32]
  have h1 := Int32.toInt_lt v
  have h2 := Int32.le_toInt v
  omega
/-- a row whose first m places are f -/
def pMix (m : Nat) (f x : Nat → Nat) : Nat → Nat := fun j => if j < m then f j else x j
theorem pMix_lt {m : Nat} {f x : Nat → Nat} {j : Nat} (h : j < m) : pMix m f x j = f j := if_pos h
theorem pMix_up {m : Nat} {f x : Nat → Nat} {k v : Nat} (h : k < m) (j : Nat) : va_up (pMix m f x) k v j = pMix m (va_up f k v) x j := by
  unfold pMix va_up
  by_cases e : j = k
  · rw [if_pos e, if_pos (by omega), if_pos e]
  · rw [if_neg e, if_neg e]
theorem pMix_of {m : Nat} {f x : Nat → Nat} (h : ∀ j, j < m → x j = f j) (j : Nat) : x j = pMix m f x j := by
  unfold pMix
  by_cases e : j < m
  · rw [if_pos e]; exact h j e
  · rw [if_neg e]
theorem pMix_eq {m : Nat} {f g x : Nat → Nat} (h : ∀ j, j < m → f j = g j) (j : Nat) : pMix m f x j = pMix m g x j := by
  unfold pMix
  by_cases e : j < m
  · rw [if_pos e, if_pos e]; exact h j e
  · rw [if_neg e, if_neg e]
/-- the bit that is next: one below b -/
def pBit (b : Nat) : Int32 := nI b - 1
theorem pBit_s (b : Nat) : pBit (b + 1) = nI b := nI_pred b
theorem pBit_30 : nI 30 = pBit 31 := (pBit_s 30).symm
theorem pBit_m (b : Nat) : nI b + Int32.ofInt (-1) = pBit b := by
  unfold pBit
  rw [Int32.sub_eq_add_neg]
  rfl
theorem pBit_0 {b : Nat} (h : b < 2 ^ 31) (h2 : pBit b < 0) : b = 0 := by
  rcases b with _ | b
  · rfl
  · rw [pBit_s] at h2
    exact absurd h2 (nI_pos (by omega))
theorem pBit_1 {b : Nat} (h2 : ¬ pBit b < 0) : ∃ x, b = x + 1 := by
  rcases b with _ | b
  · exact absurd (by decide) h2
  · exact ⟨b, rfl⟩
theorem sl_32 : ∀ n, n < 32 → ((nI n &&& 31).toBitVec.smod 32).toNat = n := by decide
theorem shr_eq {e0 b : Nat} (h : e0 < 2 ^ 31) (hb : b < 31) : nI e0 >>> (nI b &&& 31) = nI (e0 / 2 ^ b) := pk_shrN h _ b (sl_32 b (by omega))
theorem and1_eq {x : Nat} (h : x < 2 ^ 31) : nI x &&& nI 1 = nI (x % 2) := pk_andN (by omega) 1 (by decide)
theorem div_2 (e0 b : Nat) : e0 / 2 ^ (b + 1) = e0 / 2 ^ b / 2 := by rw [Nat.pow_succ, Nat.div_div_eq_div_mul]
theorem pow_0 {P a0 e0 b p0 : Nat} (h : p0 = a0 ^ (e0 / 2 ^ (b + 1)) % P) (hb : ¬ e0 / 2 ^ b % 2 = 1) : p0 * p0 % P = a0 ^ (e0 / 2 ^ b) % P := by
  rw [h, ← Nat.mul_mod, ← Nat.pow_add, div_2]
  congr 2
  omega
theorem pow_1 {P a0 e0 b p0 : Nat} (h : p0 = a0 ^ (e0 / 2 ^ (b + 1)) % P) (hb : e0 / 2 ^ b % 2 = 1) : p0 * p0 % P * a0 % P = a0 ^ (e0 / 2 ^ b) % P := by
  rw [h, ← Nat.mul_mod, ← Nat.pow_add, div_2, Nat.mod_mul_mod, ← Nat.pow_succ]
  congr 2
  omega
theorem pAcc_mix {P : Nat} {rows cols vals f x : Nat → Nat} {n : Nat} : ∀ i, (∀ k, k < i → cols k < n) → pAcc P rows cols vals (pMix n f x) i = pAcc P rows cols vals f i
  | 0, _ => rfl
  | i + 1, h => by
    unfold pAcc
    rw [pAcc_mix i (fun k hk => h k (by omega)), pMix_lt (h i (by omega))]
theorem pB_iff {c d : Prop} [Decidable c] [Decidable d] (h : c ↔ d) : pB c = pB d := by
  by_cases a : c
  · rw [pB_t a, pB_t (h.mp a)]
  · rw [pB_f a, pB_f (fun q => a (h.mpr q))]
theorem mix_end {f g x v : Nat → Nat} {n i j : Nat} (h : ∀ j, v j = if j < i then f j else pMix n g x j) (hi : i = n) : v j = pMix n f x j := by
  rw [h j, hi]
  unfold pMix
  by_cases e : j < n
  · rw [if_pos e, if_pos e]
  · rw [if_neg e, if_neg e, if_neg e]
theorem mix_end2 {f x v : Nat → Nat} {n i j : Nat} (h : ∀ j, v j = if j < i then f j else x j) (hi : i = n) : v j = pMix n f x j := by
  rw [h j, hi]
  rfl
theorem lt_upg2 {x y z : Nat → Nat} {i v : Nat} (hv : v = y i) (h : ∀ j, x j = if j < i then y j else z j) : ∀ j, va_up x i v j = if j < i + 1 then y j else z j := by
  subst hv
  exact lt_upg h
theorem lt_upf2 {x y : Nat → Nat} {i v : Nat} (hv : v = y i) (h : ∀ j, j < i → x j = y j) : ∀ j, j < i + 1 → va_up x i v j = y j := by
  subst hv
  exact lt_upf h
/-- what the reference keeps of the degree, behind k attempts -/
def sDg (P n : Nat) (rows cols vals : Nat → Nat) (held : Nat) (b : Nat → Nat) (g : Nat) (dg : Int32) : Nat → Int32
  | 0 => dg
  | k + 1 => nI (pRec P n rows cols vals held b (sG n g k)).2.2.1
theorem np_lt {k : Nat} (h : k ≤ 46337) (hp : ¬ pPrime k) : k < 46337 := by
  rcases Nat.lt_or_ge k 46337 with q | q
  · exact q
  · exact absurd (by rw [show k = 46337 by omega]; exact pPrime_last) hp
theorem pLeast_yes2 {c0 k : Nat} (h : pLeast (46337 - c0) c0 = pLeast (46337 - k) k) (hk : k ≤ 46337) (hp : pPrime k) : pLeast (46337 - c0) c0 = k := by
  rcases Nat.lt_or_ge k 46337 with q | q
  · exact pLeast_yes h q hp
  · rw [pLeast_end h (by omega)]
    omega
