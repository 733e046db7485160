/-! the pure model: numbers modulo P -/
def pRed (P : Nat) (v : Int32) : Nat := (v.toInt % (P : Int)).toNat
theorem pRed_lt {P : Nat} (h : 0 < P) (v : Int32) : pRed P v < P := by
  have h1 := Int.emod_nonneg v.toInt (b := (P : Int)) (by omega)
  have h2 := Int.emod_lt_of_pos v.toInt (b := (P : Int)) (by omega)
  unfold pRed
  omega
theorem em_char {v x q P : Int} (h : v = x + P * q) (h0 : 0 ≤ x) (h1 : x < P) : v % P = x := by
  rw [h, Int.add_mul_emod_self_left]
  exact Int.emod_eq_of_lt h0 h1
theorem red_pos {P : Nat} (h0 : 0 < P) (h1 : P < 2 ^ 31) {v : Int32} (h : 0 ≤ v - v / nI P * nI P) : v - v / nI P * nI P = nI (pRed P v) := by
  have hm := rem_toInt v (nI P)
  have hp : (nI P).toInt = (P : Int) := nI_toInt h1
  rw [hp] at hm
  have hb := tmod_bounds (a := v.toInt) (M := (P : Int)) (by omega)
  have hn : 0 ≤ v.toInt.tmod P := by rw [← hm]; exact Jvm.Kit.i32_nonneg.mp h
  have hv := Int.tmod_add_mul_tdiv v.toInt (P : Int)
  have e := em_char (v := v.toInt) (x := v.toInt.tmod P) (q := v.toInt.tdiv P) (P := P) hv.symm hn hb.2
  apply Int32.toInt_inj.mp
  have hlt := pRed_lt h0 v
  rw [hm, nI_toInt (by omega)]
  unfold pRed
  rw [e]
  omega
theorem red_neg {P : Nat} (h0 : 0 < P) (h1 : P < 2 ^ 31) {v : Int32} (h : ¬ 0 ≤ v - v / nI P * nI P) : v - v / nI P * nI P + nI P = nI (pRed P v) := by
  have hm := rem_toInt v (nI P)
  have hp : (nI P).toInt = (P : Int) := nI_toInt h1
  rw [hp] at hm
  have hb := tmod_bounds (a := v.toInt) (M := (P : Int)) (by omega)
  have hn : ¬ 0 ≤ v.toInt.tmod P := by rw [← hm]; exact fun z => h (Jvm.Kit.i32_nonneg.mpr z)
  have hv := Int.tmod_add_mul_tdiv v.toInt (P : Int)
  have hq : v.toInt = (v.toInt.tmod P + P) + P * (v.toInt.tdiv P - 1) := by rw [Int.mul_sub, Int.mul_one]; omega
  have e := em_char hq (by omega) (by omega)
  apply Int32.toInt_inj.mp
  have hlt := pRed_lt h0 v
  rw [Jvm.Kit.i32_add (by rw [hm, hp]; omega) (by rw [hm, hp]; omega), hm, hp, nI_toInt (by omega)]
  unfold pRed
  rw [e]
  omega
def pNeg (P a : Nat) : Nat := if a = 0 then 0 else P - a
theorem pNeg_lt {P a : Nat} (h : 0 < P) : pNeg P a < P := by
  unfold pNeg
  split <;> omega
def pInv (P a : Nat) : Nat := a ^ (P - 2) % P
theorem pInv_lt {P a : Nat} (h : 0 < P) : pInv P a < P := Nat.mod_lt _ h
theorem pw_sq (P r s k : Nat) : (r * ((0 + s * s) % P) ^ k) % P = (r * s ^ (2 * k)) % P := by
  rw [Nat.zero_add, Nat.mul_mod, ← Nat.pow_mod, ← Nat.mul_mod, Nat.pow_mul, Nat.pow_two]
theorem pw_odd (P r s k : Nat) : (((0 + r * s) % P) * ((0 + s * s) % P) ^ k) % P = (r * s ^ (2 * k + 1)) % P := by
  rw [pw_sq, Nat.zero_add, Nat.mul_mod, Nat.mod_mod, ← Nat.mul_mod, Nat.pow_succ, Nat.mul_assoc, Nat.mul_comm s]
theorem mul_small {P a b : Nat} (hP : P ≤ 46337) (ha : a < P) (hb : b < P) : a * b < 2 ^ 32 := by
  have h1 : a * b ≤ 46337 * 46337 := Nat.mul_le_mul (by omega) (by omega)
  omega
/-- a cell of ints by another function that agrees on its places -/
theorem kd_swap {D : va_G} {cl : List vw_C} {A : Nat → Prop} {ws : va_W} {H : Heap} {a n : Nat} {cI : ClassId} {f g : Nat → Nat} (hP : va_P D cl ws H) (hD : va_D A ws) (k : Nat) (hk : ws[k]? = some (a, kd_ar cI n f)) (h : ∀ j, j < n → f j = g j) : va_P D cl (ws.set k (a, kd_ar cI n g)) H ∧ va_D A (ws.set k (a, kd_ar cI n g)) := by
  have h1 : H[a]? = some (arrV cI n (fun j => .int (nI (f j)))) := hP k _ hk
  have h2 : arrV cI n (fun j => .int (nI (f j))) = arrV cI n (fun j => .int (nI (g j))) := by
    unfold arrV
    congr 1
    apply Array.ext
    · simp
    · intro i hi _
      simp only [Array.getElem_ofFn]
      rw [h i (by simpa using hi)]
  exact ⟨hP.set hD hk (show H[a]? = some (arrV cI n (fun j => .int (nI (g j)))) by rw [h1, h2]) (fun _ _ => rfl), hD.set hk⟩
theorem kd_swapL {D : va_G} {cl : List vw_C} {A : Nat → Prop} {ws : va_W} {H : Heap} {a n : Nat} {cJ : ClassId} {f g : Nat → Nat} (hP : va_P D cl ws H) (hD : va_D A ws) (k : Nat) (hk : ws[k]? = some (a, kd_al cJ n f)) (h : ∀ j, j < n → f j = g j) : va_P D cl (ws.set k (a, kd_al cJ n g)) H ∧ va_D A (ws.set k (a, kd_al cJ n g)) := by
  have h1 : H[a]? = some (arrV cJ n (fun j => .long (lN (f j)))) := hP k _ hk
  have h2 : arrV cJ n (fun j => .long (lN (f j))) = arrV cJ n (fun j => .long (lN (g j))) := by
    unfold arrV
    congr 1
    apply Array.ext
    · simp
    · intro i hi _
      simp only [Array.getElem_ofFn]
      rw [h i (by simpa using hi)]
  exact ⟨hP.set hD hk (show H[a]? = some (arrV cJ n (fun j => .long (lN (g j)))) by rw [h1, h2]) (fun _ _ => rfl), hD.set hk⟩
theorem up_self {f : Nat → Nat} {k x : Nat} : va_up f k x k = x := if_pos rfl
theorem up_ne {f : Nat → Nat} {k x j : Nat} (h : j ≠ k) : va_up f k x j = f j := if_neg h
theorem cpy_all {f g : Nat → Nat} {n j : Nat} (h : j < n) : va_cpy f g 0 0 n j = f j := by
  unfold va_cpy
  rw [if_pos ⟨Nat.zero_le _, by omega⟩]
  congr 1
  omega
def pSeed (v : Int32) : Nat := v.toBitVec.toNat % 2 ^ 31
theorem pSeed_eq (v : Int32) : v &&& nI 2147483647 = nI (pSeed v) := pk_and v 31 (by decide)
theorem pSeed_lt (v : Int32) : pSeed v < 2 ^ 31 := Nat.mod_lt _ (by decide)
def pGen (g : Nat) : Nat := (1103515245 * g + 12345) % 2 ^ 31
theorem pGen_lt (g : Nat) : pGen g < 2 ^ 31 := Nat.mod_lt _ (by decide)
theorem pGen_eq (g : Nat) : nI (1103515245 * g + 12345) &&& nI 2147483647 = nI (pGen g) := by
  rw [pk_and _ (m := nI 2147483647) 31 (by decide)]
  have h : (nI (1103515245 * g + 12345)).toBitVec.toNat = (1103515245 * g + 12345) % 2 ^ 32 := by
    show (BitVec.ofNat 32 _).toNat = _
    exact BitVec.toNat_ofNat _ _
  rw [h]
  have e : (1103515245 * g + 12345) % 2 ^ 32 % 2 ^ 31 = pGen g := by
    unfold pGen
    omega
  rw [e]
/-- the sums of a product: entry by entry, as they came -/
def pAcc (P : Nat) (rows cols vals vec : Nat → Nat) : Nat → Nat → Nat
  | 0 => fun _ => 0
  | i + 1 => va_up (pAcc P rows cols vals vec i) (rows i) ((pAcc P rows cols vals vec i (rows i) + vals i * vec (cols i)) % P)
theorem pAcc_lt {P : Nat} (h : 0 < P) (rows cols vals vec : Nat → Nat) : ∀ i j, pAcc P rows cols vals vec i j < P
  | 0, _ => h
  | i + 1, j => by
    unfold pAcc va_up
    split
    · exact Nat.mod_lt _ h
    · exact pAcc_lt h rows cols vals vec i j
theorem lt_up {x : Nat → Nat} {i v : Nat} (h : ∀ j, j < i → x j = v) : ∀ j, j < i + 1 → va_up x i v j = v := by
  intro j hj
  by_cases e9 : j = i
  · rw [e9, up_self]
  · rw [up_ne e9]
    exact h j (by omega)
def pB (c : Prop) [Decidable c] : Nat := if c then 1 else 0
theorem pB_01 (c : Prop) [Decidable c] : nI (pB c) = 0 ∨ nI (pB c) = 1 := by
  unfold pB
  split
  · exact Or.inr (by decide)
  · exact Or.inl nI_0
theorem pB_t {c : Prop} [Decidable c] (h : c) : pB c = 1 := if_pos h
theorem pB_f {c : Prop} [Decidable c] (h : ¬ c) : pB c = 0 := if_neg h
theorem pB_lt (c : Prop) [Decidable c] : pB c < 2 := by
  unfold pB
  split <;> omega
