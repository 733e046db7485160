/-! the pure model: the least prime not below; numbers brought within. A contract with a word on a nest mate. -/
abbrev pPrime (k : Nat) : Prop := ∀ d, d < 216 → 2 ≤ d → d * d ≤ k → ¬ k % d = 0
def pLeast : Nat → Nat → Nat
  | 0, k => k
  | f + 1, k => if pPrime k then k else pLeast f (k + 1)
theorem pLeast_in : ∀ f k, k ≤ pLeast f k ∧ pLeast f k ≤ k + f
  | 0, k => ⟨Nat.le_refl _, Nat.le_refl _⟩
  | f + 1, k => by
    unfold pLeast
    split
    · exact ⟨Nat.le_refl _, by omega⟩
    · have h := pLeast_in f (k + 1)
      omega
def pCl (lo hi : Nat) (v : Int32) : Nat := if v.toInt < (lo : Int) then lo else if (hi : Int) < v.toInt then hi else v.toInt.toNat
theorem pCl_in {lo hi : Nat} (h : lo ≤ hi) (v : Int32) : lo ≤ pCl lo hi v ∧ pCl lo hi v ≤ hi := by
  unfold pCl
  split
  · omega
  · split <;> omega
theorem pCl_lo {lo hi : Nat} {v : Int32} (hl : lo < 2 ^ 31) (h : v < nI lo) : pCl lo hi v = lo := by
  have h1 := Int32.lt_iff_toInt_lt.mp h
  rw [nI_toInt hl] at h1
  exact if_pos h1
theorem pCl_hi {lo hi : Nat} {v : Int32} (hl : lo ≤ hi) (hh : hi < 2 ^ 31) (h : nI hi < v) : pCl lo hi v = hi := by
  have h1 := Int32.lt_iff_toInt_lt.mp h
  rw [nI_toInt hh] at h1
  unfold pCl
  rw [if_neg (by omega), if_pos h1]
theorem pCl_mid {lo hi : Nat} {v : Int32} (hl : lo ≤ hi) (hh : hi < 2 ^ 31) (h : ¬ v < nI lo) (h2 : ¬ nI hi < v) : v = nI (pCl lo hi v) := by
  have h1 : ¬ v.toInt < (nI lo).toInt := fun q => h (Int32.lt_iff_toInt_lt.mpr q)
  have h3 : ¬ (nI hi).toInt < v.toInt := fun q => h2 (Int32.lt_iff_toInt_lt.mpr q)
  rw [nI_toInt (by omega)] at h1 h3
  unfold pCl
  rw [if_neg h1, if_neg h3]
  apply Int32.toInt_inj.mp
  rw [nI_toInt (by omega)]
  omega
theorem pCl_eq {lo hi : Nat} {v : Int32} (hl : lo ≤ hi) (hh : hi < 2 ^ 31) : (if nI lo < (if v < nI hi then v else nI hi) then (if v < nI hi then v else nI hi) else nI lo) = nI (pCl lo hi v) := by
  have e1 : (nI lo).toInt = lo := nI_toInt (by omega)
  have e2 : (nI hi).toInt = hi := nI_toInt hh
  by_cases a : v < nI hi
  · rw [if_pos a]
    have a1 := Int32.lt_iff_toInt_lt.mp a
    rw [e2] at a1
    by_cases b : nI lo < v
    · rw [if_pos b]
      have b1 := Int32.lt_iff_toInt_lt.mp b
      rw [e1] at b1
      exact pCl_mid hl hh (fun q => by have := Int32.lt_iff_toInt_lt.mp q; rw [e1] at this; omega) (fun q => by have := Int32.lt_iff_toInt_lt.mp q; rw [e2] at this; omega)
    · rw [if_neg b]
      have b1 : ¬ (nI lo).toInt < v.toInt := fun q => b (Int32.lt_iff_toInt_lt.mpr q)
      rw [e1] at b1
      by_cases d : v.toInt < (lo : Int)
      · unfold pCl
        rw [if_pos d]
      · unfold pCl
        rw [if_neg d, if_neg (by omega)]
        congr 1
        omega
  · rw [if_neg a]
    have a1 : ¬ v.toInt < (nI hi).toInt := fun q => a (Int32.lt_iff_toInt_lt.mpr q)
    rw [e2] at a1
    have hc : pCl lo hi v = hi := by
      unfold pCl
      rw [if_neg (by omega)]
      split <;> omega
    rw [hc]
    by_cases b : nI lo < nI hi
    · rw [if_pos b]
    · rw [if_neg b]
      have b1 : ¬ (nI lo).toInt < (nI hi).toInt := fun q => b (Int32.lt_iff_toInt_lt.mpr q)
      rw [e1, e2] at b1
      congr 1
      omega
theorem max2 {P : Nat} (h : 2 ≤ P) (h2 : P < 2 ^ 31) : (if nI 2 < nI P then nI P else nI 2) = nI P := by
  by_cases a : nI 2 < nI P
  · rw [if_pos a]
  · rw [if_neg a]
    have h3 : ¬ 2 < P := fun q => a (nI_lt (a := 2) (b := P) q h2)
    congr 1
    omega
theorem max0 {x : Nat} (h2 : x < 2 ^ 31) : (if nI 0 < nI x then nI x else nI 0) = nI x := by
  by_cases a : nI 0 < nI x
  · rw [if_pos a]
  · rw [if_neg a]
    have h3 : ¬ 0 < x := fun q => a (nI_lt (a := 0) (b := x) q h2)
    congr 1
    omega
def pPr (v : Int32) : Nat := pLeast (46337 - pCl 2 46337 v) (pCl 2 46337 v)
theorem pPr_in (v : Int32) : 2 ≤ pPr v ∧ pPr v ≤ 46337 := by
  have h := pCl_in (lo := 2) (hi := 46337) (by omega) v
  have h2 := pLeast_in (46337 - pCl 2 46337 v) (pCl 2 46337 v)
  unfold pPr
  omega
theorem sq_lt {d k : Nat} (h : d ≤ 216) (h2 : d * d ≤ k) (h3 : k ≤ 46337) : d < 216 := by
  rcases Nat.lt_or_ge d 216 with q | q
  · exact q
  · have e : d = 216 := by omega
    subst e
    omega
theorem sq_b {d : Nat} (h : d ≤ 216) : d * d < 2 ^ 31 := by
  have h1 : d * d ≤ 216 * 216 := Nat.mul_le_mul h h
  omega
theorem pPrime_end {d k : Nat} (h : k < d * d) (h2 : ∀ x, x < d → 2 ≤ x → ¬ k % x = 0) : pPrime k := by
  intro x _ hx2 hx3
  apply h2 x _ hx2
  apply Decidable.byContradiction
  intro q
  have h4 : d * d ≤ x * x := Nat.mul_le_mul (by omega) (by omega)
  omega
set_option maxRecDepth 100000 in
theorem pPrime_last : pPrime 46337 := by decide +kernel
theorem pLeast_yes {c0 k : Nat} (h : pLeast (46337 - c0) c0 = pLeast (46337 - k) k) (hk : k < 46337) (hp : pPrime k) : pLeast (46337 - c0) c0 = k := by
  rw [h, show 46337 - k = (46337 - (k + 1)) + 1 by omega]
  exact if_pos hp
theorem pLeast_no {c0 k : Nat} (h : pLeast (46337 - c0) c0 = pLeast (46337 - k) k) (hk : k < 46337) (hp : ¬ pPrime k) : pLeast (46337 - c0) c0 = pLeast (46337 - (k + 1)) (k + 1) := by
  rw [h, show 46337 - k = (46337 - (k + 1)) + 1 by omega]
  exact if_neg hp
theorem pLeast_end {c0 k : Nat} (h : pLeast (46337 - c0) c0 = pLeast (46337 - k) k) (hk : k = 46337) : pLeast (46337 - c0) c0 = 46337 := by
  rw [h, hk]
  rfl
def kd_MVn {S : Type} (wN : Cond) (l : Launch) (y : MethodName) (ws : List Cond) (rm : Room) (av : List Value) (D : va_G) (cl : List vw_C) (cI cJ : ClassId) (W0 : va_W) (W1 : S → va_W) (mc ms : Nat) : Prop :=
  ∀ sz : Nat, Met l y ws rm (va_Pc av (fun U => kd_pre D cl cI cJ sz W0 U ∧ va_Nw wN U)) (kd_QV D cl cI cJ W1 (va_A W0 sz)) mc ms (va_A W0 sz)
theorem kd_enterVn {l : Launch} {y : MethodName} {ws ws' : List Cond} {rm : Room} {cc : ByteArray} {maxL : Nat} {av : List Value} {D : va_G} {cl : List vw_C} {cI cJ : ClassId} {W0 : va_W} {mc ms : Nat} {wN : Cond} {S : Type} {W1 : S → va_W} (hy : plainName y.cls = true) (hw : ws = Cond.code y cc maxL none :: ws') (hlen : (lg_sl av).length ≤ maxL)
    (k : ∀ (p : Program) (e : Env) (s : State) (m : MethodId) (args : Array Value) (below : List Frame) (meth : Method) (c : Code) (A : Nat → Prop) (ls : Array Slot) (Q : State → Prop), p.tables.exec = Jvm.exec → c.code = cc → meth.sig.returnType = none → (∀ w ∈ ws, w.before args s = true) → s.vm.findClass y.cls = some m.cls → meth.locks = false → meth.name = y.name → c.maxLocals = maxL →
      va_P D cl W0 s.heap → va_K D cl (kd_T cI cJ) s → va_D A W0 → (∀ q, s.heap.size ≤ q → A q) → va_S A s.heap s.heap [] → lv_has ls maxL (lv_args 0 av) → va_Nw wN s →
      (∀ (u : S) (H : Heap) (locs : List Loc) (pc : Nat) (ls : Array Slot), decode cc pc = .ok (.return_, 1) → va_S A s.heap H locs → va_P D cl (W1 u) H → va_D A (W1 u) → W p l e rm s m args below meth c H locs mc ms Q (F0 m pc ls [])) → W p l e rm s m args below meth c s.heap [] 0 0 Q (F0 m 0 ls [])) :
    kd_MVn wN l y ws rm av D cl cI cJ W0 W1 mc ms := by
  intro sz
  refine Met.ofW (cc := cc) (maxL := maxL) (ret := none) hy hw ?_
  intro p e s m args below meth c s₁ B hml hv
  obtain ⟨rfl, ⟨hsz, hP, hK, hD0⟩, hN⟩ := hv
  subst hsz
  have hl := lv_entry av (n := maxL) hlen
  rw [lg_entry_eq]
  refine k p e s m av.toArray below meth c (va_A W0 s.heap.size) _ _ B.exec B.bytes B.returns (atoms_spec (ws := ws) B.pre) (findClass_of_methodNamed B.named) B.notSynchronized (name_of_methodNamed B.named B.method).1 hml hP hK hD0.self (fun q h => Or.inr h) va_S.rf hl hN ?_
  intro u H locs pc ls hd hS hP hD
  exact W.vret B.exec B.bytes B.returns (fun t ht hW => ⟨⟨u, rfl, trivial, by rw [ht]; exact hP, va_K.moved hW.alike hK, hD⟩, hS.F ht⟩) hS.2.2 hd B.notSynchronized
theorem kd_blindN {av : List Value} {D : va_G} {cl : List vw_C} {cI cJ : ClassId} {sz : Nat} {W0 : va_W} {a : String} {i : Nat} {x : MethodName} {h : String} : FrameBlind (va_Pc av (fun U => kd_pre D cl cI cJ sz W0 U ∧ va_Nw (.methodLinkNest a i x h) U)) := by
  intro z U g mk q
  obtain ⟨q0, ⟨q1, qP, qK, qD⟩, qN⟩ := q
  exact ⟨q0, ⟨q1, qP, va_K.moved (u := U) (U := U.calling g mk z) (Vm.Alike.refl U.vm) qK, qD⟩, va_Nw.same (u := U) (U := U.calling g mk z) rfl rfl qN⟩
section KN
variable {p : Program} {l : Launch} {e : Env} {R : Room} {s : State} {m : MethodId} {args : Array Value} {below : List Frame} {meth : Method} {c : Code} {H : Heap} {locs : List Loc} {cells slots : Nat} {Q : State → Prop}
variable {cc : ByteArray} {pc : Nat} {ls : Array Slot} {rest st0 : List Value} {A : Nat → Prop} {D : va_G} {cl : List vw_C} {Wn Wc Wr : va_W} {b : Nat} {cI cJ : ClassId} {mc ms n nL index maxL : Nat}
variable {S : Type} {W1 : S → va_W} {y : MethodName} {ws : List Cond} {rm : Room} {As : List Value} {Ts : List Cond} {own host : String} {bytes : ByteArray}
/-- invokespecial of a nest mate's private <init> -/
theorem kd_NV (Sx : CallFix p m c cc nL s args Ts own) (hM : kd_MV l y ws rm (.ref b :: As) D cl cI cJ Wc W1 mc ms) (cw : va_CN R s args own index y host bytes maxL none ws rm mc ms n ∧ y.name = "<init>" ∧ (Cond.instanceMethod y).before args s = true) (hK : va_K D cl (kd_T cI cJ) s) (hP : va_P D cl Wn H) (hD : va_D A Wn) (hS : va_S A s.heap H locs) (hA : ∀ q, s.heap.size ≤ q → A q) (isC isR : List Nat) (hC : isC.map (fun i => Wn[i]?) = Wc.map some) (hR : isR.map (fun i => Wn[i]?) = Wr.map some) (hnd : (va_nd isC && va_nd isR) = true) (hdis : ∀ i ∈ isR, i ∉ isC)
    (hst : st0 = As.reverse ++ .ref b :: rest) (hAs : As.length = n) (hls : ls.size = nL) (hroom : (rest.map fun v => v.category).sum ≤ 8) (hdg : decode cc pc = .ok (.invokespecial index, 3)) (hf : cells + mc ≤ R.cells ∧ slots + ms ≤ R.slots)
    (kk : ∀ (u : S) (H1 : Heap) (locs1 : List Loc), va_P D cl (Wr ++ W1 u) H1 → va_D A (Wr ++ W1 u) → va_S A s.heap H1 locs1 → W p l e R s m args below meth c H1 locs1 (cells + mc) (slots + ms) Q (F0 m (pc + 3) ls rest)) : W p l e R s m args below meth c H locs cells slots Q (F0 m pc ls st0) := by
  obtain ⟨h1, h2⟩ := Bool.and_eq_true_iff.mp hnd
  exact kd_goV hM hP hD hS hA isC isR hC hR h2 hdis (va_runIN (As := As) (rest := rest) Sx (hM H.size) cw ⟨kd_blind, kd_preAt hK hP hD isC hC h1⟩ rfl hAs hls hst (lv_room (ls := ls) (m := m) (pc := pc) (rest := st0) hroom) hdg hf) kk
/-- invokespecial <init> of a contract that wants a word on a nest mate -/
theorem kd_ZV {ya : String} {yi : Nat} {yx : MethodName} {yh : String} (hN : va_Nw (.methodLinkNest ya yi yx yh) s) (Sx : CallFix p m c cc nL s args Ts own) (hM : kd_MVn (.methodLinkNest ya yi yx yh) l y ws rm (.ref b :: As) D cl cI cJ Wc W1 mc ms) (cw : CallB R s args own index y bytes maxL none ws rm mc ms n ∧ y.name = "<init>" ∧ (Cond.instanceMethod y).before args s = true) (hK : va_K D cl (kd_T cI cJ) s) (hP : va_P D cl Wn H) (hD : va_D A Wn) (hS : va_S A s.heap H locs) (hA : ∀ q, s.heap.size ≤ q → A q) (isC isR : List Nat) (hC : isC.map (fun i => Wn[i]?) = Wc.map some) (hR : isR.map (fun i => Wn[i]?) = Wr.map some) (hnd : (va_nd isC && va_nd isR) = true) (hdis : ∀ i ∈ isR, i ∉ isC)
    (hst : st0 = As.reverse ++ .ref b :: rest) (hAs : As.length = n) (hls : ls.size = nL) (hroom : (rest.map fun v => v.category).sum ≤ 8) (hdg : decode cc pc = .ok (.invokespecial index, 3)) (hf : cells + mc ≤ R.cells ∧ slots + ms ≤ R.slots)
    (kk : ∀ (u : S) (H1 : Heap) (locs1 : List Loc), va_P D cl (Wr ++ W1 u) H1 → va_D A (Wr ++ W1 u) → va_S A s.heap H1 locs1 → W p l e R s m args below meth c H1 locs1 (cells + mc) (slots + ms) Q (F0 m (pc + 3) ls rest)) : W p l e R s m args below meth c H locs cells slots Q (F0 m pc ls st0) := by
  obtain ⟨h1, h2⟩ := Bool.and_eq_true_iff.mp hnd
  have hFc := va_free (wc := Wc) hD hS hA isC hC
  have hr := va_runI (As := As) (rest := rest) Sx (hM H.size) cw ⟨kd_blindN, fun U hU hW => ⟨rfl, (kd_preAt (av := .ref b :: As) hK hP hD isC hC h1 U hU hW).2, va_Nw.warmM hW hN⟩⟩ rfl hAs hls hst (lv_room (ls := ls) (m := m) (pc := pc) (rest := st0) hroom) hdg hf (g := F0 m pc ls st0) (locs := locs) (below := below) (e := e) (meth := meth)
  refine va_callv hr hS (fun q _ h => hFc q h) hFc (fun u t H1 locs1 ht hvm hw hB hz1 hk1 hS1 => ?_)
  obtain ⟨hP1, hK1, hD1⟩ := hB
  rw [ht] at hP1
  obtain ⟨hP2, hD2⟩ := va_join hP hD isC isR hC hR h2 hdis hk1 hFc hP1 hD1
  exact kk u H1 locs1 hP2 hD2 hS1
end KN
