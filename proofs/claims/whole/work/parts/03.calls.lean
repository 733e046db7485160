/-! contracts with explicit worlds: entry, call, return -/
def kd_pre (D : va_G) (cl : List vw_C) (cI cJ : ClassId) (sz : Nat) (W0 : va_W) (U : State) : Prop := U.heap.size = sz ∧ va_P D cl W0 U.heap ∧ va_K D cl (kd_T cI cJ) U ∧ va_D (fun _ => True) W0
def kd_B (D : va_G) (cl : List vw_C) (cI cJ : ClassId) (A : Nat → Prop) (W1 : va_W) (t : State) : Prop := va_P D cl W1 t.heap ∧ va_K D cl (kd_T cI cJ) t ∧ va_D A W1
def kd_QI {S : Type} (D : va_G) (cl : List vw_C) (cI cJ : ClassId) (X : S → Int32) (W1 : S → va_W) (A : Nat → Prop) : Array Value → State → Outcome → State → Prop := va_Qi (S := S) (fun r u => r = X u) (fun u t => kd_B D cl cI cJ A (W1 u) t) A
def kd_QL {S : Type} (D : va_G) (cl : List vw_C) (cI cJ : ClassId) (X : S → Int64) (W1 : S → va_W) (A : Nat → Prop) : Array Value → State → Outcome → State → Prop := va_Ql (S := S) (fun r u => r = X u) (fun u t => kd_B D cl cI cJ A (W1 u) t) A
def kd_QV {S : Type} (D : va_G) (cl : List vw_C) (cI cJ : ClassId) (W1 : S → va_W) (A : Nat → Prop) : Array Value → State → Outcome → State → Prop := va_Qv (S := S) (fun _ => True) (fun u t => kd_B D cl cI cJ A (W1 u) t) A
/-- from the cells W0: y answers X, the cells are W1 then -/
def kd_MI {S : Type} (l : Launch) (y : MethodName) (ws : List Cond) (rm : Room) (av : List Value) (D : va_G) (cl : List vw_C) (cI cJ : ClassId) (W0 : va_W) (X : S → Int32) (W1 : S → va_W) (mc ms : Nat) : Prop :=
  ∀ sz : Nat, Met l y ws rm (va_Pc av (kd_pre D cl cI cJ sz W0)) (kd_QI D cl cI cJ X W1 (va_A W0 sz)) mc ms (va_A W0 sz)
def kd_ML {S : Type} (l : Launch) (y : MethodName) (ws : List Cond) (rm : Room) (av : List Value) (D : va_G) (cl : List vw_C) (cI cJ : ClassId) (W0 : va_W) (X : S → Int64) (W1 : S → va_W) (mc ms : Nat) : Prop :=
  ∀ sz : Nat, Met l y ws rm (va_Pc av (kd_pre D cl cI cJ sz W0)) (kd_QL D cl cI cJ X W1 (va_A W0 sz)) mc ms (va_A W0 sz)
def kd_MV {S : Type} (l : Launch) (y : MethodName) (ws : List Cond) (rm : Room) (av : List Value) (D : va_G) (cl : List vw_C) (cI cJ : ClassId) (W0 : va_W) (W1 : S → va_W) (mc ms : Nat) : Prop :=
  ∀ sz : Nat, Met l y ws rm (va_Pc av (kd_pre D cl cI cJ sz W0)) (kd_QV D cl cI cJ W1 (va_A W0 sz)) mc ms (va_A W0 sz)
theorem kd_fm {W Wc : va_W} {is : List Nat} (h : is.map (fun i => W[i]?) = Wc.map some) : is.filterMap (fun i => W[i]?) = Wc := by
  have h1 : is.filterMap (fun i => W[i]?) = (is.map (fun i => W[i]?)).filterMap id := by rw [List.filterMap_map]; rfl
  rw [h1, h, List.filterMap_map]
  exact List.filterMap_some
theorem kd_blind {av : List Value} {D : va_G} {cl : List vw_C} {cI cJ : ClassId} {sz : Nat} {W0 : va_W} : FrameBlind (va_Pc av (kd_pre D cl cI cJ sz W0)) := by
  intro a U g mk q
  obtain ⟨q0, q1, qP, qK, qD⟩ := q
  exact ⟨q0, q1, qP, va_K.moved (u := U) (U := U.calling g mk a) (Vm.Alike.refl U.vm) qK, qD⟩
section KE
variable {l : Launch} {y : MethodName} {ws ws' : List Cond} {rm : Room} {cc : ByteArray} {maxL : Nat} {av : List Value} {D : va_G} {cl : List vw_C} {cI cJ : ClassId} {W0 : va_W} {mc ms : Nat}
theorem kd_enter {ret : Option FieldType} {Qc : (Nat → Prop) → Array Value → State → Outcome → State → Prop} (hy : plainName y.cls = true) (hw : ws = Cond.code y cc maxL ret :: ws') (hlen : (lg_sl av).length ≤ maxL)
    (k : ∀ (p : Program) (e : Env) (s : State) (m : MethodId) (below : List Frame) (meth : Method) (c : Code) (A : Nat → Prop) (ls : Array Slot), p.tables.exec = Jvm.exec → c.code = cc → meth.sig.returnType = ret → (∀ w ∈ ws, w.before av.toArray s = true) → s.vm.findClass y.cls = some m.cls → meth.locks = false → meth.name = y.name → c.maxLocals = maxL →
      va_P D cl W0 s.heap → va_K D cl (kd_T cI cJ) s → va_D A W0 → (∀ q, s.heap.size ≤ q → A q) → va_S A s.heap s.heap [] → lv_has ls maxL (lv_args 0 av) → W p l e rm s m av.toArray below meth c s.heap [] 0 0 (MQ below (Qc A) av.toArray s mc ms A) (F0 m 0 ls [])) (sz : Nat) :
    Met l y ws rm (va_Pc av (kd_pre D cl cI cJ sz W0)) (Qc (va_A W0 sz)) mc ms (va_A W0 sz) := by
  refine Met.ofW (cc := cc) (maxL := maxL) (ret := ret) hy hw ?_
  intro p e s m args below meth c s₁ B hml hv
  obtain ⟨rfl, hsz, hP, hK, hD0⟩ := hv
  subst hsz
  have hl := lv_entry av (n := maxL) hlen
  rw [lg_entry_eq]
  exact k p e s m below meth c (va_A W0 s.heap.size) _ B.exec B.bytes B.returns (atoms_spec (ws := ws) B.pre) (findClass_of_methodNamed B.named) B.notSynchronized (name_of_methodNamed B.named B.method).1 hml hP hK hD0.self (fun q h => Or.inr h) va_S.rf hl
theorem kd_enterI {S : Type} {X : S → Int32} {W1 : S → va_W} (hy : plainName y.cls = true) (hw : ws = Cond.code y cc maxL (some .int) :: ws') (hlen : (lg_sl av).length ≤ maxL)
    (k : ∀ (p : Program) (e : Env) (s : State) (m : MethodId) (args : Array Value) (below : List Frame) (meth : Method) (c : Code) (A : Nat → Prop) (ls : Array Slot) (Q : State → Prop), p.tables.exec = Jvm.exec → c.code = cc → meth.sig.returnType = (some .int) → (∀ w ∈ ws, w.before args s = true) → s.vm.findClass y.cls = some m.cls → meth.locks = false → meth.name = y.name → c.maxLocals = maxL →
      va_P D cl W0 s.heap → va_K D cl (kd_T cI cJ) s → va_D A W0 → (∀ q, s.heap.size ≤ q → A q) → va_S A s.heap s.heap [] → lv_has ls maxL (lv_args 0 av) →
      (∀ (u : S) (v : Int32) (H : Heap) (locs : List Loc) (pc : Nat) (ls : Array Slot), decode cc pc = .ok (.ireturn, 1) → v = X u → va_S A s.heap H locs → va_P D cl (W1 u) H → va_D A (W1 u) → W p l e rm s m args below meth c H locs mc ms Q (F0 m pc ls [.int v])) → W p l e rm s m args below meth c s.heap [] 0 0 Q (F0 m 0 ls [])) :
    kd_MI l y ws rm av D cl cI cJ W0 X W1 mc ms := fun sz => kd_enter (Qc := fun A => kd_QI D cl cI cJ X W1 A) hy hw hlen (fun p e s m below meth c A ls hx hb hr hts hown hlk hnm hml hP hK hD hA hS hl => k p e s m av.toArray below meth c A ls _ hx hb hr hts hown hlk hnm hml hP hK hD hA hS hl (fun u v H locs pc ls hd hv hS hP hD => W.iret hx hb hr (fun t ht hW => ⟨⟨v, u, rfl, hv, by rw [ht]; exact hP, va_K.moved hW.alike hK, hD⟩, hS.F ht⟩) hS.2.2 hd hlk)) sz
theorem kd_enterZ {S : Type} {X : S → Int32} {W1 : S → va_W} (hy : plainName y.cls = true) (hw : ws = Cond.code y cc maxL (some .boolean) :: ws') (hlen : (lg_sl av).length ≤ maxL) (hz : ∀ u, X u = 0 ∨ X u = 1)
    (k : ∀ (p : Program) (e : Env) (s : State) (m : MethodId) (args : Array Value) (below : List Frame) (meth : Method) (c : Code) (A : Nat → Prop) (ls : Array Slot) (Q : State → Prop), p.tables.exec = Jvm.exec → c.code = cc → meth.sig.returnType = (some .boolean) → (∀ w ∈ ws, w.before args s = true) → s.vm.findClass y.cls = some m.cls → meth.locks = false → meth.name = y.name → c.maxLocals = maxL →
      va_P D cl W0 s.heap → va_K D cl (kd_T cI cJ) s → va_D A W0 → (∀ q, s.heap.size ≤ q → A q) → va_S A s.heap s.heap [] → lv_has ls maxL (lv_args 0 av) →
      (∀ (u : S) (v : Int32) (H : Heap) (locs : List Loc) (pc : Nat) (ls : Array Slot), decode cc pc = .ok (.ireturn, 1) → v = X u → va_S A s.heap H locs → va_P D cl (W1 u) H → va_D A (W1 u) → W p l e rm s m args below meth c H locs mc ms Q (F0 m pc ls [.int v])) → W p l e rm s m args below meth c s.heap [] 0 0 Q (F0 m 0 ls [])) :
    kd_MI l y ws rm av D cl cI cJ W0 X W1 mc ms := fun sz => kd_enter (Qc := fun A => kd_QI D cl cI cJ X W1 A) hy hw hlen (fun p e s m below meth c A ls hx hb hr hts hown hlk hnm hml hP hK hD hA hS hl => k p e s m av.toArray below meth c A ls _ hx hb hr hts hown hlk hnm hml hP hK hD hA hS hl (fun u v H locs pc ls hd hv hS hP hD => W.zret hx hb hr (by rw [hv]; rcases hz u with h | h <;> rw [h] <;> rfl) (fun t ht hW => ⟨⟨v, u, rfl, hv, by rw [ht]; exact hP, va_K.moved hW.alike hK, hD⟩, hS.F ht⟩) hS.2.2 hd hlk)) sz
theorem kd_enterL {S : Type} {X : S → Int64} {W1 : S → va_W} (hy : plainName y.cls = true) (hw : ws = Cond.code y cc maxL (some .long) :: ws') (hlen : (lg_sl av).length ≤ maxL)
    (k : ∀ (p : Program) (e : Env) (s : State) (m : MethodId) (args : Array Value) (below : List Frame) (meth : Method) (c : Code) (A : Nat → Prop) (ls : Array Slot) (Q : State → Prop), p.tables.exec = Jvm.exec → c.code = cc → meth.sig.returnType = (some .long) → (∀ w ∈ ws, w.before args s = true) → s.vm.findClass y.cls = some m.cls → meth.locks = false → meth.name = y.name → c.maxLocals = maxL →
      va_P D cl W0 s.heap → va_K D cl (kd_T cI cJ) s → va_D A W0 → (∀ q, s.heap.size ≤ q → A q) → va_S A s.heap s.heap [] → lv_has ls maxL (lv_args 0 av) →
      (∀ (u : S) (v : Int64) (H : Heap) (locs : List Loc) (pc : Nat) (ls : Array Slot), decode cc pc = .ok (.lreturn, 1) → v = X u → va_S A s.heap H locs → va_P D cl (W1 u) H → va_D A (W1 u) → W p l e rm s m args below meth c H locs mc ms Q (F0 m pc ls [.long v])) → W p l e rm s m args below meth c s.heap [] 0 0 Q (F0 m 0 ls [])) :
    kd_ML l y ws rm av D cl cI cJ W0 X W1 mc ms := fun sz => kd_enter (Qc := fun A => kd_QL D cl cI cJ X W1 A) hy hw hlen (fun p e s m below meth c A ls hx hb hr hts hown hlk hnm hml hP hK hD hA hS hl => k p e s m av.toArray below meth c A ls _ hx hb hr hts hown hlk hnm hml hP hK hD hA hS hl (fun u v H locs pc ls hd hv hS hP hD => W.lret hx hb hr (fun t ht hW => ⟨⟨v, u, rfl, hv, by rw [ht]; exact hP, va_K.moved hW.alike hK, hD⟩, hS.F ht⟩) hS.2.2 hd hlk)) sz
theorem kd_enterV {S : Type} {W1 : S → va_W} (hy : plainName y.cls = true) (hw : ws = Cond.code y cc maxL none :: ws') (hlen : (lg_sl av).length ≤ maxL)
    (k : ∀ (p : Program) (e : Env) (s : State) (m : MethodId) (args : Array Value) (below : List Frame) (meth : Method) (c : Code) (A : Nat → Prop) (ls : Array Slot) (Q : State → Prop), p.tables.exec = Jvm.exec → c.code = cc → meth.sig.returnType = none → (∀ w ∈ ws, w.before args s = true) → s.vm.findClass y.cls = some m.cls → meth.locks = false → meth.name = y.name → c.maxLocals = maxL →
      va_P D cl W0 s.heap → va_K D cl (kd_T cI cJ) s → va_D A W0 → (∀ q, s.heap.size ≤ q → A q) → va_S A s.heap s.heap [] → lv_has ls maxL (lv_args 0 av) →
      (∀ (u : S) (H : Heap) (locs : List Loc) (pc : Nat) (ls : Array Slot), decode cc pc = .ok (.return_, 1) → va_S A s.heap H locs → va_P D cl (W1 u) H → va_D A (W1 u) → W p l e rm s m args below meth c H locs mc ms Q (F0 m pc ls [])) → W p l e rm s m args below meth c s.heap [] 0 0 Q (F0 m 0 ls [])) :
    kd_MV l y ws rm av D cl cI cJ W0 W1 mc ms := fun sz => kd_enter (Qc := fun A => kd_QV D cl cI cJ W1 A) hy hw hlen (fun p e s m below meth c A ls hx hb hr hts hown hlk hnm hml hP hK hD hA hS hl => k p e s m av.toArray below meth c A ls _ hx hb hr hts hown hlk hnm hml hP hK hD hA hS hl (fun u H locs pc ls hd hS hP hD => W.vret hx hb hr (fun t ht hW => ⟨⟨u, rfl, trivial, by rw [ht]; exact hP, va_K.moved hW.alike hK, hD⟩, hS.F ht⟩) hS.2.2 hd hlk)) sz
end KE
section KF
variable {p : Program} {l : Launch} {e : Env} {R : Room} {s : State} {m : MethodId} {args : Array Value} {below : List Frame} {meth : Method} {c : Code} {H : Heap} {locs : List Loc} {cells slots : Nat} {Q : State → Prop}
variable {cc : ByteArray} {pc : Nat} {ls : Array Slot} {rest st0 : List Value} {A : Nat → Prop} {D : va_G} {cl : List vw_C} {Wn Wc Wr : va_W} {b : Nat} {cI cJ : ClassId} {mc ms n nL index maxL : Nat}
variable {S : Type} {X : S → Int32} {X2 : S → Int64} {W1 : S → va_W} {y : MethodName} {ws : List Cond} {rm : Room} {As : List Value} {Ts : List Cond} {own C : String} {bytes : ByteArray} {ret : Option FieldType}
theorem kd_preAt {av : List Value} (hK : va_K D cl (kd_T cI cJ) s) (hP : va_P D cl Wn H) (hD : va_D A Wn) (isC : List Nat) (hC : isC.map (fun i => Wn[i]?) = Wc.map some) (hn : va_nd isC = true) : ∀ U : State, U.heap = H → s.WarmedH U.vm → va_Pc av (kd_pre D cl cI cJ H.size Wc) av.toArray U := by
  intro U hU hW
  exact ⟨rfl, by rw [hU], by rw [hU]; exact hP.sub isC (kd_fm hC), va_K.moved hW.alike hK, (hD.sub isC hn hC).weaken (fun _ _ _ _ => trivial)⟩
theorem kd_goI (hM : kd_MI l y ws rm As D cl cI cJ Wc X W1 mc ms) (hP : va_P D cl Wn H) (hD : va_D A Wn) (hS : va_S A s.heap H locs) (hA : ∀ q, s.heap.size ≤ q → A q) (isC isR : List Nat) (hC : isC.map (fun i => Wn[i]?) = Wc.map some) (hR : isR.map (fun i => Wn[i]?) = Wr.map some) (hnR : va_nd isR = true) (hdis : ∀ i ∈ isR, i ∉ isC)
    {a : Array Value} (hr : va_Run p l e R s m args below meth c H locs cells slots mc ms (F0 m pc ls st0) rest (kd_QI D cl cI cJ X W1 (va_A Wc H.size) a) (va_A Wc H.size))
    (kk : ∀ (u : S) (H1 : Heap) (locs1 : List Loc), va_P D cl (Wr ++ W1 u) H1 → va_D A (Wr ++ W1 u) → va_S A s.heap H1 locs1 → W p l e R s m args below meth c H1 locs1 (cells + mc) (slots + ms) Q (F0 m (pc + 3) ls (.int (X u) :: rest))) : W p l e R s m args below meth c H locs cells slots Q (F0 m pc ls st0) := by
  have hFc := va_free (wc := Wc) hD hS hA isC hC
  refine va_calli hr hS (fun q _ h => hFc q h) hFc (fun r u t H1 locs1 ht hvm hw hB hz1 hk1 hS1 => ?_)
  obtain ⟨hP1, hK1, hD1⟩ := hB
  rw [ht] at hP1
  obtain ⟨hP2, hD2⟩ := va_join hP hD isC isR hC hR hnR hdis hk1 hFc hP1 hD1
  rw [hw]
  exact kk u H1 locs1 hP2 hD2 hS1
theorem kd_goL (hM : kd_ML l y ws rm As D cl cI cJ Wc X2 W1 mc ms) (hP : va_P D cl Wn H) (hD : va_D A Wn) (hS : va_S A s.heap H locs) (hA : ∀ q, s.heap.size ≤ q → A q) (isC isR : List Nat) (hC : isC.map (fun i => Wn[i]?) = Wc.map some) (hR : isR.map (fun i => Wn[i]?) = Wr.map some) (hnR : va_nd isR = true) (hdis : ∀ i ∈ isR, i ∉ isC)
    {a : Array Value} (hr : va_Run p l e R s m args below meth c H locs cells slots mc ms (F0 m pc ls st0) rest (kd_QL D cl cI cJ X2 W1 (va_A Wc H.size) a) (va_A Wc H.size))
    (kk : ∀ (u : S) (H1 : Heap) (locs1 : List Loc), va_P D cl (Wr ++ W1 u) H1 → va_D A (Wr ++ W1 u) → va_S A s.heap H1 locs1 → W p l e R s m args below meth c H1 locs1 (cells + mc) (slots + ms) Q (F0 m (pc + 3) ls (.long (X2 u) :: rest))) : W p l e R s m args below meth c H locs cells slots Q (F0 m pc ls st0) := by
  have hFc := va_free (wc := Wc) hD hS hA isC hC
  refine va_calll hr hS (fun q _ h => hFc q h) hFc (fun r u t H1 locs1 ht hvm hw hB hz1 hk1 hS1 => ?_)
  obtain ⟨hP1, hK1, hD1⟩ := hB
  rw [ht] at hP1
  obtain ⟨hP2, hD2⟩ := va_join hP hD isC isR hC hR hnR hdis hk1 hFc hP1 hD1
  rw [hw]
  exact kk u H1 locs1 hP2 hD2 hS1
theorem kd_goV (hM : kd_MV l y ws rm As D cl cI cJ Wc W1 mc ms) (hP : va_P D cl Wn H) (hD : va_D A Wn) (hS : va_S A s.heap H locs) (hA : ∀ q, s.heap.size ≤ q → A q) (isC isR : List Nat) (hC : isC.map (fun i => Wn[i]?) = Wc.map some) (hR : isR.map (fun i => Wn[i]?) = Wr.map some) (hnR : va_nd isR = true) (hdis : ∀ i ∈ isR, i ∉ isC)
    {a : Array Value} (hr : va_Run p l e R s m args below meth c H locs cells slots mc ms (F0 m pc ls st0) rest (kd_QV D cl cI cJ W1 (va_A Wc H.size) a) (va_A Wc H.size))
    (kk : ∀ (u : S) (H1 : Heap) (locs1 : List Loc), va_P D cl (Wr ++ W1 u) H1 → va_D A (Wr ++ W1 u) → va_S A s.heap H1 locs1 → W p l e R s m args below meth c H1 locs1 (cells + mc) (slots + ms) Q (F0 m (pc + 3) ls rest)) : W p l e R s m args below meth c H locs cells slots Q (F0 m pc ls st0) := by
  have hFc := va_free (wc := Wc) hD hS hA isC hC
  refine va_callv hr hS (fun q _ h => hFc q h) hFc (fun u t H1 locs1 ht hvm hw hB hz1 hk1 hS1 => ?_)
  obtain ⟨hP1, hK1, hD1⟩ := hB
  rw [ht] at hP1
  obtain ⟨hP2, hD2⟩ := va_join hP hD isC isR hC hR hnR hdis hk1 hFc hP1 hD1
  exact kk u H1 locs1 hP2 hD2 hS1
/-- invokevirtual, an int comes back -/
theorem kd_VI (Sx : CallFix p m c cc nL s args Ts own) (hM : kd_MI l y ws rm (.ref b :: As) D cl cI cJ Wc X W1 mc ms) (cw : CallW R s args own C index y bytes maxL ret ws rm mc ms n) (hK : va_K D cl (kd_T cI cJ) s) (hP : va_P D cl Wn H) (hD : va_D A Wn) (hS : va_S A s.heap H locs) (hA : ∀ q, s.heap.size ≤ q → A q) (isC isR : List Nat) (hC : isC.map (fun i => Wn[i]?) = Wc.map some) (hR : isR.map (fun i => Wn[i]?) = Wr.map some) (hnd : (va_nd isC && va_nd isR) = true) (hdis : ∀ i ∈ isR, i ∉ isC)
    (q0 : Nat) {ci : Nat} {T : u_T} {N : Nat} {fs : List Value} (hc : cl[ci]? = some (C, T, N)) (hq : Wc[q0]? = some (b, .inr (ci, fs))) (hst : st0 = As.reverse ++ .ref b :: rest) (hAs : As.length = n) (hls : ls.size = nL) (hroom : (rest.map fun v => v.category).sum ≤ 8) (hdg : decode cc pc = .ok (.invokevirtual index, 3)) (hf : cells + mc ≤ R.cells ∧ slots + ms ≤ R.slots)
    (kk : ∀ (u : S) (H1 : Heap) (locs1 : List Loc), va_P D cl (Wr ++ W1 u) H1 → va_D A (Wr ++ W1 u) → va_S A s.heap H1 locs1 → W p l e R s m args below meth c H1 locs1 (cells + mc) (slots + ms) Q (F0 m (pc + 3) ls (.int (X u) :: rest))) : W p l e R s m args below meth c H locs cells slots Q (F0 m pc ls st0) := by
  obtain ⟨h1, h2⟩ := Bool.and_eq_true_iff.mp hnd
  exact kd_goI hM hP hD hS hA isC isR hC hR h2 hdis (va_runV (As := As) (rest := rest) Sx (hM H.size) cw ⟨kd_blind, va_recv hK (hP.sub isC (kd_fm hC)) hc hq, kd_preAt hK hP hD isC hC h1⟩ rfl hAs hls hst (lv_room (ls := ls) (m := m) (pc := pc) (rest := st0) hroom) hdg hf) kk
/-- invokevirtual, a long comes back -/
theorem kd_VL (Sx : CallFix p m c cc nL s args Ts own) (hM : kd_ML l y ws rm (.ref b :: As) D cl cI cJ Wc X2 W1 mc ms) (cw : CallW R s args own C index y bytes maxL ret ws rm mc ms n) (hK : va_K D cl (kd_T cI cJ) s) (hP : va_P D cl Wn H) (hD : va_D A Wn) (hS : va_S A s.heap H locs) (hA : ∀ q, s.heap.size ≤ q → A q) (isC isR : List Nat) (hC : isC.map (fun i => Wn[i]?) = Wc.map some) (hR : isR.map (fun i => Wn[i]?) = Wr.map some) (hnd : (va_nd isC && va_nd isR) = true) (hdis : ∀ i ∈ isR, i ∉ isC)
    (q0 : Nat) {ci : Nat} {T : u_T} {N : Nat} {fs : List Value} (hc : cl[ci]? = some (C, T, N)) (hq : Wc[q0]? = some (b, .inr (ci, fs))) (hst : st0 = As.reverse ++ .ref b :: rest) (hAs : As.length = n) (hls : ls.size = nL) (hroom : (rest.map fun v => v.category).sum ≤ 8) (hdg : decode cc pc = .ok (.invokevirtual index, 3)) (hf : cells + mc ≤ R.cells ∧ slots + ms ≤ R.slots)
    (kk : ∀ (u : S) (H1 : Heap) (locs1 : List Loc), va_P D cl (Wr ++ W1 u) H1 → va_D A (Wr ++ W1 u) → va_S A s.heap H1 locs1 → W p l e R s m args below meth c H1 locs1 (cells + mc) (slots + ms) Q (F0 m (pc + 3) ls (.long (X2 u) :: rest))) : W p l e R s m args below meth c H locs cells slots Q (F0 m pc ls st0) := by
  obtain ⟨h1, h2⟩ := Bool.and_eq_true_iff.mp hnd
  exact kd_goL hM hP hD hS hA isC isR hC hR h2 hdis (va_runV (As := As) (rest := rest) Sx (hM H.size) cw ⟨kd_blind, va_recv hK (hP.sub isC (kd_fm hC)) hc hq, kd_preAt hK hP hD isC hC h1⟩ rfl hAs hls hst (lv_room (ls := ls) (m := m) (pc := pc) (rest := st0) hroom) hdg hf) kk
theorem kd_VV (Sx : CallFix p m c cc nL s args Ts own) (hM : kd_MV l y ws rm (.ref b :: As) D cl cI cJ Wc W1 mc ms) (cw : CallW R s args own C index y bytes maxL ret ws rm mc ms n) (hK : va_K D cl (kd_T cI cJ) s) (hP : va_P D cl Wn H) (hD : va_D A Wn) (hS : va_S A s.heap H locs) (hA : ∀ q, s.heap.size ≤ q → A q) (isC isR : List Nat) (hC : isC.map (fun i => Wn[i]?) = Wc.map some) (hR : isR.map (fun i => Wn[i]?) = Wr.map some) (hnd : (va_nd isC && va_nd isR) = true) (hdis : ∀ i ∈ isR, i ∉ isC)
    (q0 : Nat) {ci : Nat} {T : u_T} {N : Nat} {fs : List Value} (hc : cl[ci]? = some (C, T, N)) (hq : Wc[q0]? = some (b, .inr (ci, fs))) (hst : st0 = As.reverse ++ .ref b :: rest) (hAs : As.length = n) (hls : ls.size = nL) (hroom : (rest.map fun v => v.category).sum ≤ 8) (hdg : decode cc pc = .ok (.invokevirtual index, 3)) (hf : cells + mc ≤ R.cells ∧ slots + ms ≤ R.slots)
    (kk : ∀ (u : S) (H1 : Heap) (locs1 : List Loc), va_P D cl (Wr ++ W1 u) H1 → va_D A (Wr ++ W1 u) → va_S A s.heap H1 locs1 → W p l e R s m args below meth c H1 locs1 (cells + mc) (slots + ms) Q (F0 m (pc + 3) ls rest)) : W p l e R s m args below meth c H locs cells slots Q (F0 m pc ls st0) := by
  obtain ⟨h1, h2⟩ := Bool.and_eq_true_iff.mp hnd
  exact kd_goV hM hP hD hS hA isC isR hC hR h2 hdis (va_runV (As := As) (rest := rest) Sx (hM H.size) cw ⟨kd_blind, va_recv hK (hP.sub isC (kd_fm hC)) hc hq, kd_preAt hK hP hD isC hC h1⟩ rfl hAs hls hst (lv_room (ls := ls) (m := m) (pc := pc) (rest := st0) hroom) hdg hf) kk
/-- invokestatic -/
theorem kd_SI (Sx : CallFix p m c cc nL s args Ts own) (hM : kd_MI l y ws rm As D cl cI cJ Wc X W1 mc ms) (cw : CallB R s args own index y bytes maxL ret ws rm mc ms n ∧ (Cond.static y).before args s = true) (hK : va_K D cl (kd_T cI cJ) s) (hP : va_P D cl Wn H) (hD : va_D A Wn) (hS : va_S A s.heap H locs) (hA : ∀ q, s.heap.size ≤ q → A q) (isC isR : List Nat) (hC : isC.map (fun i => Wn[i]?) = Wc.map some) (hR : isR.map (fun i => Wn[i]?) = Wr.map some) (hnd : (va_nd isC && va_nd isR) = true) (hdis : ∀ i ∈ isR, i ∉ isC)
    (hst : st0 = As.reverse ++ rest) (hAs : As.length = n) (hls : ls.size = nL) (hroom : (rest.map fun v => v.category).sum ≤ 8) (hdg : decode cc pc = .ok (.invokestatic index, 3)) (hf : cells + mc ≤ R.cells ∧ slots + ms ≤ R.slots)
    (kk : ∀ (u : S) (H1 : Heap) (locs1 : List Loc), va_P D cl (Wr ++ W1 u) H1 → va_D A (Wr ++ W1 u) → va_S A s.heap H1 locs1 → W p l e R s m args below meth c H1 locs1 (cells + mc) (slots + ms) Q (F0 m (pc + 3) ls (.int (X u) :: rest))) : W p l e R s m args below meth c H locs cells slots Q (F0 m pc ls st0) := by
  obtain ⟨h1, h2⟩ := Bool.and_eq_true_iff.mp hnd
  exact kd_goI hM hP hD hS hA isC isR hC hR h2 hdis (va_runS (As := As) (rest := rest) Sx (hM H.size) cw ⟨kd_blind, kd_preAt hK hP hD isC hC h1⟩ rfl hAs hls hst (lv_room (ls := ls) (m := m) (pc := pc) (rest := st0) hroom) hdg hf) kk
theorem kd_SV (Sx : CallFix p m c cc nL s args Ts own) (hM : kd_MV l y ws rm As D cl cI cJ Wc W1 mc ms) (cw : CallB R s args own index y bytes maxL ret ws rm mc ms n ∧ (Cond.static y).before args s = true) (hK : va_K D cl (kd_T cI cJ) s) (hP : va_P D cl Wn H) (hD : va_D A Wn) (hS : va_S A s.heap H locs) (hA : ∀ q, s.heap.size ≤ q → A q) (isC isR : List Nat) (hC : isC.map (fun i => Wn[i]?) = Wc.map some) (hR : isR.map (fun i => Wn[i]?) = Wr.map some) (hnd : (va_nd isC && va_nd isR) = true) (hdis : ∀ i ∈ isR, i ∉ isC)
    (hst : st0 = As.reverse ++ rest) (hAs : As.length = n) (hls : ls.size = nL) (hroom : (rest.map fun v => v.category).sum ≤ 8) (hdg : decode cc pc = .ok (.invokestatic index, 3)) (hf : cells + mc ≤ R.cells ∧ slots + ms ≤ R.slots)
    (kk : ∀ (u : S) (H1 : Heap) (locs1 : List Loc), va_P D cl (Wr ++ W1 u) H1 → va_D A (Wr ++ W1 u) → va_S A s.heap H1 locs1 → W p l e R s m args below meth c H1 locs1 (cells + mc) (slots + ms) Q (F0 m (pc + 3) ls rest)) : W p l e R s m args below meth c H locs cells slots Q (F0 m pc ls st0) := by
  obtain ⟨h1, h2⟩ := Bool.and_eq_true_iff.mp hnd
  exact kd_goV hM hP hD hS hA isC isR hC hR h2 hdis (va_runS (As := As) (rest := rest) Sx (hM H.size) cw ⟨kd_blind, kd_preAt hK hP hD isC hC h1⟩ rfl hAs hls hst (lv_room (ls := ls) (m := m) (pc := pc) (rest := st0) hroom) hdg hf) kk
/-- invokespecial <init> -/
theorem kd_IV (Sx : CallFix p m c cc nL s args Ts own) (hM : kd_MV l y ws rm (.ref b :: As) D cl cI cJ Wc W1 mc ms) (cw : CallB R s args own index y bytes maxL none ws rm mc ms n ∧ y.name = "<init>" ∧ (Cond.instanceMethod y).before args s = true) (hK : va_K D cl (kd_T cI cJ) s) (hP : va_P D cl Wn H) (hD : va_D A Wn) (hS : va_S A s.heap H locs) (hA : ∀ q, s.heap.size ≤ q → A q) (isC isR : List Nat) (hC : isC.map (fun i => Wn[i]?) = Wc.map some) (hR : isR.map (fun i => Wn[i]?) = Wr.map some) (hnd : (va_nd isC && va_nd isR) = true) (hdis : ∀ i ∈ isR, i ∉ isC)
    (hst : st0 = As.reverse ++ .ref b :: rest) (hAs : As.length = n) (hls : ls.size = nL) (hroom : (rest.map fun v => v.category).sum ≤ 8) (hdg : decode cc pc = .ok (.invokespecial index, 3)) (hf : cells + mc ≤ R.cells ∧ slots + ms ≤ R.slots)
    (kk : ∀ (u : S) (H1 : Heap) (locs1 : List Loc), va_P D cl (Wr ++ W1 u) H1 → va_D A (Wr ++ W1 u) → va_S A s.heap H1 locs1 → W p l e R s m args below meth c H1 locs1 (cells + mc) (slots + ms) Q (F0 m (pc + 3) ls rest)) : W p l e R s m args below meth c H locs cells slots Q (F0 m pc ls st0) := by
  obtain ⟨h1, h2⟩ := Bool.and_eq_true_iff.mp hnd
  exact kd_goV hM hP hD hS hA isC isR hC hR h2 hdis (va_runI (As := As) (rest := rest) Sx (hM H.size) cw ⟨kd_blind, kd_preAt hK hP hD isC hC h1⟩ rfl hAs hls hst (lv_room (ls := ls) (m := m) (pc := pc) (rest := st0) hroom) hdg hf) kk
/-- System.arraycopy of ints by their numbers -/
theorem kd_copy (hexec : p.tables.exec = Jvm.exec) (hb : c.code = cc) (hml : c.maxLocals = ls.size) (hown : s.vm.findClass own = some m.cls) (hlink : (Cond.methodLink own index arraycopyName).before args s = true) (hnat : (Cond.native arraycopyName).before args s = true) (hstat : (Cond.static arraycopyName).before args s = true) (hini : (Cond.initialized "java/lang/System").before args s = true)
    (hK : va_K D cl (kd_T cI cJ) s) (hP : va_P D cl Wn H) (hD : va_D A Wn) (hS : va_S A s.heap H locs) (q0 q1 : Nat) {a0 a1 n0 n1 : Nat} {f g : Nat → Nat} (ha0 : Wn[q0]? = some (a0, kd_ar cI n0 f)) (ha1 : Wn[q1]? = some (a1, kd_ar cI n1 g)) {k : Nat} (h4 : k ≤ n0) (h5 : k ≤ n1) (hk : k < 2 ^ 31)
    (hframes : 1 ≤ R.frames) (hlocals : (rest.map fun v => v.category).sum + (nativeFrameWords "java/lang/System" "arraycopy" 5 + 11) ≤ R.locals) (hdg : decode cc pc = .ok (.invokestatic index, 3))
    (kk : ∀ (H1 : Heap) (locs1 : List Loc), va_P D cl (Wn.set q1 (a1, kd_ar cI n1 (va_cpy f g 0 0 k))) H1 → va_D A (Wn.set q1 (a1, kd_ar cI n1 (va_cpy f g 0 0 k))) → va_S A s.heap H1 locs1 → W p l e R s m args below meth c H1 locs1 cells slots Q (F0 m (pc + 3) ls rest)) : W p l e R s m args below meth c H locs cells slots Q (F0 m pc ls (.int (nI k) :: .int (nI 0) :: .ref a1 :: .int (nI 0) :: .ref a0 :: rest)) := by
  have e0 : (nI 0).toNatClampNeg = 0 := rfl
  have ek : (nI k).toNatClampNeg = k := nI_clamp hk
  refine va_copyi hexec hb hml hown hlink hnat hstat hini hK hP hD hS q0 q1 0 0 ha0 ha1 rfl rfl rfl (by decide) (by decide) (nI_pos hk) (by rw [e0, ek]; omega) (by rw [e0, ek]; omega) (fun _ _ => rfl) hframes hlocals hdg ?_
  rw [e0, ek, kd_cpy]
  exact kk
end KF
