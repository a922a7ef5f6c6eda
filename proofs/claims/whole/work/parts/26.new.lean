section NEW0
theorem join_last {A : Nat → Prop} {D : va_G} {cl : List vw_C} {wr w1 : va_W} {x : Nat × va_E} {H H1 : Heap} (hP : va_P D cl (wr ++ [x]) H) (hD : va_D A (wr ++ [x])) (hk : ∀ q : Nat, q < H.size → ¬ va_A [x] H.size q → H1[q]? = H[q]?) (hF : ∀ q, va_A [x] H.size q → A q) (hP1 : va_P D cl w1 H1) (hD1 : va_D (va_A [x] H.size) w1) : va_P D cl (wr ++ w1) H1 ∧ va_D A (wr ++ w1) := by
  have left : ∀ (k : Nat) (q : Nat × va_E), wr[k]? = some q → (wr ++ [x])[k]? = some q := by
    intro k q hq
    have hl : k < wr.length := (List.getElem?_eq_some_iff.mp hq).1
    rw [List.getElem?_append_left hl]
    exact hq
  have last : (wr ++ [x])[wr.length]? = some x := by simp
  have apart : ∀ (k : Nat) (q : Nat × va_E), wr[k]? = some q → q.1 < H.size ∧ ¬ va_A [x] H.size q.1 := by
    intro k q hq
    have hlt := (hP k q (left k q hq)).lt
    refine ⟨hlt, fun h => ?_⟩
    rcases h with ⟨j, e, h⟩ | h
    · have hj : j = 0 := by
        have h1 : j < [x].length := (List.getElem?_eq_some_iff.mp h).1
        simp at h1
        exact h1
      subst hj
      have hx : x = (q.1, e) := by simpa using h
      have hl : k < wr.length := (List.getElem?_eq_some_iff.mp hq).1
      have h2 := hD.1 k wr.length q x (left k q hq) last (by rw [hx])
      omega
    · omega
  refine ⟨va_P.app (fun k q hq => (hP k q (left k q hq)).kept (hk q.1 (apart k q hq).1 (apart k q hq).2)) hP1, va_D.app ⟨fun i j p q hp hq e => hD.1 i j p q (left i p hp) (left j q hq) e, fun k q hq => hD.2 k q (left k q hq)⟩ (hD1.weaken (fun k q _ h => hF q.1 h)) (fun i j p q hp hq e => ?_)⟩
  exact (apart i p hp).2 (by rw [e]; exact hD1.2 j q hq)
abbrev QN (D : va_G) (cI cJ cZ : ClassId) (F : (Nat → Nat) → va_W) (A : Nat → Prop) : Array Value → State → Outcome → State → Prop := va_Qv (fun (_ : Nat → Nat) => True) (fun u t => BW D cI cJ cZ (F u) t ∧ va_D A (F u)) A
theorem mk_metN {l : Launch} {y : MethodName} {rm : Room} {D : va_G} {cI cJ cZ : ClassId} {en : EnT} {av : List Value} {ws : va_W} {sz mc ms : Nat} {Qc : (Nat → Prop) → Array Value → State → Outcome → State → Prop} {cc : ByteArray} {maxL : Nat} {ret : Option FieldType} (own : String) (hy : plainName y.cls = true) (ho : y.cls = own) (hlen : (lg_sl av).length ≤ maxL)
    (body : ∀ (p : Program) (e : Env) (s : State) (m : MethodId) (below : List Frame) (meth : Method) (c : Code) (ls : Array Slot) (A : Nat → Prop), p.tables.exec = Jvm.exec → c.code = cc → meth.sig.returnType = ret → c.maxLocals = maxL → s.vm.findClass own = some m.cls → (∀ w ∈ lw_g, w.before av.toArray s = true) → meth.locks = false → meth.name = y.name → (∀ q : Nat, s.heap.size ≤ q → A q) → va_K D vwCl (TY cI cJ cZ) s → EN en A s s.heap → lv_has ls maxL (lv_args 0 av) → va_D A ws → ∀ (H : Heap) (locs : List Loc), va_P D vwCl ws H → va_S A s.heap H locs → W p l e rm s m av.toArray below meth c H locs 0 0 (MQ below (Qc A) av.toArray s mc ms A) (F0 m 0 ls [])) :
    Met l y (Cond.code y cc maxL ret :: lw_g) rm (PC D cI cJ cZ en av ws sz) (Qc (va_A ws sz)) mc ms (va_A ws sz) := by
  refine Met.ofW (cc := cc) (maxL := maxL) (ret := ret) hy rfl ?_
  intro p e s m args below meth c s₁ B hml hv
  obtain ⟨rfl, hsz, hP, hK, hD0, hE⟩ := hv
  subst hsz
  have hts := atoms_spec (ws := Cond.code y cc maxL ret :: lw_g) B.pre
  rw [lg_entry_eq]
  exact body p e s m below meth c _ (va_A ws s.heap.size) B.exec B.bytes B.returns hml (by rw [← ho]; exact findClass_of_methodNamed B.named) (fun w h => hts w (List.mem_cons_of_mem _ h)) B.notSynchronized (name_of_methodNamed B.named B.method).1 (fun q h => Or.inr h) hK hE (lv_entry av hlen) hD0.self s.heap [] hP va_S.rf
end NEW0
section NEW1
variable {p : Program} {l : Launch} {e : Env} {R : Room} {s : State} {m : MethodId} {args : Array Value} {below : List Frame} {meth : Method} {c : Code} {H : Heap} {locs : List Loc} {cells slots : Nat} {Q : State → Prop}
variable {pc nL : Nat} {cc : ByteArray} {ls : Array Slot} {rest st0 : List Value} {A : Nat → Prop} {own : String} {D : va_G} {cI cJ cZ : ClassId} {en : EnT} {ws wr : va_W} {lv : List (Nat × Value)}
theorem nwa (hx : p.tables.exec = Jvm.exec) (hb : c.code = cc) {atype : ArrayType} (harr : (Cond.arrayClass (newarray.typeOf atype)).before args s = true) {ty : FieldType} (hty : newarray.typeOf atype = ty) {cA0 : ClassId} (t0 : Nat) (ht : (TY cI cJ cZ)[t0]? = some (cA0, ty)) (hun : ∀ c c', va_RA s c ty → va_RA s c' ty → c = c') (hK : va_K D vwCl (TY cI cJ cZ) s) (hP : va_P D vwCl ws H) (hD : va_D A ws) (hS : va_S A s.heap H locs) (hA : ∀ q : Nat, s.heap.size ≤ q → A q)
    {n : Int32} {N : Nat} {a0 : vp_A} (ha : ∀ cA : ClassId, vp_cell cA a0 = arrV cA N (fun _ => defaultValue ty)) (hn : ¬ n < 0) (hN : n.toNatClampNeg = N) (hbytes : N * componentBytes ty ≤ 536870912) (hcells : cells + 1 ≤ R.cells) (hslots : slots + N ≤ R.slots) (hdg : decode cc pc = .ok (.newarray atype, 2))
    (kk : ∀ (q : Nat) (H1 : Heap), va_P D vwCl (ws ++ [(q, .inl (cA0, a0))]) H1 → va_D A (ws ++ [(q, .inl (cA0, a0))]) → va_S A s.heap H1 locs → W p l e R s m args below meth c H1 locs (cells + 1) (slots + N) Q (F0 m (pc + 2) ls (.ref q :: rest))) : W p l e R s m args below meth c H locs cells slots Q (F0 m pc ls (.int n :: rest)) := by
  refine va_newa hx hb harr hty hK hP hD hS hA ha hn hN hbytes hcells hslots hdg (fun q cA H1 hK1 hP1 hD1 hS1 => ?_)
  have e : cA = cA0 := hun _ _ (hK1.2 3 (cA, ty) rfl).2 (hK.2 t0 _ ht).2
  subst e
  exact kk q H1 hP1 hD1 hS1
theorem un_int (c c' : ClassId) (h : va_RA s c .int) (h' : va_RA s c' .int) : c = c' := Option.some.inj ((show s.vm.findClass _ = some c from h).symm.trans h')
theorem un_long (c c' : ClassId) (h : va_RA s c .long) (h' : va_RA s c' .long) : c = c' := Option.some.inj ((show s.vm.findClass _ = some c from h).symm.trans h')
theorem un_bool (c c' : ClassId) (h : va_RA s c .boolean) (h' : va_RA s c' .boolean) : c = c' := Option.some.inj ((show s.vm.findClass _ = some c from h).symm.trans h')
theorem rtN {F : (Nat → Nat) → va_W} (u : Nat → Nat) (hx : p.tables.exec = Jvm.exec) (hb : c.code = cc) (hr : meth.sig.returnType = none) (hlocks : meth.locks = false) (hK : va_K D vwCl (TY cI cJ cZ) s) (hP : va_P D vwCl (F u) H) (hD : va_D A (F u)) (hS : va_S A s.heap H locs) (hdg : decode cc pc = .ok (.return_, 1)) : W p l e R s m args below meth c H locs cells slots (MQ below (QN D cI cJ cZ F A) args s cells slots A) (F0 m pc ls []) :=
  W.vret hx hb hr (fun t ht hW => ⟨⟨u, rfl, trivial, ⟨by rw [ht]; exact hP, va_K.moved hW.alike hK⟩, hD⟩, hS.F ht⟩) hS.2.2 hdg hlocks
variable {y : MethodName} {bytes : ByteArray} {maxL index mc ms : Nat} {rm : Room} {b : Nat} {e0 : va_E} {F : (Nat → Nat) → va_W}
theorem wc_n {a : Array Value} (hr : va_Run p l e R s m args below meth c H locs cells slots mc ms (F0 m pc ls st0) rest (QN D cI cJ cZ F (va_A [(b, e0)] H.size) a) (va_A [(b, e0)] H.size)) (hP : va_P D vwCl (wr ++ [(b, e0)]) H) (hD : va_D A (wr ++ [(b, e0)])) (hS : va_S A s.heap H locs) (hA : ∀ q : Nat, s.heap.size ≤ q → A q)
    (kk : ∀ (u : Nat → Nat) (H1 : Heap) (locs1 : List Loc), va_P D vwCl (wr ++ F u) H1 → va_D A (wr ++ F u) → va_S A s.heap H1 locs1 → W p l e R s m args below meth c H1 locs1 (cells + mc) (slots + ms) Q (F0 m (pc + 3) ls rest)) : W p l e R s m args below meth c H locs cells slots Q (F0 m pc ls st0) := by
  have hF : ∀ q, va_A [(b, e0)] H.size q → A q := va_free hD hS hA [wr.length] (by simp)
  refine va_callv hr hS (fun q _ h => hF q h) hF (fun u t H1 locs1 ht hvm hw hB hz1 hk1 hS1 => ?_)
  obtain ⟨⟨hP1, hK1⟩, hD1⟩ := hB
  rw [ht] at hP1
  obtain ⟨h1, h2⟩ := join_last hP hD hk1 hF hP1 hD1
  exact kk u H1 locs1 h1 h2 hS1
theorem pre_n (hE : EN en A s s.heap) (hK : va_K D vwCl (TY cI cJ cZ) s) (hP : va_P D vwCl (wr ++ [(b, e0)]) H) (hD : va_D A (wr ++ [(b, e0)])) (hS : va_S A s.heap H locs) (hA : ∀ q : Nat, s.heap.size ≤ q → A q) : ∀ U : State, U.heap = H → s.WarmedH U.vm → PC D cI cJ cZ en [.ref b] [(b, e0)] H.size ([.ref b] : List Value).toArray U :=
  pre_c hE hK hP hD hS hA [wr.length] (by simp) rfl
/-- a constructor, called -/
theorem cIn (S : CallFix p m c cc nL s args lw_g own) (hE : EN en A s s.heap) (hK : va_K D vwCl (TY cI cJ cZ) s) (hP : va_P D vwCl (wr ++ [(b, e0)]) H) (hD : va_D A (wr ++ [(b, e0)])) (hS : va_S A s.heap H locs) (hA : ∀ q : Nat, s.heap.size ≤ q → A q)
    (hM : Met l y (Cond.code y bytes maxL none :: lw_g) rm (PC D cI cJ cZ en [.ref b] [(b, e0)] H.size) (QN D cI cJ cZ F (va_A [(b, e0)] H.size)) mc ms (va_A [(b, e0)] H.size)) (hc : Cond.code y bytes maxL none ∈ lw_g) (hi : Cond.initialized y.cls ∈ lw_g) (hl : Cond.methodLink own index y ∈ lw_g) (hn : Cond.instanceMethod y ∈ lw_g)
    (hd : y.cls ≠ "java/lang/invoke/MethodHandle" ∧ y.cls ≠ "java/lang/invoke/VarHandle" ∧ (parseMethodDescriptor y.desc).map (fun d => d.parameters.length) = some 0) (hy : y.name = "<init>") (hrm : rm.cells = mc ∧ rm.slots = ms) (hR : rm.frames + 1 ≤ R.frames ∧ 8 + (maxL + 11) + rm.locals ≤ R.locals)
    (hsize : lv_has ls nL lv) (hst : st0 = .ref b :: rest) (hroom : (rest.map fun v => v.category).sum ≤ 8) (hcs : cells + mc ≤ R.cells ∧ slots + ms ≤ R.slots) (hdg : decode cc pc = .ok (.invokespecial index, 3))
    (kk : ∀ (u : Nat → Nat) (H1 : Heap) (locs1 : List Loc), va_P D vwCl (wr ++ F u) H1 → va_D A (wr ++ F u) → va_S A s.heap H1 locs1 → W p l e R s m args below meth c H1 locs1 (cells + mc) (slots + ms) Q (F0 m (pc + 3) ls rest)) : W p l e R s m args below meth c H locs cells slots Q (F0 m pc ls st0) :=
  wc_n (va_runI (As := []) (rest := rest) (b := b) S hM ⟨callB_of 0 S.2.2.2.2 (gN hc) rfl hrm.1 hrm.2 (S.2.2.2.2 _ hi) (S.2.2.2.2 _ hl) hd hR, hy, S.2.2.2.2 _ hn⟩ ⟨PC.blind, pre_n hE hK hP hD hS hA⟩ rfl rfl hsize.1 hst (lv_room hroom) hdg hcs) hP hD hS hA kk
theorem cInN {host : String} (S : CallFix p m c cc nL s args lw_g own) (hE : EN en A s s.heap) (hK : va_K D vwCl (TY cI cJ cZ) s) (hP : va_P D vwCl (wr ++ [(b, e0)]) H) (hD : va_D A (wr ++ [(b, e0)])) (hS : va_S A s.heap H locs) (hA : ∀ q : Nat, s.heap.size ≤ q → A q)
    (hM : Met l y (Cond.code y bytes maxL none :: lw_g) rm (PC D cI cJ cZ en [.ref b] [(b, e0)] H.size) (QN D cI cJ cZ F (va_A [(b, e0)] H.size)) mc ms (va_A [(b, e0)] H.size)) (hc : Cond.code y bytes maxL none ∈ lw_g) (hi : Cond.initialized y.cls ∈ lw_g) (hl : Cond.methodLinkNest own index y host ∈ nestW) (hn : Cond.instanceMethod y ∈ lw_g)
    (hd : y.cls ≠ "java/lang/invoke/MethodHandle" ∧ y.cls ≠ "java/lang/invoke/VarHandle" ∧ (parseMethodDescriptor y.desc).map (fun d => d.parameters.length) = some 0) (hy : y.name = "<init>") (hrm : rm.cells = mc ∧ rm.slots = ms) (hR : rm.frames + 1 ≤ R.frames ∧ 8 + (maxL + 11) + rm.locals ≤ R.locals)
    (hsize : lv_has ls nL lv) (hst : st0 = .ref b :: rest) (hroom : (rest.map fun v => v.category).sum ≤ 8) (hcs : cells + mc ≤ R.cells ∧ slots + ms ≤ R.slots) (hdg : decode cc pc = .ok (.invokespecial index, 3))
    (kk : ∀ (u : Nat → Nat) (H1 : Heap) (locs1 : List Loc), va_P D vwCl (wr ++ F u) H1 → va_D A (wr ++ F u) → va_S A s.heap H1 locs1 → W p l e R s m args below meth c H1 locs1 (cells + mc) (slots + ms) Q (F0 m (pc + 3) ls rest)) : W p l e R s m args below meth c H locs cells slots Q (F0 m pc ls st0) :=
  wc_n (va_runIN (As := []) (rest := rest) (b := b) (host := host) S hM ⟨va_cnB 0 S.2.2.2.2 (gN hc) rfl hrm.1 hrm.2 (hE.2.2.2.2.2.2.2.2 _ hl) (S.2.2.2.2 _ hi) hd hR, hy, S.2.2.2.2 _ hn⟩ ⟨PC.blind, pre_n hE hK hP hD hS hA⟩ rfl rfl hsize.1 hst (lv_room hroom) hdg hcs) hP hD hS hA kk
end NEW1
