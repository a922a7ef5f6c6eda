section SUP
/-! own support: functions with a failure, the uniform contract, calls, ends -/
def FU : Nat := 5000
def gd {α : Type} (c : Prop) [Decidable c] (x : Option α) : Option α := if c then x else none
theorem gd_some {α : Type} {c : Prop} [Decidable c] {x : Option α} {r : α} (h : gd c x = some r) : c ∧ x = some r := by
  unfold gd at h
  by_cases hc : c
  · rw [if_pos hc] at h
    exact ⟨hc, h⟩
  · rw [if_neg hc] at h
    cases h
theorem gd_pos {α : Type} {c : Prop} [Decidable c] {x : Option α} (hc : c) : gd c x = x := if_pos hc
theorem bd_some {α β : Type} {x : Option α} {f : α → Option β} {r : β} (h : x.bind f = some r) : ∃ z, x = some z ∧ f z = some r := by
  cases x with
  | none => cases h
  | some z => exact ⟨z, rfl, h⟩
abbrev ib (i : Int32) (n : Nat) : Prop := ¬ (i < 0 ∨ n ≤ i.toNatClampNeg)
abbrev EnT : Type := (Nat → Nat) × (Nat → Nat) × Nat × Nat × Option Nat
def colF (j : Nat) : Int32 := ([0, 1, 1, 1, 0, -1, -1, -1] : List Int32).getD j 0
def rowF (j : Nat) : Int32 := ([-1, -1, 0, 1, 1, 1, 0, -1] : List Int32).getD j 0
def strN : Nat := 18
def strTx : List String := ["plan", "rock", "floor", "at", "gone", "law", "free", "night", "fade", "WW", "XYS", "XY", "TXF", "T", "LDL", "HHN", "A", ""]
def strIx (i : Nat) : Nat := 85 + (if i = 0 then 0 else 2 * i + 4)
def strByt : List (List Int32) := [[112, 108, 97, 110], [114, 111, 99, 107], [102, 108, 111, 111, 114], [97, 116], [103, 111, 110, 101], [108, 97, 119], [102, 114, 101, 101], [110, 105, 103, 104, 116], [102, 97, 100, 101], [87, 87], [88, 89, 83], [88, 89], [84, 88, 70], [84], [76, 68, 76], [72, 72, 78], [65], []]
def strLen : List Nat := [4, 4, 5, 2, 4, 3, 4, 5, 4, 2, 3, 2, 3, 1, 3, 3, 1, 0]
def nestW : List Cond := [.methodLinkNest RX1 47 yX9_isPerson RX9, .methodLinkNest RX2 71 yX9_isPerson RX9, .methodLinkNest RX9 11 yX7_init RX9, .methodLinkNest RX9 18 yX5_init RX9, .methodLinkNest RX9 35 yX1_init RX9, .methodLinkNest RX9 42 yX4_init RX9, .methodLinkNest RX9 52 yX8_init RX9, .methodLinkNest RX9 62 yX0_init RX9, .methodLinkNest RX9 69 yX3_init RX9, .methodLinkNest RX9 76 yX6_init RX9, .methodLinkNest RX4 18 yX1_init RX9]
/-- what nobody writes: the class's texts, its two static rows, String's own flag, the links to nest mates -/
def EN (en : EnT) (A : Nat → Prop) (U : State) (H : Heap) : Prop :=
  vk_S strN strLen strByt en.1 en.2.1 A U H ∧ (∀ i : Nat, i < strN → vk_R RX5 (strIx i) (strTx.getD i "") (en.1 i) U) ∧ va_Z RX2 "COLUMNS_ON" "[I" (.ref en.2.2.1) A U H ∧ va_T .int en.2.2.1 8 (fun j => .int (colF j)) A U H ∧ va_Z RX2 "ROWS_ON" "[I" (.ref en.2.2.2.1) A U H ∧ va_T .int en.2.2.2.1 8 (fun j => .int (rowF j)) A U H ∧ va_Z "java/lang/String" "COMPACT_STRINGS" "Z" (.int 1) A U H ∧ va_Z "jdk/internal/util/Preconditions" "SIOOBE_FORMATTER" "Ljava/util/function/BiFunction;" (va_rf en.2.2.2.2) A U H ∧ ∀ w ∈ nestW, va_Nw w U
theorem nestW_warm {s U : State} (hW : s.WarmedH U.vm) (h : ∀ w ∈ nestW, va_Nw w s) : ∀ w ∈ nestW, va_Nw w U := by
  intro w hw
  have h1 := h w hw
  simp only [nestW, List.mem_cons, List.not_mem_nil, or_false] at hw
  rcases hw with rfl | rfl | rfl | rfl | rfl | rfl | rfl | rfl | rfl | rfl | rfl <;> exact va_Nw.warmM hW h1
theorem nestW_same {s U : State} (hv : s.vm = U.vm) (h : ∀ w ∈ nestW, va_Nw w s) : ∀ w ∈ nestW, va_Nw w U := by
  intro w hw
  have h1 := h w hw
  simp only [nestW, List.mem_cons, List.not_mem_nil, or_false] at hw
  rcases hw with rfl | rfl | rfl | rfl | rfl | rfl | rfl | rfl | rfl | rfl | rfl <;> exact va_Nw.same rfl hv h1
theorem EN.kept {en : EnT} {A : Nat → Prop} {U : State} {H H1 : Heap} (h : EN en A U H) (hq : ∀ a : Nat, a < H.size → ¬ A a → H1[a]? = H[a]?) : EN en A U H1 := by
  obtain ⟨h1, h2, h3, h4, h5, h6, h7, h8, h9⟩ := h
  exact ⟨h1.kept hq, h2, h3.kept hq, h4.kept hq, h5.kept hq, h6.kept hq, h7.kept hq, h8.kept hq, h9⟩
theorem EN.narrow {en : EnT} {A B : Nat → Prop} {U : State} {H : Heap} (h : EN en A U H) (hAB : ∀ q, B q → A q) : EN en B U H := by
  obtain ⟨h1, h2, h3, h4, h5, h6, h7, h8, h9⟩ := h
  exact ⟨h1.narrow hAB, h2, h3.narrow hAB, h4.narrow hAB, h5.narrow hAB, h6.narrow hAB, h7.narrow hAB, h8.narrow hAB, h9⟩
theorem EN.warm {en : EnT} {A : Nat → Prop} {s U : State} {H : Heap} (hW : s.WarmedH U.vm) (h : EN en A s H) : EN en A U H := by
  obtain ⟨h1, h2, h3, h4, h5, h6, h7, h8, h9⟩ := h
  exact ⟨h1.moved hW.alike, fun i hi => (h2 i hi).warm hW, h3.moved hW.alike, h4.moved hW.alike, h5.moved hW.alike, h6.moved hW.alike, h7.moved hW.alike, h8.moved hW.alike, nestW_warm hW h9⟩
theorem EN.same {en : EnT} {A : Nat → Prop} {s U : State} {H : Heap} (hv : U.vm = s.vm) (h : EN en A s H) : EN en A U H := by
  obtain ⟨h1, h2, h3, h4, h5, h6, h7, h8, h9⟩ := h
  have ha : s.vm.Alike U.vm := by rw [hv]; exact Vm.Alike.refl _
  exact ⟨h1.moved ha, fun i hi => (h2 i hi).same hv, h3.moved ha, h4.moved ha, h5.moved ha, h6.moved ha, h7.moved ha, h8.moved ha, nestW_same hv.symm h9⟩
abbrev TY (cI cJ cZ : ClassId) : List (ClassId × FieldType) := [(cI, .int), (cJ, .long), (cZ, .boolean)]
def PC (D : va_G) (cI cJ cZ : ClassId) (en : EnT) (av : List Value) (ws : va_W) (sz : Nat) : Array Value → State → Prop :=
  va_Pc av (fun U => U.heap.size = sz ∧ va_P D vwCl ws U.heap ∧ va_K D vwCl (TY cI cJ cZ) U ∧ va_D (fun _ => True) ws ∧ EN en (va_A ws sz) U U.heap)
theorem PC.blind {D : va_G} {cI cJ cZ : ClassId} {en : EnT} {av : List Value} {ws : va_W} {sz : Nat} : FrameBlind (PC D cI cJ cZ en av ws sz) := by
  intro a U g mk h
  obtain ⟨h1, h2, h3, h4, h5, h6⟩ := h
  exact ⟨h1, h2, h3, va_K.moved (u := U) (U := U.calling g mk a) (Vm.Alike.refl U.vm) h4, h5, EN.same (s := U) (U := U.calling g mk a) rfl h6⟩
abbrev BW (D : va_G) (cI cJ cZ : ClassId) (ws' : va_W) (t : State) : Prop := va_P D vwCl ws' t.heap ∧ va_K D vwCl (TY cI cJ cZ) t
abbrev QI (D : va_G) (cI cJ cZ : ClassId) (ws' : va_W) (z : Int32) (A : Nat → Prop) : Array Value → State → Outcome → State → Prop := va_Qi (fun (r : Int32) (_ : Unit) => r = z) (fun _ t => BW D cI cJ cZ ws' t) A
abbrev QO (D : va_G) (cI cJ cZ : ClassId) (ws' : va_W) (z : Option Nat) (A : Nat → Prop) : Array Value → State → Outcome → State → Prop := va_Qq (fun (r : Option Nat) (_ : Unit) => r = z) (fun _ t => BW D cI cJ cZ ws' t) A
abbrev QV (D : va_G) (cI cJ cZ : ClassId) (ws' : va_W) (A : Nat → Prop) : Array Value → State → Outcome → State → Prop := va_Qv (fun (_ : Unit) => True) (fun _ t => BW D cI cJ cZ ws' t) A
theorem mk_met {l : Launch} {y : MethodName} {rm : Room} {D : va_G} {cI cJ cZ : ClassId} {en : EnT} {av : List Value} {ws : va_W} {sz : Nat} {Qc : (Nat → Prop) → Array Value → State → Outcome → State → Prop} {cc : ByteArray} {maxL : Nat} {ret : Option FieldType} (own : String) (hy : plainName y.cls = true) (ho : y.cls = own) (hlen : (lg_sl av).length ≤ maxL)
    (body : ∀ (p : Program) (e : Env) (s : State) (m : MethodId) (below : List Frame) (meth : Method) (c : Code) (ls : Array Slot) (A : Nat → Prop), p.tables.exec = Jvm.exec → c.code = cc → meth.sig.returnType = ret → c.maxLocals = maxL → s.vm.findClass own = some m.cls → (∀ w ∈ lw_g, w.before av.toArray s = true) → meth.locks = false → (∀ q : Nat, s.heap.size ≤ q → A q) → va_K D vwCl (TY cI cJ cZ) s → EN en A s s.heap → lv_has ls maxL (lv_args 0 av) → va_D A ws → ∀ (H : Heap) (locs : List Loc), va_P D vwCl ws H → va_S A s.heap H locs → W p l e rm s m av.toArray below meth c H locs 0 0 (MQ below (Qc A) av.toArray s 0 0 A) (F0 m 0 ls [])) :
    Met l y (Cond.code y cc maxL ret :: lw_g) rm (PC D cI cJ cZ en av ws sz) (Qc (va_A ws sz)) 0 0 (va_A ws sz) := by
  refine Met.ofW (cc := cc) (maxL := maxL) (ret := ret) hy rfl ?_
  intro p e s m args below meth c s₁ B hml hv
  obtain ⟨rfl, hsz, hP, hK, hD0, hE⟩ := hv
  subst hsz
  have hts := atoms_spec (ws := Cond.code y cc maxL ret :: lw_g) B.pre
  rw [lg_entry_eq]
  exact body p e s m below meth c _ (va_A ws s.heap.size) B.exec B.bytes B.returns hml (by rw [← ho]; exact findClass_of_methodNamed B.named) (fun w h => hts w (List.mem_cons_of_mem _ h)) B.notSynchronized (fun q h => Or.inr h) hK hE (lv_entry av hlen) hD0.self s.heap [] hP va_S.rf
/-! the frame rule: the callee's cells, in their places -/
def lkw : List Nat → va_W → Nat → (Nat × va_E) → (Nat × va_E)
  | i :: is, q :: qs, j, d => cond (Nat.beq i j) q (lkw is qs j d)
  | [], _, _, d => d
  | _ :: _, [], _, d => d
def updsA : Nat → va_W → List Nat → va_W → va_W
  | _, [], _, _ => []
  | n, q :: ws, is, wc => lkw is wc n q :: updsA (n + 1) ws is wc
def upds (ws : va_W) (isC : List Nat) (wc' : va_W) : va_W := updsA 0 ws isC wc'
theorem lkw_spec : ∀ (isC : List Nat) (wc' : va_W), isC.length = wc'.length → ∀ (j : Nat) (d : Nat × va_E), (∃ k : Nat, isC[k]? = some j ∧ wc'[k]? = some (lkw isC wc' j d)) ∨ (j ∉ isC ∧ lkw isC wc' j d = d) := by
  intro isC
  induction isC with
  | nil =>
    intro wc' h j d
    exact Or.inr ⟨List.not_mem_nil, rfl⟩
  | cons i is ih =>
    intro wc' h j d
    cases wc' with
    | nil => simp at h
    | cons q qs =>
      by_cases hij : i = j
      · subst hij
        refine Or.inl ⟨0, rfl, ?_⟩
        show some q = some (cond (Nat.beq i i) q (lkw is qs i d))
        rw [Nat.beq_refl]
        rfl
      · have hb : Nat.beq i j = false := by
          cases hq : Nat.beq i j with
          | false => rfl
          | true => exact absurd (Nat.eq_of_beq_eq_true hq) hij
        have e : lkw (i :: is) (q :: qs) j d = lkw is qs j d := by
          show cond (Nat.beq i j) q (lkw is qs j d) = _
          rw [hb]
          rfl
        rw [e]
        rcases ih qs (by simpa using h) j d with ⟨k, h1, h2⟩ | ⟨h1, h2⟩
        · exact Or.inl ⟨k + 1, by simpa using h1, by simpa using h2⟩
        · exact Or.inr ⟨by simp [h1]; exact fun e => hij e.symm, h2⟩
theorem updsA_get : ∀ (ws : va_W) (isC : List Nat) (wc' : va_W) (n j : Nat), (updsA n ws isC wc')[j]? = (ws[j]?).map (lkw isC wc' (n + j)) := by
  intro ws
  induction ws with
  | nil => intro isC wc' n j; rfl
  | cons q ws ih =>
    intro isC wc' n j
    cases j with
    | zero => rfl
    | succ j =>
      show (updsA (n + 1) ws isC wc')[j]? = _
      rw [ih, Nat.add_right_comm, Nat.add_assoc]
      rfl
theorem upds_mem (isC : List Nat) (wc' ws : va_W) (hl : isC.length = wc'.length) (j : Nat) (q : Nat × va_E) (h : (upds ws isC wc')[j]? = some q) : (∃ k : Nat, isC[k]? = some j ∧ wc'[k]? = some q) ∨ (j ∉ isC ∧ ws[j]? = some q) := by
  rw [upds, updsA_get, Nat.zero_add] at h
  cases hw : ws[j]? with
  | none => rw [hw] at h; cases h
  | some q0 =>
    rw [hw] at h
    have e : lkw isC wc' j q0 = q := Option.some.inj h
    rcases lkw_spec isC wc' hl j q0 with ⟨k, h1, h2⟩ | ⟨h1, h2⟩
    · exact Or.inl ⟨k, h1, by rw [← e]; exact h2⟩
    · exact Or.inr ⟨h1, by rw [← e, h2]⟩
theorem upds_adr {ws wc wc' : va_W} {isC : List Nat} (hC : isC.map (fun i => ws[i]?) = wc.map some) (had : wc'.map (·.1) = wc.map (·.1)) {j : Nat} {q : Nat × va_E} (h : (upds ws isC wc')[j]? = some q) : ∃ q0 : Nat × va_E, ws[j]? = some q0 ∧ q0.1 = q.1 := by
  have hl : isC.length = wc'.length := by
    have h1 := congrArg List.length hC
    have h2 := congrArg List.length had
    simp at h1 h2
    omega
  rcases upds_mem isC wc' ws hl j q h with ⟨k, h1, h2⟩ | ⟨-, h2⟩
  · have h3 : (isC.map (fun i => ws[i]?))[k]? = (wc.map some)[k]? := by rw [hC]
    rw [List.getElem?_map, List.getElem?_map, h1] at h3
    have h4 : (wc'.map (·.1))[k]? = (wc.map (·.1))[k]? := by rw [had]
    rw [List.getElem?_map, List.getElem?_map, h2] at h4
    cases hk : wc[k]? with
    | none => rw [hk] at h4; simp at h4
    | some q0 =>
      rw [hk] at h3 h4
      exact ⟨q0, by simpa using h3, by simpa using h4.symm⟩
  · exact ⟨q, h2, rfl⟩
theorem D_upds {A : Nat → Prop} {ws wc wc' : va_W} {isC : List Nat} (hD : va_D A ws) (hC : isC.map (fun i => ws[i]?) = wc.map some) (had : wc'.map (·.1) = wc.map (·.1)) : va_D A (upds ws isC wc') := by
  refine ⟨fun i j p q hp hq e => ?_, fun k q hk => ?_⟩
  · obtain ⟨p0, h1, h2⟩ := upds_adr hC had hp
    obtain ⟨q0, h3, h4⟩ := upds_adr hC had hq
    exact hD.1 i j p0 q0 h1 h3 (by rw [h2, h4, e])
  · obtain ⟨q0, h1, h2⟩ := upds_adr hC had hk
    rw [← h2]
    exact hD.2 k q0 h1
theorem P_upds {A : Nat → Prop} {D : va_G} {cl : List vw_C} {ws wc wc' : va_W} {isC : List Nat} {H H1 : Heap} (hP : va_P D cl ws H) (hD : va_D A ws) (hC : isC.map (fun i => ws[i]?) = wc.map some) (had : wc'.map (·.1) = wc.map (·.1)) (hk : ∀ q : Nat, q < H.size → ¬ va_A wc H.size q → H1[q]? = H[q]?) (hP1 : va_P D cl wc' H1) : va_P D cl (upds ws isC wc') H1 := by
  intro j q hq
  have hl : isC.length = wc'.length := by
    have h1 := congrArg List.length hC
    have h2 := congrArg List.length had
    simp at h1 h2
    omega
  rcases upds_mem isC wc' ws hl j q hq with ⟨k, h1, h2⟩ | ⟨h1, h2⟩
  · exact hP1 k q h2
  · have hlt := (hP j q h2).lt
    refine (hP j q h2).kept (hk q.1 hlt ?_)
    intro hA
    rcases hA with ⟨k, e, h3⟩ | h3
    · have h4 : (isC.map (fun i => ws[i]?))[k]? = (wc.map some)[k]? := by rw [hC]
      rw [List.getElem?_map, List.getElem?_map, h3] at h4
      cases hi : isC[k]? with
      | none => rw [hi] at h4; simp at h4
      | some i =>
        rw [hi] at h4
        have h5 : ws[i]? = some (q.1, e) := by simpa using h4
        have h6 := hD.1 j i q (q.1, e) h2 h5 rfl
        subst h6
        exact h1 (List.mem_of_getElem? hi)
    · omega
end SUP
section SUPB
def subAt : List Nat → va_W → va_W → Prop
  | [], _, [] => True
  | i :: is, ws, q :: wc => ws[i]? = some q ∧ subAt is ws wc
  | [], _, _ :: _ => False
  | _ :: _, _, [] => False
theorem subAt_map : ∀ (is : List Nat) (ws wc : va_W), subAt is ws wc → is.map (fun i => ws[i]?) = wc.map some := by
  intro is
  induction is with
  | nil =>
    intro ws wc h
    cases wc with
    | nil => rfl
    | cons q wc => exact absurd h id
  | cons i is ih =>
    intro ws wc h
    cases wc with
    | nil => exact absurd h id
    | cons q wc =>
      rw [List.map_cons, List.map_cons, h.1, ih ws wc h.2]
def sameAd : va_W → va_W → Prop
  | [], [] => True
  | p :: ps, q :: qs => p.1 = q.1 ∧ sameAd ps qs
  | [], _ :: _ => False
  | _ :: _, [] => False
theorem sameAd_map : ∀ (w' w : va_W), sameAd w' w → w'.map (·.1) = w.map (·.1) := by
  intro w'
  induction w' with
  | nil =>
    intro w h
    cases w with
    | nil => rfl
    | cons q w => exact absurd h id
  | cons p ps ih =>
    intro w h
    cases w with
    | nil => exact absurd h id
    | cons q w =>
      rw [List.map_cons, List.map_cons, h.1, ih w h.2]
end SUPB
theorem ch_3 {a b : Option Nat} {z : Nat} (h0 : ¬ z = 0) (h1 : ¬ z = 1) : ([a, b, none] : List (Option Nat)).getD z none = none := by
  match z, h0, h1 with
  | 0, h, _ => exact absurd rfl h
  | 1, _, h => exact absurd rfl h
  | 2, _, _ => rfl
  | n + 3, _, _ => rfl
section SUPC
variable {p : Program} {l : Launch} {e : Env} {R : Room} {s : State} {m : MethodId} {args : Array Value} {below : List Frame} {meth : Method} {c : Code} {H : Heap} {locs : List Loc} {cells slots : Nat} {Q : State → Prop}
variable {pc nL : Nat} {cc : ByteArray} {ls : Array Slot} {rest st0 : List Value} {A : Nat → Prop} {own : String} {D : va_G} {cI cJ cZ : ClassId} {en : EnT} {ws wc wc' : va_W} {lv : List (Nat × Value)}
theorem wc_i {z : Int32} {a : Array Value} (hr : va_Run p l e R s m args below meth c H locs cells slots 0 0 (F0 m pc ls st0) rest (QI D cI cJ cZ wc' z (va_A wc H.size) a) (va_A wc H.size)) (hP : va_P D vwCl ws H) (hD : va_D A ws) (hS : va_S A s.heap H locs) (hA : ∀ q : Nat, s.heap.size ≤ q → A q) (isC : List Nat) (hC : isC.map (fun i => ws[i]?) = wc.map some) (had : wc'.map (·.1) = wc.map (·.1))
    (kk : ∀ (H1 : Heap) (locs1 : List Loc), va_P D vwCl (upds ws isC wc') H1 → va_D A (upds ws isC wc') → va_S A s.heap H1 locs1 → W p l e R s m args below meth c H1 locs1 cells slots Q (F0 m (pc + 3) ls (.int z :: rest))) : W p l e R s m args below meth c H locs cells slots Q (F0 m pc ls st0) := by
  have hF := va_free hD hS hA isC hC
  refine va_calli hr hS (fun q _ h => hF q h) hF (fun r u t H1 locs1 ht hvm hw hB hz1 hk1 hS1 => ?_)
  subst hw
  obtain ⟨hP1, hK1⟩ := hB
  rw [ht] at hP1
  exact kk H1 locs1 (P_upds hP hD hC had hk1 hP1) (D_upds hD hC had) hS1
theorem wc_o {z : Option Nat} {a : Array Value} (hr : va_Run p l e R s m args below meth c H locs cells slots 0 0 (F0 m pc ls st0) rest (QO D cI cJ cZ wc' z (va_A wc H.size) a) (va_A wc H.size)) (hP : va_P D vwCl ws H) (hD : va_D A ws) (hS : va_S A s.heap H locs) (hA : ∀ q : Nat, s.heap.size ≤ q → A q) (isC : List Nat) (hC : isC.map (fun i => ws[i]?) = wc.map some) (had : wc'.map (·.1) = wc.map (·.1))
    (kk : ∀ (H1 : Heap) (locs1 : List Loc), va_P D vwCl (upds ws isC wc') H1 → va_D A (upds ws isC wc') → va_S A s.heap H1 locs1 → W p l e R s m args below meth c H1 locs1 cells slots Q (F0 m (pc + 3) ls (va_rf z :: rest))) : W p l e R s m args below meth c H locs cells slots Q (F0 m pc ls st0) := by
  have hF := va_free hD hS hA isC hC
  refine va_callq hr hS (fun q _ h => hF q h) hF (fun r u t H1 locs1 ht hvm hw hB hz1 hk1 hS1 => ?_)
  subst hw
  obtain ⟨hP1, hK1⟩ := hB
  rw [ht] at hP1
  exact kk H1 locs1 (P_upds hP hD hC had hk1 hP1) (D_upds hD hC had) hS1
theorem wc_v {a : Array Value} (hr : va_Run p l e R s m args below meth c H locs cells slots 0 0 (F0 m pc ls st0) rest (QV D cI cJ cZ wc' (va_A wc H.size) a) (va_A wc H.size)) (hP : va_P D vwCl ws H) (hD : va_D A ws) (hS : va_S A s.heap H locs) (hA : ∀ q : Nat, s.heap.size ≤ q → A q) (isC : List Nat) (hC : isC.map (fun i => ws[i]?) = wc.map some) (had : wc'.map (·.1) = wc.map (·.1))
    (kk : ∀ (H1 : Heap) (locs1 : List Loc), va_P D vwCl (upds ws isC wc') H1 → va_D A (upds ws isC wc') → va_S A s.heap H1 locs1 → W p l e R s m args below meth c H1 locs1 cells slots Q (F0 m (pc + 3) ls rest)) : W p l e R s m args below meth c H locs cells slots Q (F0 m pc ls st0) := by
  have hF := va_free hD hS hA isC hC
  refine va_callv hr hS (fun q _ h => hF q h) hF (fun u t H1 locs1 ht hvm hw hB hz1 hk1 hS1 => ?_)
  obtain ⟨hP1, hK1⟩ := hB
  rw [ht] at hP1
  exact kk H1 locs1 (P_upds hP hD hC had hk1 hP1) (D_upds hD hC had) hS1
theorem pre_c {As : List Value} (hE : EN en A s s.heap) (hK : va_K D vwCl (TY cI cJ cZ) s) (hP : va_P D vwCl ws H) (hD : va_D A ws) (hS : va_S A s.heap H locs) (hA : ∀ q : Nat, s.heap.size ≤ q → A q) (isC : List Nat) (hC : isC.map (fun i => ws[i]?) = wc.map some) (hn : va_nd isC = true) : ∀ U : State, U.heap = H → s.WarmedH U.vm → PC D cI cJ cZ en As wc H.size As.toArray U := by
  intro U hU hW
  have hF := va_free hD hS hA isC hC
  have hPs : va_P D vwCl wc H := hP.sub isC (by
    have h1 : isC.filterMap (fun i => ws[i]?) = (isC.map (fun i => ws[i]?)).filterMap id := by rw [List.filterMap_map]; rfl
    rw [h1, hC, List.filterMap_map]
    simp)
  refine ⟨rfl, by rw [hU], by rw [hU]; exact hPs, va_K.moved hW.alike hK, (hD.sub isC hn hC).weaken (fun _ _ _ _ => trivial), ?_⟩
  rw [hU]
  exact ((hE.kept hS.2.1).narrow hF).warm hW
variable {y : MethodName} {bytes : ByteArray} {maxL index : Nat} {ret : Option FieldType} {rm : Room} {C : String} {b : Nat} {As : List Value}
theorem gV (h1 : Cond.methodLink own index y ∈ lw_g) (h2 : Cond.instanceMethod y ∈ lw_g) (h3 : Cond.selects C y y ∈ lw_g) (h4 : Cond.initialized C ∈ lw_g) (h5 : Cond.code y bytes maxL ret ∈ lw_g) : GoodIn lw_g (wsV own index C y (Cond.code y bytes maxL ret :: lw_g)) := by
  refine lw_goodL (fun w hw => ?_)
  simp only [wsV, List.mem_append, List.mem_cons, List.not_mem_nil, or_false] at hw
  rcases hw with (rfl | rfl | rfl | rfl) | rfl | h
  · exact h1
  · exact h2
  · exact h3
  · exact h4
  · exact h5
  · exact h
theorem gS (h1 : Cond.methodLink own index y ∈ lw_g) (h2 : Cond.static y ∈ lw_g) (h4 : Cond.initialized y.cls ∈ lw_g) (h5 : Cond.code y bytes maxL ret ∈ lw_g) : GoodIn lw_g (va_wsS own index y (Cond.code y bytes maxL ret :: lw_g)) := by
  refine lw_goodL (fun w hw => ?_)
  simp only [va_wsS, List.mem_append, List.mem_cons, List.not_mem_nil, or_false] at hw
  rcases hw with (rfl | rfl | rfl) | rfl | h
  · exact h1
  · exact h2
  · exact h4
  · exact h5
  · exact h
theorem gN (h5 : Cond.code y bytes maxL ret ∈ lw_g) : GoodIn lw_g (Cond.code y bytes maxL ret :: lw_g) := by
  refine lw_goodL (fun w hw => ?_)
  rcases List.mem_cons.mp hw with rfl | h
  · exact h5
  · exact h
/-- a virtual call that answers an int -/
theorem cVi {z : Int32} (S : CallFix p m c cc nL s args lw_g own) (hE : EN en A s s.heap) (hK : va_K D vwCl (TY cI cJ cZ) s) (hP : va_P D vwCl ws H) (hD : va_D A ws) (hS : va_S A s.heap H locs) (hA : ∀ q : Nat, s.heap.size ≤ q → A q)
    (hM : Met l y (Cond.code y bytes maxL ret :: lw_g) rm (PC D cI cJ cZ en (.ref b :: As) wc H.size) (QI D cI cJ cZ wc' z (va_A wc H.size)) 0 0 (va_A wc H.size)) (hT : GoodIn lw_g (wsV own index C y (Cond.code y bytes maxL ret :: lw_g)))
    (hd : y.cls = C ∧ y.cls ≠ "java/lang/invoke/MethodHandle" ∧ y.cls ≠ "java/lang/invoke/VarHandle" ∧ (parseMethodDescriptor y.desc).map (fun d => d.parameters.length) = some As.length) (hrm : rm.cells = 0 ∧ rm.slots = 0) (hR : rm.frames + 1 ≤ R.frames ∧ 8 + (maxL + 11) + rm.locals ≤ R.locals)
    (isC : List Nat) (hC0 : subAt isC ws wc) (hn : va_nd isC = true) (had0 : sameAd wc' wc) (ci : Nat) {q : vw_C} {fs : List Value} (hc : vwCl[ci]? = some q) (hq : q.1 = C) (i0 : Nat) (he : ws[i0]? = some (b, .inr (ci, fs)))
    (hsize : lv_has ls nL lv) (hst : st0 = As.reverse ++ .ref b :: rest) (hroom : (rest.map fun v => v.category).sum ≤ 8) (hcs : cells ≤ R.cells ∧ slots ≤ R.slots) (hdg : decode cc pc = .ok (.invokevirtual index, 3))
    (kk : ∀ (H1 : Heap) (locs1 : List Loc), va_P D vwCl (upds ws isC wc') H1 → va_D A (upds ws isC wc') → va_S A s.heap H1 locs1 → W p l e R s m args below meth c H1 locs1 cells slots Q (F0 m (pc + 3) ls (.int z :: rest))) : W p l e R s m args below meth c H locs cells slots Q (F0 m pc ls st0) := by
  subst hq
  exact wc_i (va_runV (As := As) (rest := rest) (b := b) S hM (cwV As.length S.2.2.2.2 hT rfl hrm.1 hrm.2 hd hR) ⟨PC.blind, va_recv hK hP hc he, pre_c hE hK hP hD hS hA isC (subAt_map _ _ _ hC0) hn⟩ rfl rfl hsize.1 hst (lv_room hroom) hdg ⟨hcs.1, hcs.2⟩) hP hD hS hA isC (subAt_map _ _ _ hC0) (sameAd_map _ _ had0) kk
theorem cVv (S : CallFix p m c cc nL s args lw_g own) (hE : EN en A s s.heap) (hK : va_K D vwCl (TY cI cJ cZ) s) (hP : va_P D vwCl ws H) (hD : va_D A ws) (hS : va_S A s.heap H locs) (hA : ∀ q : Nat, s.heap.size ≤ q → A q)
    (hM : Met l y (Cond.code y bytes maxL ret :: lw_g) rm (PC D cI cJ cZ en (.ref b :: As) wc H.size) (QV D cI cJ cZ wc' (va_A wc H.size)) 0 0 (va_A wc H.size)) (hT : GoodIn lw_g (wsV own index C y (Cond.code y bytes maxL ret :: lw_g)))
    (hd : y.cls = C ∧ y.cls ≠ "java/lang/invoke/MethodHandle" ∧ y.cls ≠ "java/lang/invoke/VarHandle" ∧ (parseMethodDescriptor y.desc).map (fun d => d.parameters.length) = some As.length) (hrm : rm.cells = 0 ∧ rm.slots = 0) (hR : rm.frames + 1 ≤ R.frames ∧ 8 + (maxL + 11) + rm.locals ≤ R.locals)
    (isC : List Nat) (hC0 : subAt isC ws wc) (hn : va_nd isC = true) (had0 : sameAd wc' wc) (ci : Nat) {q : vw_C} {fs : List Value} (hc : vwCl[ci]? = some q) (hq : q.1 = C) (i0 : Nat) (he : ws[i0]? = some (b, .inr (ci, fs)))
    (hsize : lv_has ls nL lv) (hst : st0 = As.reverse ++ .ref b :: rest) (hroom : (rest.map fun v => v.category).sum ≤ 8) (hcs : cells ≤ R.cells ∧ slots ≤ R.slots) (hdg : decode cc pc = .ok (.invokevirtual index, 3))
    (kk : ∀ (H1 : Heap) (locs1 : List Loc), va_P D vwCl (upds ws isC wc') H1 → va_D A (upds ws isC wc') → va_S A s.heap H1 locs1 → W p l e R s m args below meth c H1 locs1 cells slots Q (F0 m (pc + 3) ls rest)) : W p l e R s m args below meth c H locs cells slots Q (F0 m pc ls st0) := by
  subst hq
  exact wc_v (va_runV (As := As) (rest := rest) (b := b) S hM (cwV As.length S.2.2.2.2 hT rfl hrm.1 hrm.2 hd hR) ⟨PC.blind, va_recv hK hP hc he, pre_c hE hK hP hD hS hA isC (subAt_map _ _ _ hC0) hn⟩ rfl rfl hsize.1 hst (lv_room hroom) hdg ⟨hcs.1, hcs.2⟩) hP hD hS hA isC (subAt_map _ _ _ hC0) (sameAd_map _ _ had0) kk
/-- a static call that answers an int -/
theorem cSi {z : Int32} (S : CallFix p m c cc nL s args lw_g own) (hE : EN en A s s.heap) (hK : va_K D vwCl (TY cI cJ cZ) s) (hP : va_P D vwCl ws H) (hD : va_D A ws) (hS : va_S A s.heap H locs) (hA : ∀ q : Nat, s.heap.size ≤ q → A q)
    (hM : Met l y (Cond.code y bytes maxL ret :: lw_g) rm (PC D cI cJ cZ en As wc H.size) (QI D cI cJ cZ wc' z (va_A wc H.size)) 0 0 (va_A wc H.size)) (hT : GoodIn lw_g (va_wsS own index y (Cond.code y bytes maxL ret :: lw_g)))
    (hd : y.cls ≠ "java/lang/invoke/MethodHandle" ∧ y.cls ≠ "java/lang/invoke/VarHandle" ∧ (parseMethodDescriptor y.desc).map (fun d => d.parameters.length) = some As.length) (hrm : rm.cells = 0 ∧ rm.slots = 0) (hR : rm.frames + 1 ≤ R.frames ∧ 8 + (maxL + 11) + rm.locals ≤ R.locals)
    (isC : List Nat) (hC0 : subAt isC ws wc) (hn : va_nd isC = true) (had0 : sameAd wc' wc)
    (hsize : lv_has ls nL lv) (hst : st0 = As.reverse ++ rest) (hroom : (rest.map fun v => v.category).sum ≤ 8) (hcs : cells ≤ R.cells ∧ slots ≤ R.slots) (hdg : decode cc pc = .ok (.invokestatic index, 3))
    (kk : ∀ (H1 : Heap) (locs1 : List Loc), va_P D vwCl (upds ws isC wc') H1 → va_D A (upds ws isC wc') → va_S A s.heap H1 locs1 → W p l e R s m args below meth c H1 locs1 cells slots Q (F0 m (pc + 3) ls (.int z :: rest))) : W p l e R s m args below meth c H locs cells slots Q (F0 m pc ls st0) :=
  wc_i (va_runS (As := As) (rest := rest) S hM (va_cwS As.length S.2.2.2.2 hT rfl hrm.1 hrm.2 hd hR) ⟨PC.blind, pre_c hE hK hP hD hS hA isC (subAt_map _ _ _ hC0) hn⟩ rfl rfl hsize.1 hst (lv_room hroom) hdg ⟨hcs.1, hcs.2⟩) hP hD hS hA isC (subAt_map _ _ _ hC0) (sameAd_map _ _ had0) kk
theorem cSv (S : CallFix p m c cc nL s args lw_g own) (hE : EN en A s s.heap) (hK : va_K D vwCl (TY cI cJ cZ) s) (hP : va_P D vwCl ws H) (hD : va_D A ws) (hS : va_S A s.heap H locs) (hA : ∀ q : Nat, s.heap.size ≤ q → A q)
    (hM : Met l y (Cond.code y bytes maxL ret :: lw_g) rm (PC D cI cJ cZ en As wc H.size) (QV D cI cJ cZ wc' (va_A wc H.size)) 0 0 (va_A wc H.size)) (hT : GoodIn lw_g (va_wsS own index y (Cond.code y bytes maxL ret :: lw_g)))
    (hd : y.cls ≠ "java/lang/invoke/MethodHandle" ∧ y.cls ≠ "java/lang/invoke/VarHandle" ∧ (parseMethodDescriptor y.desc).map (fun d => d.parameters.length) = some As.length) (hrm : rm.cells = 0 ∧ rm.slots = 0) (hR : rm.frames + 1 ≤ R.frames ∧ 8 + (maxL + 11) + rm.locals ≤ R.locals)
    (isC : List Nat) (hC0 : subAt isC ws wc) (hn : va_nd isC = true) (had0 : sameAd wc' wc)
    (hsize : lv_has ls nL lv) (hst : st0 = As.reverse ++ rest) (hroom : (rest.map fun v => v.category).sum ≤ 8) (hcs : cells ≤ R.cells ∧ slots ≤ R.slots) (hdg : decode cc pc = .ok (.invokestatic index, 3))
    (kk : ∀ (H1 : Heap) (locs1 : List Loc), va_P D vwCl (upds ws isC wc') H1 → va_D A (upds ws isC wc') → va_S A s.heap H1 locs1 → W p l e R s m args below meth c H1 locs1 cells slots Q (F0 m (pc + 3) ls rest)) : W p l e R s m args below meth c H locs cells slots Q (F0 m pc ls st0) :=
  wc_v (va_runS (As := As) (rest := rest) S hM (va_cwS As.length S.2.2.2.2 hT rfl hrm.1 hrm.2 hd hR) ⟨PC.blind, pre_c hE hK hP hD hS hA isC (subAt_map _ _ _ hC0) hn⟩ rfl rfl hsize.1 hst (lv_room hroom) hdg ⟨hcs.1, hcs.2⟩) hP hD hS hA isC (subAt_map _ _ _ hC0) (sameAd_map _ _ had0) kk
/-- a static call of a nest mate's private method, that answers an int -/
theorem cNi {z : Int32} {host : String} (S : CallFix p m c cc nL s args lw_g own) (hE : EN en A s s.heap) (hK : va_K D vwCl (TY cI cJ cZ) s) (hP : va_P D vwCl ws H) (hD : va_D A ws) (hS : va_S A s.heap H locs) (hA : ∀ q : Nat, s.heap.size ≤ q → A q)
    (hM : Met l y (Cond.code y bytes maxL ret :: lw_g) rm (PC D cI cJ cZ en As wc H.size) (QI D cI cJ cZ wc' z (va_A wc H.size)) 0 0 (va_A wc H.size)) (hG : Cond.code y bytes maxL ret ∈ lw_g) (hl : Cond.methodLinkNest own index y host ∈ nestW) (hini : Cond.initialized y.cls ∈ lw_g) (hsta : Cond.static y ∈ lw_g)
    (hd : y.cls ≠ "java/lang/invoke/MethodHandle" ∧ y.cls ≠ "java/lang/invoke/VarHandle" ∧ (parseMethodDescriptor y.desc).map (fun d => d.parameters.length) = some As.length) (hrm : rm.cells = 0 ∧ rm.slots = 0) (hR : rm.frames + 1 ≤ R.frames ∧ 8 + (maxL + 11) + rm.locals ≤ R.locals)
    (isC : List Nat) (hC0 : subAt isC ws wc) (hn : va_nd isC = true) (had0 : sameAd wc' wc)
    (hsize : lv_has ls nL lv) (hst : st0 = As.reverse ++ rest) (hroom : (rest.map fun v => v.category).sum ≤ 8) (hcs : cells ≤ R.cells ∧ slots ≤ R.slots) (hdg : decode cc pc = .ok (.invokestatic index, 3))
    (kk : ∀ (H1 : Heap) (locs1 : List Loc), va_P D vwCl (upds ws isC wc') H1 → va_D A (upds ws isC wc') → va_S A s.heap H1 locs1 → W p l e R s m args below meth c H1 locs1 cells slots Q (F0 m (pc + 3) ls (.int z :: rest))) : W p l e R s m args below meth c H locs cells slots Q (F0 m pc ls st0) :=
  wc_i (va_runSN (As := As) (rest := rest) (host := host) S hM ⟨va_cnB As.length S.2.2.2.2 (gN hG) rfl hrm.1 hrm.2 (hE.2.2.2.2.2.2.2.2 _ hl) (S.2.2.2.2 _ hini) hd hR, S.2.2.2.2 _ hsta, trivial⟩ ⟨PC.blind, pre_c hE hK hP hD hS hA isC (subAt_map _ _ _ hC0) hn⟩ rfl rfl hsize.1 hst (lv_room hroom) hdg ⟨hcs.1, hcs.2⟩) hP hD hS hA isC (subAt_map _ _ _ hC0) (sameAd_map _ _ had0) kk
/-- the same, the receiver told apart from the world -/
theorem cRi {z : Int32} (S : CallFix p m c cc nL s args lw_g own) (hE : EN en A s s.heap) (hK : va_K D vwCl (TY cI cJ cZ) s) (hP : va_P D vwCl ws H) (hD : va_D A ws) (hS : va_S A s.heap H locs) (hA : ∀ q : Nat, s.heap.size ≤ q → A q)
    (hM : Met l y (Cond.code y bytes maxL ret :: lw_g) rm (PC D cI cJ cZ en (.ref b :: As) wc H.size) (QI D cI cJ cZ wc' z (va_A wc H.size)) 0 0 (va_A wc H.size)) (hT : GoodIn lw_g (wsV own index C y (Cond.code y bytes maxL ret :: lw_g)))
    (hd : y.cls = C ∧ y.cls ≠ "java/lang/invoke/MethodHandle" ∧ y.cls ≠ "java/lang/invoke/VarHandle" ∧ (parseMethodDescriptor y.desc).map (fun d => d.parameters.length) = some As.length) (hrm : rm.cells = 0 ∧ rm.slots = 0) (hR : rm.frames + 1 ≤ R.frames ∧ 8 + (maxL + 11) + rm.locals ≤ R.locals)
    (isC : List Nat) (hC0 : subAt isC ws wc) (hn : va_nd isC = true) (had0 : sameAd wc' wc) (hrecv : ∃ cellB : Cell, H[b]? = some cellB ∧ cellB.vm.isStatics = false ∧ s.vm.findClass C = some cellB.cls)
    (hsize : lv_has ls nL lv) (hst : st0 = As.reverse ++ .ref b :: rest) (hroom : (rest.map fun v => v.category).sum ≤ 8) (hcs : cells ≤ R.cells ∧ slots ≤ R.slots) (hdg : decode cc pc = .ok (.invokevirtual index, 3))
    (kk : ∀ (H1 : Heap) (locs1 : List Loc), va_P D vwCl (upds ws isC wc') H1 → va_D A (upds ws isC wc') → va_S A s.heap H1 locs1 → W p l e R s m args below meth c H1 locs1 cells slots Q (F0 m (pc + 3) ls (.int z :: rest))) : W p l e R s m args below meth c H locs cells slots Q (F0 m pc ls st0) := by
  exact wc_i (va_runV (As := As) (rest := rest) (b := b) S hM (cwV As.length S.2.2.2.2 hT rfl hrm.1 hrm.2 hd hR) ⟨PC.blind, hrecv, pre_c hE hK hP hD hS hA isC (subAt_map _ _ _ hC0) hn⟩ rfl rfl hsize.1 hst (lv_room hroom) hdg ⟨hcs.1, hcs.2⟩) hP hD hS hA isC (subAt_map _ _ _ hC0) (sameAd_map _ _ had0) kk
/-- a virtual call that answers a reference or null -/
theorem cVo {z : Option Nat} (S : CallFix p m c cc nL s args lw_g own) (hE : EN en A s s.heap) (hK : va_K D vwCl (TY cI cJ cZ) s) (hP : va_P D vwCl ws H) (hD : va_D A ws) (hS : va_S A s.heap H locs) (hA : ∀ q : Nat, s.heap.size ≤ q → A q)
    (hM : Met l y (Cond.code y bytes maxL ret :: lw_g) rm (PC D cI cJ cZ en (.ref b :: As) wc H.size) (QO D cI cJ cZ wc' z (va_A wc H.size)) 0 0 (va_A wc H.size)) (hT : GoodIn lw_g (wsV own index C y (Cond.code y bytes maxL ret :: lw_g)))
    (hd : y.cls = C ∧ y.cls ≠ "java/lang/invoke/MethodHandle" ∧ y.cls ≠ "java/lang/invoke/VarHandle" ∧ (parseMethodDescriptor y.desc).map (fun d => d.parameters.length) = some As.length) (hrm : rm.cells = 0 ∧ rm.slots = 0) (hR : rm.frames + 1 ≤ R.frames ∧ 8 + (maxL + 11) + rm.locals ≤ R.locals)
    (isC : List Nat) (hC0 : subAt isC ws wc) (hn : va_nd isC = true) (had0 : sameAd wc' wc) (ci : Nat) {q : vw_C} {fs : List Value} (hc : vwCl[ci]? = some q) (hq : q.1 = C) (i0 : Nat) (he : ws[i0]? = some (b, .inr (ci, fs)))
    (hsize : lv_has ls nL lv) (hst : st0 = As.reverse ++ .ref b :: rest) (hroom : (rest.map fun v => v.category).sum ≤ 8) (hcs : cells ≤ R.cells ∧ slots ≤ R.slots) (hdg : decode cc pc = .ok (.invokevirtual index, 3))
    (kk : ∀ (H1 : Heap) (locs1 : List Loc), va_P D vwCl (upds ws isC wc') H1 → va_D A (upds ws isC wc') → va_S A s.heap H1 locs1 → W p l e R s m args below meth c H1 locs1 cells slots Q (F0 m (pc + 3) ls (va_rf z :: rest))) : W p l e R s m args below meth c H locs cells slots Q (F0 m pc ls st0) := by
  subst hq
  exact wc_o (va_runV (As := As) (rest := rest) (b := b) S hM (cwV As.length S.2.2.2.2 hT rfl hrm.1 hrm.2 hd hR) ⟨PC.blind, va_recv hK hP hc he, pre_c hE hK hP hD hS hA isC (subAt_map _ _ _ hC0) hn⟩ rfl rfl hsize.1 hst (lv_room hroom) hdg ⟨hcs.1, hcs.2⟩) hP hD hS hA isC (subAt_map _ _ _ hC0) (sameAd_map _ _ had0) kk
/-- a static call that answers a reference or null -/
theorem cSo {z : Option Nat} (S : CallFix p m c cc nL s args lw_g own) (hE : EN en A s s.heap) (hK : va_K D vwCl (TY cI cJ cZ) s) (hP : va_P D vwCl ws H) (hD : va_D A ws) (hS : va_S A s.heap H locs) (hA : ∀ q : Nat, s.heap.size ≤ q → A q)
    (hM : Met l y (Cond.code y bytes maxL ret :: lw_g) rm (PC D cI cJ cZ en As wc H.size) (QO D cI cJ cZ wc' z (va_A wc H.size)) 0 0 (va_A wc H.size)) (hT : GoodIn lw_g (va_wsS own index y (Cond.code y bytes maxL ret :: lw_g)))
    (hd : y.cls ≠ "java/lang/invoke/MethodHandle" ∧ y.cls ≠ "java/lang/invoke/VarHandle" ∧ (parseMethodDescriptor y.desc).map (fun d => d.parameters.length) = some As.length) (hrm : rm.cells = 0 ∧ rm.slots = 0) (hR : rm.frames + 1 ≤ R.frames ∧ 8 + (maxL + 11) + rm.locals ≤ R.locals)
    (isC : List Nat) (hC0 : subAt isC ws wc) (hn : va_nd isC = true) (had0 : sameAd wc' wc)
    (hsize : lv_has ls nL lv) (hst : st0 = As.reverse ++ rest) (hroom : (rest.map fun v => v.category).sum ≤ 8) (hcs : cells ≤ R.cells ∧ slots ≤ R.slots) (hdg : decode cc pc = .ok (.invokestatic index, 3))
    (kk : ∀ (H1 : Heap) (locs1 : List Loc), va_P D vwCl (upds ws isC wc') H1 → va_D A (upds ws isC wc') → va_S A s.heap H1 locs1 → W p l e R s m args below meth c H1 locs1 cells slots Q (F0 m (pc + 3) ls (va_rf z :: rest))) : W p l e R s m args below meth c H locs cells slots Q (F0 m pc ls st0) :=
  wc_o (va_runS (As := As) (rest := rest) S hM (va_cwS As.length S.2.2.2.2 hT rfl hrm.1 hrm.2 hd hR) ⟨PC.blind, pre_c hE hK hP hD hS hA isC (subAt_map _ _ _ hC0) hn⟩ rfl rfl hsize.1 hst (lv_room hroom) hdg ⟨hcs.1, hcs.2⟩) hP hD hS hA isC (subAt_map _ _ _ hC0) (sameAd_map _ _ had0) kk
/-! the ends -/
theorem rt_i {v : Int32} (hx : p.tables.exec = Jvm.exec) (hb : c.code = cc) (hr : meth.sig.returnType = some .int) (hlocks : meth.locks = false) (hK : va_K D vwCl (TY cI cJ cZ) s) (hP : va_P D vwCl ws H) (hS : va_S A s.heap H locs) (hdg : decode cc pc = .ok (.ireturn, 1)) : W p l e R s m args below meth c H locs cells slots (MQ below (QI D cI cJ cZ ws v A) args s cells slots A) (F0 m pc ls [.int v]) :=
  W.iret hx hb hr (fun t ht hW => ⟨⟨v, (), rfl, rfl, by rw [ht]; exact hP, va_K.moved hW.alike hK⟩, hS.F ht⟩) hS.2.2 hdg hlocks
theorem rt_z {v : Int32} (hx : p.tables.exec = Jvm.exec) (hb : c.code = cc) (hr : meth.sig.returnType = some .boolean) (hlocks : meth.locks = false) (hK : va_K D vwCl (TY cI cJ cZ) s) (hP : va_P D vwCl ws H) (hS : va_S A s.heap H locs) (hv : v = 0 ∨ v = 1) (hdg : decode cc pc = .ok (.ireturn, 1)) : W p l e R s m args below meth c H locs cells slots (MQ below (QI D cI cJ cZ ws v A) args s cells slots A) (F0 m pc ls [.int v]) :=
  W.zret hx hb hr (by rcases hv with rfl | rfl <;> decide +kernel) (fun t ht hW => ⟨⟨v, (), rfl, rfl, by rw [ht]; exact hP, va_K.moved hW.alike hK⟩, hS.F ht⟩) hS.2.2 hdg hlocks
theorem rt_n {v : Int32} {ty : FieldType} (hx : p.tables.exec = Jvm.exec) (hb : c.code = cc) (hr : meth.sig.returnType = some ty) (hlocks : meth.locks = false) (hK : va_K D vwCl (TY cI cJ cZ) s) (hP : va_P D vwCl ws H) (hS : va_S A s.heap H locs) (hv : narrow ty (.int v) = .int v) (hdg : decode cc pc = .ok (.ireturn, 1)) : W p l e R s m args below meth c H locs cells slots (MQ below (QI D cI cJ cZ ws v A) args s cells slots A) (F0 m pc ls [.int v]) :=
  W.zret hx hb hr hv (fun t ht hW => ⟨⟨v, (), rfl, rfl, by rw [ht]; exact hP, va_K.moved hW.alike hK⟩, hS.F ht⟩) hS.2.2 hdg hlocks
theorem nar_byte {v : Int32} (h : v.toInt8.toInt32 = v) : narrow .byte (.int v) = .int v := congrArg Value.int h
theorem nar_char {v : Int32} (h : v.toUInt32.toUInt16.toUInt32.toInt32 = v) : narrow .char (.int v) = .int v := congrArg Value.int h
theorem rt_o {o : Option Nat} {n : String} (hx : p.tables.exec = Jvm.exec) (hb : c.code = cc) (hr : meth.sig.returnType = some (.object n)) (hlocks : meth.locks = false) (hK : va_K D vwCl (TY cI cJ cZ) s) (hP : va_P D vwCl ws H) (hS : va_S A s.heap H locs) (hdg : decode cc pc = .ok (.areturn, 1)) : W p l e R s m args below meth c H locs cells slots (MQ below (QO D cI cJ cZ ws o A) args s cells slots A) (F0 m pc ls [va_rf o]) :=
  W.aret hx hb hr (Or.inl ⟨n, rfl⟩) (va_rf_or o) (fun t ht hW => ⟨⟨o, (), rfl, rfl, by rw [ht]; exact hP, va_K.moved hW.alike hK⟩, hS.F ht⟩) hS.2.2 hdg hlocks
theorem rt_v (hx : p.tables.exec = Jvm.exec) (hb : c.code = cc) (hr : meth.sig.returnType = none) (hlocks : meth.locks = false) (hK : va_K D vwCl (TY cI cJ cZ) s) (hP : va_P D vwCl ws H) (hS : va_S A s.heap H locs) (hdg : decode cc pc = .ok (.return_, 1)) : W p l e R s m args below meth c H locs cells slots (MQ below (QV D cI cJ cZ ws A) args s cells slots A) (F0 m pc ls []) :=
  W.vret hx hb hr (fun t ht hW => ⟨⟨(), rfl, trivial, by rw [ht]; exact hP, va_K.moved hW.alike hK⟩, hS.F ht⟩) hS.2.2 hdg hlocks
/-- a table's switch to its default -/
theorem tb_out (hx : p.tables.exec = Jvm.exec) (hb : c.code = cc) {dflt lo hi : Int} {offs : Array Int} {len : Nat} {x : Int32} {tgt : Nat} (hdg : decode cc pc = .ok (.tableswitch dflt lo hi offs, len)) (hsz : (hi - lo + 1).toNat = offs.size) (h : ∀ k : Nat, ∀ o : Int, offs[k]? = some o → o = dflt ∨ ¬ x.toInt = lo + k) (ht : (pc : Int) + dflt = (tgt : Int))
    (k : W p l e R s m args below meth c H locs cells slots Q (F0 m tgt ls rest)) : W p l e R s m args below meth c H locs cells slots Q (F0 m pc ls (.int x :: rest)) := by
  by_cases h1 : x.toInt < lo
  · exact lv_tableOut hx hb hdg (Or.inl h1) ht k
  · by_cases h2 : hi < x.toInt
    · exact lv_tableOut hx hb hdg (Or.inr h2) ht k
    · have hk : (x.toInt - lo).toNat < offs.size := by omega
      have ho : offs[(x.toInt - lo).toNat]? = some offs[(x.toInt - lo).toNat] := by simp [hk]
      rcases h _ _ ho with hd | hn
      · exact lv_tableIn hx hb hdg h1 h2 (by rw [ho, hd]) ht k
      · exact absurd (by omega) hn
/-- the same, by the list of the numbers that go elsewhere -/
theorem tb_out2 (hx : p.tables.exec = Jvm.exec) (hb : c.code = cc) {dflt lo hi : Int} {offs : Array Int} {len : Nat} {x : Int32} {tgt : Nat} (hdg : decode cc pc = .ok (.tableswitch dflt lo hi offs, len)) (hsz : (hi - lo + 1).toNat = offs.size) (L : List Int32) (hL : ∀ v ∈ L, ¬ x = v) (hc : ∀ k, k < offs.size → offs[k]? = some dflt ∨ Int32.ofInt (lo + k) ∈ L) (ht : (pc : Int) + dflt = (tgt : Int))
    (k : W p l e R s m args below meth c H locs cells slots Q (F0 m tgt ls rest)) : W p l e R s m args below meth c H locs cells slots Q (F0 m pc ls (.int x :: rest)) := by
  refine tb_out hx hb hdg hsz (fun k o ho => ?_) ht k
  have hk : k < offs.size := (Array.getElem?_eq_some_iff.mp ho).1
  rcases hc k hk with h | h
  · rw [h] at ho
    exact Or.inl (Option.some.inj ho).symm
  · refine Or.inr (fun e => hL _ h ?_)
    rw [← e]
    exact (Int32.ofInt_toInt x).symm
end SUPC
