def f_J7_fill_53178_L5 (n_a0 : Nat) (x1 : Int32) (x3 : Int32) : Nat → (Int32) → (Nat → Int32) → Option ((Nat → Int32))
  | 0, _, _ => none
  | n + 1, x2, v_a0 => (if x3 ≤ x2 then (some v_a0) else gd (ib x2 n_a0) ((f_J7_fill_53178_L5 n_a0 x1 x3 n (x2 + 1) (upd v_a0 (Int32.toNatClampNeg x2) x1))))
def f_J7_fill_53178 (n_a0 : Nat) (v_a0 : Nat → Int32) (x1 : Int32) : Option ((Nat → Int32)) :=
  (f_J7_fill_53178_L5 n_a0 x1 (Int32.ofNat n_a0) FU 0 v_a0)
theorem gs_J7_fill_53178 {own : String} {idx : Nat} (h : Cond.methodLink own idx yJ7_fill_53178 ∈ lw_g) : GoodIn lw_g (va_wsS own idx yJ7_fill_53178 (Cond.code yJ7_fill_53178 cJ7_fill_53178 4 none :: lw_g)) := gS h w_131 w_61 w_132
theorem hd_J7_fill_53178 : yJ7_fill_53178.cls ≠ "java/lang/invoke/MethodHandle" ∧ yJ7_fill_53178.cls ≠ "java/lang/invoke/VarHandle" ∧ (parseMethodDescriptor yJ7_fill_53178.desc).map (fun d => d.parameters.length) = some 2 := by decide +kernel
set_option maxHeartbeats 4000000 in
set_option maxRecDepth 100000 in
theorem c_J7_fill_53178 (l : Launch) (D : va_G) (cI cJ cZ : ClassId) (en : EnT) (q_a0 : Nat) (n_a0 : Nat) (sz : Nat) (v_a0 : Nat → Int32) (x1 : Int32) {z : (Nat → Int32)} (hf : f_J7_fill_53178 n_a0 v_a0 x1 = some z) : Met l yJ7_fill_53178 (Cond.code yJ7_fill_53178 cJ7_fill_53178 4 none :: lw_g) ({ frames := 0, cells := 0, slots := 0, locals := 0 } : Room) (PC D cI cJ cZ en ([.ref q_a0, .int x1] : List Value) [(q_a0, .inl (cI, n_a0, .inl v_a0))] sz) (QV D cI cJ cZ [(q_a0, .inl (cI, n_a0, .inl z))] (va_A [(q_a0, .inl (cI, n_a0, .inl v_a0))] sz)) 0 0 (va_A [(q_a0, .inl (cI, n_a0, .inl v_a0))] sz) := by
  refine mk_met (Qc := fun A => (QV D cI cJ cZ [(q_a0, .inl (cI, n_a0, .inl z))] A)) RJ7 (by decide) rfl (Nat.le_of_ble_eq_true rfl) ?_
  intro p e s m below meth c ls A hx hb hr hml hown hts hlocks hA hK hE hl hD H locs hP hS
  have hl : lv_has ls 4 [(0, .ref q_a0), (1, .int x1)] := hl
  unfold f_J7_fill_53178 at hf
  refine lv_iconst (v := 0) hx hb dJ7_fill_53178_0 (by decide) ?_
  refine lv_istore_n (lv' := [(2, .int 0), (0, .ref q_a0), (1, .int x1)]) hx hb dJ7_fill_53178_1 rfl hl (by decide) rfl (fun ls hl => ?_)
  refine lv_aload_n hx hb dJ7_fill_53178_2 rfl (lv_at hl 1 rfl) ?_
  refine va_alen (v := (Int32.ofNat n_a0)) hx hb hK hP 0 0 rfl rfl rfl dJ7_fill_53178_3 ?_
  refine lv_istore_n (lv' := [(3, .int (Int32.ofNat n_a0)), (2, .int 0), (0, .ref q_a0), (1, .int x1)]) hx hb dJ7_fill_53178_4 rfl hl (by decide) rfl (fun ls hl => ?_)
  have L5_3 : ∀ (n : Nat) (x2_1 : Int32) (v_a0_2 : Nat → Int32), f_J7_fill_53178_L5 n_a0 x1 (Int32.ofNat n_a0) n x2_1 v_a0_2 = some z → ∀ (H : Heap) (locs : List Loc) (ls : Array Slot), va_P D vwCl [(q_a0, .inl (cI, n_a0, .inl v_a0_2))] H → va_D A [(q_a0, .inl (cI, n_a0, .inl v_a0_2))] → va_S A s.heap H locs → lv_has ls 4 [(0, .ref q_a0), (1, .int x1), (2, .int x2_1), (3, .int (Int32.ofNat n_a0))] → W p l e ({ frames := 0, cells := 0, slots := 0, locals := 0 } : Room) s m ([.ref q_a0, .int x1] : List Value).toArray below meth c H locs 0 0 (MQ below (QV D cI cJ cZ [(q_a0, .inl (cI, n_a0, .inl z))] A) ([.ref q_a0, .int x1] : List Value).toArray s 0 0 A) (F0 m 5 ls []) := by
    intro n
    induction n with
    | zero =>
      intro x2_1 v_a0_2 hf
      cases hf
    | succ n ih_4 =>
      intro x2_1 v_a0_2 hf H locs ls hP hD hS hl
      rw [f_J7_fill_53178_L5] at hf
      refine lv_iload_n hx hb dJ7_fill_53178_5 rfl (lv_at hl 2 rfl) ?_
      refine lv_iload_n hx hb dJ7_fill_53178_6 rfl (lv_at hl 3 rfl) ?_
      refine lv_icmp_ge (tgt := 20) hx hb dJ7_fill_53178_7 (by decide) (fun h_5 => ?_) (fun h_5 => ?_)
      · have hf := (if_pos h_5).symm.trans hf
        cases hf
        exact rt_v hx hb hr hlocks hK hP hS dJ7_fill_53178_20
      · have hf := (if_neg h_5).symm.trans hf
        refine lv_aload_n hx hb dJ7_fill_53178_10 rfl (lv_at hl 0 rfl) ?_
        refine lv_iload_n hx hb dJ7_fill_53178_11 rfl (lv_at hl 2 rfl) ?_
        refine lv_iload_n hx hb dJ7_fill_53178_12 rfl (lv_at hl 1 rfl) ?_
        obtain ⟨hin, hf⟩ := gd_some hf
        refine va_iast hx hb hK hP hD hS 0 0 rfl rfl hin dJ7_fill_53178_13 (fun H locs hP hD hS => ?_)
        have hP : va_P D vwCl [(q_a0, .inl (cI, n_a0, .inl (upd v_a0_2 (Int32.toNatClampNeg x2_1) x1)))] H := hP
        have hD : va_D A [(q_a0, .inl (cI, n_a0, .inl (upd v_a0_2 (Int32.toNatClampNeg x2_1) x1)))] := hD
        refine lv_iinc (v := (x2_1 + 1)) (lv' := [(2, .int (x2_1 + 1)), (0, .ref q_a0), (1, .int x1), (3, .int (Int32.ofNat n_a0))]) hx hb dJ7_fill_53178_14 hl (k := 2) rfl rfl (by decide) rfl (fun ls hl => ?_)
        refine lv_goto (tgt := 5) hx hb dJ7_fill_53178_17 (by decide) ?_
        exact ih_4 (x2_1 + 1) (upd v_a0_2 (Int32.toNatClampNeg x2_1) x1) hf _ _ _ hP hD hS (lv_sub hl [1, 2, 0, 3] rfl)
  exact L5_3 FU 0 v_a0 hf _ _ _ hP hD hS (lv_sub hl [2, 3, 1, 0] rfl)

def f_J7_fill_d0a16_L6 (n_a0 : Nat) (x1 : Int64) (x4 : Int32) : Nat → (Int32) → (Nat → Int64) → Option ((Nat → Int64))
  | 0, _, _ => none
  | n + 1, x3, v_a0 => (if x4 ≤ x3 then (some v_a0) else gd (ib x3 n_a0) ((f_J7_fill_d0a16_L6 n_a0 x1 x4 n (x3 + 1) (vp_updL v_a0 (Int32.toNatClampNeg x3) x1))))
def f_J7_fill_d0a16 (n_a0 : Nat) (v_a0 : Nat → Int64) (x1 : Int64) : Option ((Nat → Int64)) :=
  (f_J7_fill_d0a16_L6 n_a0 x1 (Int32.ofNat n_a0) FU 0 v_a0)
theorem gs_J7_fill_d0a16 {own : String} {idx : Nat} (h : Cond.methodLink own idx yJ7_fill_d0a16 ∈ lw_g) : GoodIn lw_g (va_wsS own idx yJ7_fill_d0a16 (Cond.code yJ7_fill_d0a16 cJ7_fill_d0a16 5 none :: lw_g)) := gS h w_804 w_61 w_805
theorem hd_J7_fill_d0a16 : yJ7_fill_d0a16.cls ≠ "java/lang/invoke/MethodHandle" ∧ yJ7_fill_d0a16.cls ≠ "java/lang/invoke/VarHandle" ∧ (parseMethodDescriptor yJ7_fill_d0a16.desc).map (fun d => d.parameters.length) = some 2 := by decide +kernel
set_option maxHeartbeats 4000000 in
set_option maxRecDepth 100000 in
theorem c_J7_fill_d0a16 (l : Launch) (D : va_G) (cI cJ cZ : ClassId) (en : EnT) (q_a0 : Nat) (n_a0 : Nat) (sz : Nat) (v_a0 : Nat → Int64) (x1 : Int64) {z : (Nat → Int64)} (hf : f_J7_fill_d0a16 n_a0 v_a0 x1 = some z) : Met l yJ7_fill_d0a16 (Cond.code yJ7_fill_d0a16 cJ7_fill_d0a16 5 none :: lw_g) ({ frames := 0, cells := 0, slots := 0, locals := 0 } : Room) (PC D cI cJ cZ en ([.ref q_a0, .long x1] : List Value) [(q_a0, .inl (cJ, n_a0, .inr (.inl v_a0)))] sz) (QV D cI cJ cZ [(q_a0, .inl (cJ, n_a0, .inr (.inl z)))] (va_A [(q_a0, .inl (cJ, n_a0, .inr (.inl v_a0)))] sz)) 0 0 (va_A [(q_a0, .inl (cJ, n_a0, .inr (.inl v_a0)))] sz) := by
  refine mk_met (Qc := fun A => (QV D cI cJ cZ [(q_a0, .inl (cJ, n_a0, .inr (.inl z)))] A)) RJ7 (by decide) rfl (Nat.le_of_ble_eq_true rfl) ?_
  intro p e s m below meth c ls A hx hb hr hml hown hts hlocks hA hK hE hl hD H locs hP hS
  have hl : lv_has ls 5 [(0, .ref q_a0), (1, .long x1)] := hl
  unfold f_J7_fill_d0a16 at hf
  refine lv_iconst (v := 0) hx hb dJ7_fill_d0a16_0 (by decide) ?_
  refine lv_istore_n (lv' := [(3, .int 0), (0, .ref q_a0), (1, .long x1)]) hx hb dJ7_fill_d0a16_1 rfl hl (by decide) rfl (fun ls hl => ?_)
  refine lv_aload_n hx hb dJ7_fill_d0a16_2 rfl (lv_at hl 1 rfl) ?_
  refine va_alen (v := (Int32.ofNat n_a0)) hx hb hK hP 0 1 rfl rfl rfl dJ7_fill_d0a16_3 ?_
  refine lv_istore (lv' := [(4, .int (Int32.ofNat n_a0)), (3, .int 0), (0, .ref q_a0), (1, .long x1)]) hx hb dJ7_fill_d0a16_4 hl (by decide) rfl (fun ls hl => ?_)
  have L6_3 : ∀ (n : Nat) (x3_1 : Int32) (v_a0_2 : Nat → Int64), f_J7_fill_d0a16_L6 n_a0 x1 (Int32.ofNat n_a0) n x3_1 v_a0_2 = some z → ∀ (H : Heap) (locs : List Loc) (ls : Array Slot), va_P D vwCl [(q_a0, .inl (cJ, n_a0, .inr (.inl v_a0_2)))] H → va_D A [(q_a0, .inl (cJ, n_a0, .inr (.inl v_a0_2)))] → va_S A s.heap H locs → lv_has ls 5 [(0, .ref q_a0), (1, .long x1), (3, .int x3_1), (4, .int (Int32.ofNat n_a0))] → W p l e ({ frames := 0, cells := 0, slots := 0, locals := 0 } : Room) s m ([.ref q_a0, .long x1] : List Value).toArray below meth c H locs 0 0 (MQ below (QV D cI cJ cZ [(q_a0, .inl (cJ, n_a0, .inr (.inl z)))] A) ([.ref q_a0, .long x1] : List Value).toArray s 0 0 A) (F0 m 6 ls []) := by
    intro n
    induction n with
    | zero =>
      intro x3_1 v_a0_2 hf
      cases hf
    | succ n ih_4 =>
      intro x3_1 v_a0_2 hf H locs ls hP hD hS hl
      rw [f_J7_fill_d0a16_L6] at hf
      refine lv_iload_n hx hb dJ7_fill_d0a16_6 rfl (lv_at hl 2 rfl) ?_
      refine lv_iload hx hb dJ7_fill_d0a16_7 (lv_at hl 3 rfl) ?_
      refine lv_icmp_ge (tgt := 22) hx hb dJ7_fill_d0a16_9 (by decide) (fun h_5 => ?_) (fun h_5 => ?_)
      · have hf := (if_pos h_5).symm.trans hf
        cases hf
        exact rt_v hx hb hr hlocks hK hP hS dJ7_fill_d0a16_22
      · have hf := (if_neg h_5).symm.trans hf
        refine lv_aload_n hx hb dJ7_fill_d0a16_12 rfl (lv_at hl 0 rfl) ?_
        refine lv_iload_n hx hb dJ7_fill_d0a16_13 rfl (lv_at hl 2 rfl) ?_
        refine lv_lload_n hx hb dJ7_fill_d0a16_14 rfl (lv_at hl 1 rfl) ?_
        obtain ⟨hin, hf⟩ := gd_some hf
        refine va_last hx hb hK hP hD hS 0 1 rfl rfl hin dJ7_fill_d0a16_15 (fun H locs hP hD hS => ?_)
        have hP : va_P D vwCl [(q_a0, .inl (cJ, n_a0, .inr (.inl (vp_updL v_a0_2 (Int32.toNatClampNeg x3_1) x1))))] H := hP
        have hD : va_D A [(q_a0, .inl (cJ, n_a0, .inr (.inl (vp_updL v_a0_2 (Int32.toNatClampNeg x3_1) x1))))] := hD
        refine lv_iinc (v := (x3_1 + 1)) (lv' := [(3, .int (x3_1 + 1)), (0, .ref q_a0), (1, .long x1), (4, .int (Int32.ofNat n_a0))]) hx hb dJ7_fill_d0a16_16 hl (k := 2) rfl rfl (by decide) rfl (fun ls hl => ?_)
        refine lv_goto (tgt := 6) hx hb dJ7_fill_d0a16_19 (by decide) ?_
        exact ih_4 (x3_1 + 1) (vp_updL v_a0_2 (Int32.toNatClampNeg x3_1) x1) hf _ _ _ hP hD hS (lv_sub hl [1, 2, 0, 3] rfl)
  exact L6_3 FU 0 v_a0 hf _ _ _ hP hD hS (lv_sub hl [2, 3, 1, 0] rfl)

def f_X2_addLaw (v_t_laws : Int32) (v_t_lawParts : Nat → Int32) (x1 : Int32) (x2 : Int32) (x3 : Int32) : Option (Int32 × (Nat → Int32)) :=
  (if v_t_laws < 0 then (some (v_t_laws, v_t_lawParts)) else (if v_t_laws < 6 then gd (ib (v_t_laws * 3) 18) (gd (ib ((v_t_laws * 3) + 1) 18) (gd (ib ((v_t_laws * 3) + 2) 18) ((some ((v_t_laws + 1), (upd (upd (upd v_t_lawParts (Int32.toNatClampNeg (v_t_laws * 3)) x1) (Int32.toNatClampNeg ((v_t_laws * 3) + 1)) x2) (Int32.toNatClampNeg ((v_t_laws * 3) + 2)) x3)))))) else (some (v_t_laws, v_t_lawParts))))
theorem gv_X2_addLaw {own : String} {idx : Nat} (h : Cond.methodLink own idx yX2_addLaw ∈ lw_g) : GoodIn lw_g (wsV own idx RX2 yX2_addLaw (Cond.code yX2_addLaw cX2_addLaw 4 none :: lw_g)) := gV h w_492 w_493 w_60 w_494
theorem hd_X2_addLaw : yX2_addLaw.cls = RX2 ∧ yX2_addLaw.cls ≠ "java/lang/invoke/MethodHandle" ∧ yX2_addLaw.cls ≠ "java/lang/invoke/VarHandle" ∧ (parseMethodDescriptor yX2_addLaw.desc).map (fun d => d.parameters.length) = some 3 := by decide +kernel
set_option maxHeartbeats 4000000 in
set_option maxRecDepth 100000 in
theorem c_X2_addLaw (l : Launch) (D : va_G) (cI cJ cZ : ClassId) (en : EnT) (q_t q_t_ground q_t_windows q_t_lawParts : Nat) (sz : Nat) (v_t_columns : Int32) (v_t_rows : Int32) (v_t_fade : Int32) (v_t_laws : Int32) (v_t_nightHours : Int32) (v_t_nightTimes : Int32) (v_t_ground : Nat → Int32) (v_t_windows : Nat → Int32) (v_t_lawParts : Nat → Int32) (x1 : Int32) (x2 : Int32) (x3 : Int32) {z : Int32 × (Nat → Int32)} (hf : f_X2_addLaw v_t_laws v_t_lawParts x1 x2 x3 = some z) : Met l yX2_addLaw (Cond.code yX2_addLaw cX2_addLaw 4 none :: lw_g) ({ frames := 0, cells := 0, slots := 0, locals := 0 } : Room) (PC D cI cJ cZ en ([.ref q_t, .int x1, .int x2, .int x3] : List Value) [(q_t, .inr (2, [.int v_t_columns, .int v_t_rows, .int v_t_fade, .int v_t_laws, .int v_t_nightHours, .int v_t_nightTimes, .ref q_t_ground, .ref q_t_windows, .ref q_t_lawParts])), (q_t_ground, .inl (cI, 36, .inl v_t_ground)), (q_t_windows, .inl (cI, 6, .inl v_t_windows)), (q_t_lawParts, .inl (cI, 18, .inl v_t_lawParts))] sz) (QV D cI cJ cZ [(q_t, .inr (2, [.int v_t_columns, .int v_t_rows, .int v_t_fade, .int z.1, .int v_t_nightHours, .int v_t_nightTimes, .ref q_t_ground, .ref q_t_windows, .ref q_t_lawParts])), (q_t_ground, .inl (cI, 36, .inl v_t_ground)), (q_t_windows, .inl (cI, 6, .inl v_t_windows)), (q_t_lawParts, .inl (cI, 18, .inl z.2))] (va_A [(q_t, .inr (2, [.int v_t_columns, .int v_t_rows, .int v_t_fade, .int v_t_laws, .int v_t_nightHours, .int v_t_nightTimes, .ref q_t_ground, .ref q_t_windows, .ref q_t_lawParts])), (q_t_ground, .inl (cI, 36, .inl v_t_ground)), (q_t_windows, .inl (cI, 6, .inl v_t_windows)), (q_t_lawParts, .inl (cI, 18, .inl v_t_lawParts))] sz)) 0 0 (va_A [(q_t, .inr (2, [.int v_t_columns, .int v_t_rows, .int v_t_fade, .int v_t_laws, .int v_t_nightHours, .int v_t_nightTimes, .ref q_t_ground, .ref q_t_windows, .ref q_t_lawParts])), (q_t_ground, .inl (cI, 36, .inl v_t_ground)), (q_t_windows, .inl (cI, 6, .inl v_t_windows)), (q_t_lawParts, .inl (cI, 18, .inl v_t_lawParts))] sz) := by
  refine mk_met (Qc := fun A => (QV D cI cJ cZ [(q_t, .inr (2, [.int v_t_columns, .int v_t_rows, .int v_t_fade, .int z.1, .int v_t_nightHours, .int v_t_nightTimes, .ref q_t_ground, .ref q_t_windows, .ref q_t_lawParts])), (q_t_ground, .inl (cI, 36, .inl v_t_ground)), (q_t_windows, .inl (cI, 6, .inl v_t_windows)), (q_t_lawParts, .inl (cI, 18, .inl z.2))] A)) RX2 (by decide) rfl (Nat.le_of_ble_eq_true rfl) ?_
  intro p e s m below meth c ls A hx hb hr hml hown hts hlocks hA hK hE hl hD H locs hP hS
  have hl : lv_has ls 4 [(0, .ref q_t), (1, .int x1), (2, .int x2), (3, .int x3)] := hl
  unfold f_X2_addLaw at hf
  refine lv_aload_n hx hb dX2_addLaw_0 rfl (lv_at hl 0 rfl) ?_
  refine va_get (D := D) (ci := 2) (v := .int v_t_laws) (C := RX2) (T := TX2) (N := 9) hx hb hts inX2 hown hK hP 0 rfl rfl 3 (by decide) (hts _ w_143) (fun _ h9 => h9) rfl dX2_addLaw_1 ?_
  refine lv_if_lt (tgt := 16) hx hb dX2_addLaw_4 (by decide) (fun h_1 => ?_) (fun h_1 => ?_)
  · have hf := (if_pos h_1).symm.trans hf
    cases hf
    exact rt_v hx hb hr hlocks hK hP hS dX2_addLaw_16
  · have hf := (if_neg h_1).symm.trans hf
    refine lv_aload_n hx hb dX2_addLaw_7 rfl (lv_at hl 0 rfl) ?_
    refine va_get (D := D) (ci := 2) (v := .int v_t_laws) (C := RX2) (T := TX2) (N := 9) hx hb hts inX2 hown hK hP 0 rfl rfl 3 (by decide) (hts _ w_143) (fun _ h9 => h9) rfl dX2_addLaw_8 ?_
    refine lv_bipush (v := 6) hx hb dX2_addLaw_11 (by decide) ?_
    refine lv_icmp_lt (tgt := 17) hx hb dX2_addLaw_13 (by decide) (fun h_2 => ?_) (fun h_2 => ?_)
    · have hf := (if_pos h_2).symm.trans hf
      refine lv_aload_n hx hb dX2_addLaw_17 rfl (lv_at hl 0 rfl) ?_
      refine va_get (D := D) (ci := 2) (v := .ref q_t_lawParts) (C := RX2) (T := TX2) (N := 9) hx hb hts inX2 hown hK hP 0 rfl rfl 8 (by decide) (hts _ w_152) (fun _ h9 => h9) rfl dX2_addLaw_18 ?_
      refine lv_aload_n hx hb dX2_addLaw_21 rfl (lv_at hl 0 rfl) ?_
      refine va_get (D := D) (ci := 2) (v := .int v_t_laws) (C := RX2) (T := TX2) (N := 9) hx hb hts inX2 hown hK hP 0 rfl rfl 3 (by decide) (hts _ w_143) (fun _ h9 => h9) rfl dX2_addLaw_22 ?_
      refine lv_iconst (v := 3) hx hb dX2_addLaw_25 (by decide) ?_
      refine lv_imul hx hb dX2_addLaw_26 ?_
      refine lv_iload_n hx hb dX2_addLaw_27 rfl (lv_at hl 1 rfl) ?_
      obtain ⟨hin, hf⟩ := gd_some hf
      refine va_iast hx hb hK hP hD hS 3 0 rfl rfl hin dX2_addLaw_28 (fun H locs hP hD hS => ?_)
      have hP : va_P D vwCl [(q_t, .inr (2, [.int v_t_columns, .int v_t_rows, .int v_t_fade, .int v_t_laws, .int v_t_nightHours, .int v_t_nightTimes, .ref q_t_ground, .ref q_t_windows, .ref q_t_lawParts])), (q_t_ground, .inl (cI, 36, .inl v_t_ground)), (q_t_windows, .inl (cI, 6, .inl v_t_windows)), (q_t_lawParts, .inl (cI, 18, .inl (upd v_t_lawParts (Int32.toNatClampNeg (v_t_laws * 3)) x1)))] H := hP
      have hD : va_D A [(q_t, .inr (2, [.int v_t_columns, .int v_t_rows, .int v_t_fade, .int v_t_laws, .int v_t_nightHours, .int v_t_nightTimes, .ref q_t_ground, .ref q_t_windows, .ref q_t_lawParts])), (q_t_ground, .inl (cI, 36, .inl v_t_ground)), (q_t_windows, .inl (cI, 6, .inl v_t_windows)), (q_t_lawParts, .inl (cI, 18, .inl (upd v_t_lawParts (Int32.toNatClampNeg (v_t_laws * 3)) x1)))] := hD
      refine lv_aload_n hx hb dX2_addLaw_29 rfl (lv_at hl 0 rfl) ?_
      refine va_get (D := D) (ci := 2) (v := .ref q_t_lawParts) (C := RX2) (T := TX2) (N := 9) hx hb hts inX2 hown hK hP 0 rfl rfl 8 (by decide) (hts _ w_152) (fun _ h9 => h9) rfl dX2_addLaw_30 ?_
      refine lv_aload_n hx hb dX2_addLaw_33 rfl (lv_at hl 0 rfl) ?_
      refine va_get (D := D) (ci := 2) (v := .int v_t_laws) (C := RX2) (T := TX2) (N := 9) hx hb hts inX2 hown hK hP 0 rfl rfl 3 (by decide) (hts _ w_143) (fun _ h9 => h9) rfl dX2_addLaw_34 ?_
      refine lv_iconst (v := 3) hx hb dX2_addLaw_37 (by decide) ?_
      refine lv_imul hx hb dX2_addLaw_38 ?_
      refine lv_iconst (v := 1) hx hb dX2_addLaw_39 (by decide) ?_
      refine lv_iadd hx hb dX2_addLaw_40 ?_
      refine lv_iload_n hx hb dX2_addLaw_41 rfl (lv_at hl 2 rfl) ?_
      obtain ⟨hin, hf⟩ := gd_some hf
      refine va_iast hx hb hK hP hD hS 3 0 rfl rfl hin dX2_addLaw_42 (fun H locs hP hD hS => ?_)
      have hP : va_P D vwCl [(q_t, .inr (2, [.int v_t_columns, .int v_t_rows, .int v_t_fade, .int v_t_laws, .int v_t_nightHours, .int v_t_nightTimes, .ref q_t_ground, .ref q_t_windows, .ref q_t_lawParts])), (q_t_ground, .inl (cI, 36, .inl v_t_ground)), (q_t_windows, .inl (cI, 6, .inl v_t_windows)), (q_t_lawParts, .inl (cI, 18, .inl (upd (upd v_t_lawParts (Int32.toNatClampNeg (v_t_laws * 3)) x1) (Int32.toNatClampNeg ((v_t_laws * 3) + 1)) x2)))] H := hP
      have hD : va_D A [(q_t, .inr (2, [.int v_t_columns, .int v_t_rows, .int v_t_fade, .int v_t_laws, .int v_t_nightHours, .int v_t_nightTimes, .ref q_t_ground, .ref q_t_windows, .ref q_t_lawParts])), (q_t_ground, .inl (cI, 36, .inl v_t_ground)), (q_t_windows, .inl (cI, 6, .inl v_t_windows)), (q_t_lawParts, .inl (cI, 18, .inl (upd (upd v_t_lawParts (Int32.toNatClampNeg (v_t_laws * 3)) x1) (Int32.toNatClampNeg ((v_t_laws * 3) + 1)) x2)))] := hD
      refine lv_aload_n hx hb dX2_addLaw_43 rfl (lv_at hl 0 rfl) ?_
      refine va_get (D := D) (ci := 2) (v := .ref q_t_lawParts) (C := RX2) (T := TX2) (N := 9) hx hb hts inX2 hown hK hP 0 rfl rfl 8 (by decide) (hts _ w_152) (fun _ h9 => h9) rfl dX2_addLaw_44 ?_
      refine lv_aload_n hx hb dX2_addLaw_47 rfl (lv_at hl 0 rfl) ?_
      refine va_get (D := D) (ci := 2) (v := .int v_t_laws) (C := RX2) (T := TX2) (N := 9) hx hb hts inX2 hown hK hP 0 rfl rfl 3 (by decide) (hts _ w_143) (fun _ h9 => h9) rfl dX2_addLaw_48 ?_
      refine lv_iconst (v := 3) hx hb dX2_addLaw_51 (by decide) ?_
      refine lv_imul hx hb dX2_addLaw_52 ?_
      refine lv_iconst (v := 2) hx hb dX2_addLaw_53 (by decide) ?_
      refine lv_iadd hx hb dX2_addLaw_54 ?_
      refine lv_iload_n hx hb dX2_addLaw_55 rfl (lv_at hl 3 rfl) ?_
      obtain ⟨hin, hf⟩ := gd_some hf
      refine va_iast hx hb hK hP hD hS 3 0 rfl rfl hin dX2_addLaw_56 (fun H locs hP hD hS => ?_)
      have hP : va_P D vwCl [(q_t, .inr (2, [.int v_t_columns, .int v_t_rows, .int v_t_fade, .int v_t_laws, .int v_t_nightHours, .int v_t_nightTimes, .ref q_t_ground, .ref q_t_windows, .ref q_t_lawParts])), (q_t_ground, .inl (cI, 36, .inl v_t_ground)), (q_t_windows, .inl (cI, 6, .inl v_t_windows)), (q_t_lawParts, .inl (cI, 18, .inl (upd (upd (upd v_t_lawParts (Int32.toNatClampNeg (v_t_laws * 3)) x1) (Int32.toNatClampNeg ((v_t_laws * 3) + 1)) x2) (Int32.toNatClampNeg ((v_t_laws * 3) + 2)) x3)))] H := hP
      have hD : va_D A [(q_t, .inr (2, [.int v_t_columns, .int v_t_rows, .int v_t_fade, .int v_t_laws, .int v_t_nightHours, .int v_t_nightTimes, .ref q_t_ground, .ref q_t_windows, .ref q_t_lawParts])), (q_t_ground, .inl (cI, 36, .inl v_t_ground)), (q_t_windows, .inl (cI, 6, .inl v_t_windows)), (q_t_lawParts, .inl (cI, 18, .inl (upd (upd (upd v_t_lawParts (Int32.toNatClampNeg (v_t_laws * 3)) x1) (Int32.toNatClampNeg ((v_t_laws * 3) + 1)) x2) (Int32.toNatClampNeg ((v_t_laws * 3) + 2)) x3)))] := hD
      refine lv_aload_n hx hb dX2_addLaw_57 rfl (lv_at hl 0 rfl) ?_
      refine lv_dup hx hb dX2_addLaw_58 rfl ?_
      refine va_get (D := D) (ci := 2) (v := .int v_t_laws) (C := RX2) (T := TX2) (N := 9) hx hb hts inX2 hown hK hP 0 rfl rfl 3 (by decide) (hts _ w_143) (fun _ h9 => h9) rfl dX2_addLaw_59 ?_
      refine lv_iconst (v := 1) hx hb dX2_addLaw_62 (by decide) ?_
      refine lv_iadd hx hb dX2_addLaw_63 ?_
      refine va_put (D := D) (ci := 2) (v := .int (v_t_laws + 1)) (ty := .int) (C := RX2) (T := TX2) (N := 9) hx hb hts inX2 tyX2 tyX2_ok nmX2 hown hK hP hD hS 0 rfl rfl 3 (by decide) (hts _ w_143) (fun _ h9 => h9) rfl (by decide +kernel) rfl rfl (Nat.le_of_ble_eq_true rfl) dX2_addLaw_64 (fun H locs hP hD hS => ?_)
      have hP : va_P D vwCl [(q_t, .inr (2, [.int v_t_columns, .int v_t_rows, .int v_t_fade, .int (v_t_laws + 1), .int v_t_nightHours, .int v_t_nightTimes, .ref q_t_ground, .ref q_t_windows, .ref q_t_lawParts])), (q_t_ground, .inl (cI, 36, .inl v_t_ground)), (q_t_windows, .inl (cI, 6, .inl v_t_windows)), (q_t_lawParts, .inl (cI, 18, .inl (upd (upd (upd v_t_lawParts (Int32.toNatClampNeg (v_t_laws * 3)) x1) (Int32.toNatClampNeg ((v_t_laws * 3) + 1)) x2) (Int32.toNatClampNeg ((v_t_laws * 3) + 2)) x3)))] H := hP
      have hD : va_D A [(q_t, .inr (2, [.int v_t_columns, .int v_t_rows, .int v_t_fade, .int (v_t_laws + 1), .int v_t_nightHours, .int v_t_nightTimes, .ref q_t_ground, .ref q_t_windows, .ref q_t_lawParts])), (q_t_ground, .inl (cI, 36, .inl v_t_ground)), (q_t_windows, .inl (cI, 6, .inl v_t_windows)), (q_t_lawParts, .inl (cI, 18, .inl (upd (upd (upd v_t_lawParts (Int32.toNatClampNeg (v_t_laws * 3)) x1) (Int32.toNatClampNeg ((v_t_laws * 3) + 1)) x2) (Int32.toNatClampNeg ((v_t_laws * 3) + 2)) x3)))] := hD
      cases hf
      exact rt_v hx hb hr hlocks hK hP hS dX2_addLaw_67
    · have hf := (if_neg h_2).symm.trans hf
      cases hf
      exact rt_v hx hb hr hlocks hK hP hS dX2_addLaw_16

def f_X2_setNight_L16 (v_t_nightTimes : Int32) (x2 : Int32) : Nat → (Int32) → (Int32) → (Int32) → Option (Int32 × Int32)
  | 0, _, _, _ => none
  | n + 1, x4, x5, v_t_nightHours => (if 24 ≤ x5 then (some (v_t_nightHours, v_t_nightTimes)) else (if x4 = x2 then (some (v_t_nightHours, v_t_nightTimes)) else (f_X2_setNight_L16 v_t_nightTimes x2 n ((x4 + 1) - (x4 + 1) / 24 * 24) (x5 + 1) (v_t_nightHours ||| (1 <<< (x4 &&& 31))))))
def f_X2_setNight (v_t_nightHours : Int32) (v_t_nightTimes : Int32) (x1 : Int32) (x2 : Int32) (x3 : Int32) : Option (Int32 × Int32) :=
  (f_X2_setNight_L16 x3 x2 FU x1 0 0)
theorem gv_X2_setNight {own : String} {idx : Nat} (h : Cond.methodLink own idx yX2_setNight ∈ lw_g) : GoodIn lw_g (wsV own idx RX2 yX2_setNight (Cond.code yX2_setNight cX2_setNight 6 none :: lw_g)) := gV h w_496 w_497 w_60 w_498
theorem hd_X2_setNight : yX2_setNight.cls = RX2 ∧ yX2_setNight.cls ≠ "java/lang/invoke/MethodHandle" ∧ yX2_setNight.cls ≠ "java/lang/invoke/VarHandle" ∧ (parseMethodDescriptor yX2_setNight.desc).map (fun d => d.parameters.length) = some 3 := by decide +kernel
set_option maxHeartbeats 4000000 in
set_option maxRecDepth 100000 in
theorem c_X2_setNight (l : Launch) (D : va_G) (cI cJ cZ : ClassId) (en : EnT) (q_t q_t_ground q_t_windows q_t_lawParts : Nat) (sz : Nat) (v_t_columns : Int32) (v_t_rows : Int32) (v_t_fade : Int32) (v_t_laws : Int32) (v_t_nightHours : Int32) (v_t_nightTimes : Int32) (v_t_ground : Nat → Int32) (v_t_windows : Nat → Int32) (v_t_lawParts : Nat → Int32) (x1 : Int32) (x2 : Int32) (x3 : Int32) {z : Int32 × Int32} (hf : f_X2_setNight v_t_nightHours v_t_nightTimes x1 x2 x3 = some z) : Met l yX2_setNight (Cond.code yX2_setNight cX2_setNight 6 none :: lw_g) ({ frames := 0, cells := 0, slots := 0, locals := 0 } : Room) (PC D cI cJ cZ en ([.ref q_t, .int x1, .int x2, .int x3] : List Value) [(q_t, .inr (2, [.int v_t_columns, .int v_t_rows, .int v_t_fade, .int v_t_laws, .int v_t_nightHours, .int v_t_nightTimes, .ref q_t_ground, .ref q_t_windows, .ref q_t_lawParts])), (q_t_ground, .inl (cI, 36, .inl v_t_ground)), (q_t_windows, .inl (cI, 6, .inl v_t_windows)), (q_t_lawParts, .inl (cI, 18, .inl v_t_lawParts))] sz) (QV D cI cJ cZ [(q_t, .inr (2, [.int v_t_columns, .int v_t_rows, .int v_t_fade, .int v_t_laws, .int z.1, .int z.2, .ref q_t_ground, .ref q_t_windows, .ref q_t_lawParts])), (q_t_ground, .inl (cI, 36, .inl v_t_ground)), (q_t_windows, .inl (cI, 6, .inl v_t_windows)), (q_t_lawParts, .inl (cI, 18, .inl v_t_lawParts))] (va_A [(q_t, .inr (2, [.int v_t_columns, .int v_t_rows, .int v_t_fade, .int v_t_laws, .int v_t_nightHours, .int v_t_nightTimes, .ref q_t_ground, .ref q_t_windows, .ref q_t_lawParts])), (q_t_ground, .inl (cI, 36, .inl v_t_ground)), (q_t_windows, .inl (cI, 6, .inl v_t_windows)), (q_t_lawParts, .inl (cI, 18, .inl v_t_lawParts))] sz)) 0 0 (va_A [(q_t, .inr (2, [.int v_t_columns, .int v_t_rows, .int v_t_fade, .int v_t_laws, .int v_t_nightHours, .int v_t_nightTimes, .ref q_t_ground, .ref q_t_windows, .ref q_t_lawParts])), (q_t_ground, .inl (cI, 36, .inl v_t_ground)), (q_t_windows, .inl (cI, 6, .inl v_t_windows)), (q_t_lawParts, .inl (cI, 18, .inl v_t_lawParts))] sz) := by
  refine mk_met (Qc := fun A => (QV D cI cJ cZ [(q_t, .inr (2, [.int v_t_columns, .int v_t_rows, .int v_t_fade, .int v_t_laws, .int z.1, .int z.2, .ref q_t_ground, .ref q_t_windows, .ref q_t_lawParts])), (q_t_ground, .inl (cI, 36, .inl v_t_ground)), (q_t_windows, .inl (cI, 6, .inl v_t_windows)), (q_t_lawParts, .inl (cI, 18, .inl v_t_lawParts))] A)) RX2 (by decide) rfl (Nat.le_of_ble_eq_true rfl) ?_
  intro p e s m below meth c ls A hx hb hr hml hown hts hlocks hA hK hE hl hD H locs hP hS
  have hl : lv_has ls 6 [(0, .ref q_t), (1, .int x1), (2, .int x2), (3, .int x3)] := hl
  unfold f_X2_setNight at hf
  refine lv_aload_n hx hb dX2_setNight_0 rfl (lv_at hl 0 rfl) ?_
  refine lv_iconst (v := 0) hx hb dX2_setNight_1 (by decide) ?_
  refine va_put (D := D) (ci := 2) (v := .int 0) (ty := .int) (C := RX2) (T := TX2) (N := 9) hx hb hts inX2 tyX2 tyX2_ok nmX2 hown hK hP hD hS 0 rfl rfl 4 (by decide) (hts _ w_146) (fun _ h9 => h9) rfl (by decide +kernel) rfl rfl (Nat.le_of_ble_eq_true rfl) dX2_setNight_2 (fun H locs hP hD hS => ?_)
  have hP : va_P D vwCl [(q_t, .inr (2, [.int v_t_columns, .int v_t_rows, .int v_t_fade, .int v_t_laws, .int 0, .int v_t_nightTimes, .ref q_t_ground, .ref q_t_windows, .ref q_t_lawParts])), (q_t_ground, .inl (cI, 36, .inl v_t_ground)), (q_t_windows, .inl (cI, 6, .inl v_t_windows)), (q_t_lawParts, .inl (cI, 18, .inl v_t_lawParts))] H := hP
  have hD : va_D A [(q_t, .inr (2, [.int v_t_columns, .int v_t_rows, .int v_t_fade, .int v_t_laws, .int 0, .int v_t_nightTimes, .ref q_t_ground, .ref q_t_windows, .ref q_t_lawParts])), (q_t_ground, .inl (cI, 36, .inl v_t_ground)), (q_t_windows, .inl (cI, 6, .inl v_t_windows)), (q_t_lawParts, .inl (cI, 18, .inl v_t_lawParts))] := hD
  refine lv_aload_n hx hb dX2_setNight_5 rfl (lv_at hl 0 rfl) ?_
  refine lv_iload_n hx hb dX2_setNight_6 rfl (lv_at hl 3 rfl) ?_
  refine va_put (D := D) (ci := 2) (v := .int x3) (ty := .int) (C := RX2) (T := TX2) (N := 9) hx hb hts inX2 tyX2 tyX2_ok nmX2 hown hK hP hD hS 0 rfl rfl 5 (by decide) (hts _ w_148) (fun _ h9 => h9) rfl (by decide +kernel) rfl rfl (Nat.le_of_ble_eq_true rfl) dX2_setNight_7 (fun H locs hP hD hS => ?_)
  have hP : va_P D vwCl [(q_t, .inr (2, [.int v_t_columns, .int v_t_rows, .int v_t_fade, .int v_t_laws, .int 0, .int x3, .ref q_t_ground, .ref q_t_windows, .ref q_t_lawParts])), (q_t_ground, .inl (cI, 36, .inl v_t_ground)), (q_t_windows, .inl (cI, 6, .inl v_t_windows)), (q_t_lawParts, .inl (cI, 18, .inl v_t_lawParts))] H := hP
  have hD : va_D A [(q_t, .inr (2, [.int v_t_columns, .int v_t_rows, .int v_t_fade, .int v_t_laws, .int 0, .int x3, .ref q_t_ground, .ref q_t_windows, .ref q_t_lawParts])), (q_t_ground, .inl (cI, 36, .inl v_t_ground)), (q_t_windows, .inl (cI, 6, .inl v_t_windows)), (q_t_lawParts, .inl (cI, 18, .inl v_t_lawParts))] := hD
  refine lv_iload_n hx hb dX2_setNight_10 rfl (lv_at hl 1 rfl) ?_
  refine lv_istore (lv' := [(4, .int x1), (0, .ref q_t), (1, .int x1), (2, .int x2), (3, .int x3)]) hx hb dX2_setNight_11 hl (by decide) rfl (fun ls hl => ?_)
  refine lv_iconst (v := 0) hx hb dX2_setNight_13 (by decide) ?_
  refine lv_istore (lv' := [(5, .int 0), (4, .int x1), (0, .ref q_t), (1, .int x1), (2, .int x2), (3, .int x3)]) hx hb dX2_setNight_14 hl (by decide) rfl (fun ls hl => ?_)
  have L16_4 : ∀ (n : Nat) (x4_1 : Int32) (x5_2 : Int32) (v_t_nightHours_3 : Int32), f_X2_setNight_L16 x3 x2 n x4_1 x5_2 v_t_nightHours_3 = some z → ∀ (H : Heap) (locs : List Loc) (ls : Array Slot), va_P D vwCl [(q_t, .inr (2, [.int v_t_columns, .int v_t_rows, .int v_t_fade, .int v_t_laws, .int v_t_nightHours_3, .int x3, .ref q_t_ground, .ref q_t_windows, .ref q_t_lawParts])), (q_t_ground, .inl (cI, 36, .inl v_t_ground)), (q_t_windows, .inl (cI, 6, .inl v_t_windows)), (q_t_lawParts, .inl (cI, 18, .inl v_t_lawParts))] H → va_D A [(q_t, .inr (2, [.int v_t_columns, .int v_t_rows, .int v_t_fade, .int v_t_laws, .int v_t_nightHours_3, .int x3, .ref q_t_ground, .ref q_t_windows, .ref q_t_lawParts])), (q_t_ground, .inl (cI, 36, .inl v_t_ground)), (q_t_windows, .inl (cI, 6, .inl v_t_windows)), (q_t_lawParts, .inl (cI, 18, .inl v_t_lawParts))] → va_S A s.heap H locs → lv_has ls 6 [(0, .ref q_t), (2, .int x2), (4, .int x4_1), (5, .int x5_2)] → W p l e ({ frames := 0, cells := 0, slots := 0, locals := 0 } : Room) s m ([.ref q_t, .int x1, .int x2, .int x3] : List Value).toArray below meth c H locs 0 0 (MQ below (QV D cI cJ cZ [(q_t, .inr (2, [.int v_t_columns, .int v_t_rows, .int v_t_fade, .int v_t_laws, .int z.1, .int z.2, .ref q_t_ground, .ref q_t_windows, .ref q_t_lawParts])), (q_t_ground, .inl (cI, 36, .inl v_t_ground)), (q_t_windows, .inl (cI, 6, .inl v_t_windows)), (q_t_lawParts, .inl (cI, 18, .inl v_t_lawParts))] A) ([.ref q_t, .int x1, .int x2, .int x3] : List Value).toArray s 0 0 A) (F0 m 16 ls []) := by
    intro n
    induction n with
    | zero =>
      intro x4_1 x5_2 v_t_nightHours_3 hf
      cases hf
    | succ n ih_5 =>
      intro x4_1 x5_2 v_t_nightHours_3 hf H locs ls hP hD hS hl
      rw [f_X2_setNight_L16] at hf
      refine lv_iload hx hb dX2_setNight_16 (lv_at hl 3 rfl) ?_
      refine lv_bipush (v := 24) hx hb dX2_setNight_18 (by decide) ?_
      refine lv_icmp_ge (tgt := 57) hx hb dX2_setNight_20 (by decide) (fun h_6 => ?_) (fun h_6 => ?_)
      · have hf := (if_pos h_6).symm.trans hf
        cases hf
        exact rt_v hx hb hr hlocks hK hP hS dX2_setNight_57
      · have hf := (if_neg h_6).symm.trans hf
        refine lv_iload hx hb dX2_setNight_23 (lv_at hl 2 rfl) ?_
        refine lv_iload_n hx hb dX2_setNight_25 rfl (lv_at hl 1 rfl) ?_
        refine lv_icmp_eq (tgt := 57) hx hb dX2_setNight_26 (by decide) (fun h_7 => ?_) (fun h_7 => ?_)
        · have hf := (if_pos h_7).symm.trans hf
          cases hf
          exact rt_v hx hb hr hlocks hK hP hS dX2_setNight_57
        · have hf := (if_neg h_7).symm.trans hf
          refine lv_aload_n hx hb dX2_setNight_29 rfl (lv_at hl 0 rfl) ?_
          refine lv_dup hx hb dX2_setNight_30 rfl ?_
          refine va_get (D := D) (ci := 2) (v := .int v_t_nightHours_3) (C := RX2) (T := TX2) (N := 9) hx hb hts inX2 hown hK hP 0 rfl rfl 4 (by decide) (hts _ w_146) (fun _ h9 => h9) rfl dX2_setNight_31 ?_
          refine lv_iconst (v := 1) hx hb dX2_setNight_34 (by decide) ?_
          refine lv_iload hx hb dX2_setNight_35 (lv_at hl 2 rfl) ?_
          refine lv_ishl hx hb dX2_setNight_37 ?_
          refine lv_ior hx hb dX2_setNight_38 ?_
          refine va_put (D := D) (ci := 2) (v := .int (v_t_nightHours_3 ||| (1 <<< (x4_1 &&& 31)))) (ty := .int) (C := RX2) (T := TX2) (N := 9) hx hb hts inX2 tyX2 tyX2_ok nmX2 hown hK hP hD hS 0 rfl rfl 4 (by decide) (hts _ w_146) (fun _ h9 => h9) rfl (by decide +kernel) rfl rfl (Nat.le_of_ble_eq_true rfl) dX2_setNight_39 (fun H locs hP hD hS => ?_)
          have hP : va_P D vwCl [(q_t, .inr (2, [.int v_t_columns, .int v_t_rows, .int v_t_fade, .int v_t_laws, .int (v_t_nightHours_3 ||| (1 <<< (x4_1 &&& 31))), .int x3, .ref q_t_ground, .ref q_t_windows, .ref q_t_lawParts])), (q_t_ground, .inl (cI, 36, .inl v_t_ground)), (q_t_windows, .inl (cI, 6, .inl v_t_windows)), (q_t_lawParts, .inl (cI, 18, .inl v_t_lawParts))] H := hP
          have hD : va_D A [(q_t, .inr (2, [.int v_t_columns, .int v_t_rows, .int v_t_fade, .int v_t_laws, .int (v_t_nightHours_3 ||| (1 <<< (x4_1 &&& 31))), .int x3, .ref q_t_ground, .ref q_t_windows, .ref q_t_lawParts])), (q_t_ground, .inl (cI, 36, .inl v_t_ground)), (q_t_windows, .inl (cI, 6, .inl v_t_windows)), (q_t_lawParts, .inl (cI, 18, .inl v_t_lawParts))] := hD
          refine lv_iload hx hb dX2_setNight_42 (lv_at hl 2 rfl) ?_
          refine lv_iconst (v := 1) hx hb dX2_setNight_44 (by decide) ?_
          refine lv_iadd hx hb dX2_setNight_45 ?_
          refine lv_bipush (v := 24) hx hb dX2_setNight_46 (by decide) ?_
          refine lv_irem hx hb dX2_setNight_48 (by decide) ?_
          refine lv_istore (lv' := [(4, .int ((x4_1 + 1) - (x4_1 + 1) / 24 * 24)), (0, .ref q_t), (2, .int x2), (5, .int x5_2)]) hx hb dX2_setNight_49 hl (by decide) rfl (fun ls hl => ?_)
          refine lv_iinc (v := (x5_2 + 1)) (lv' := [(5, .int (x5_2 + 1)), (4, .int ((x4_1 + 1) - (x4_1 + 1) / 24 * 24)), (0, .ref q_t), (2, .int x2)]) hx hb dX2_setNight_51 hl (k := 3) rfl rfl (by decide) rfl (fun ls hl => ?_)
          refine lv_goto (tgt := 16) hx hb dX2_setNight_54 (by decide) ?_
          exact ih_5 ((x4_1 + 1) - (x4_1 + 1) / 24 * 24) (x5_2 + 1) (v_t_nightHours_3 ||| (1 <<< (x4_1 &&& 31))) hf _ _ _ hP hD hS (lv_sub hl [2, 3, 1, 0] rfl)
  exact L16_4 FU x1 0 0 hf _ _ _ hP hD hS (lv_sub hl [2, 4, 1, 0] rfl)

def f_X2_ahead (v_t_columns : Int32) (v_t_rows : Int32) (x1 : Int32) (x2 : Int32) : Option (Int32) :=
  (f_X2_columnOf v_t_columns x1).bind (fun z3 => gd (ib (x2 &&& 7) 8) ((f_X2_rowOf v_t_columns x1).bind (fun z17 => gd (ib (x2 &&& 7) 8) ((f_X2_cellAt v_t_columns v_t_rows (z3 + (colF (Int32.toNatClampNeg (x2 &&& 7)))) (z17 + (rowF (Int32.toNatClampNeg (x2 &&& 7))))).bind (fun z29 => (some z29))))))
theorem gv_X2_ahead {own : String} {idx : Nat} (h : Cond.methodLink own idx yX2_ahead ∈ lw_g) : GoodIn lw_g (wsV own idx RX2 yX2_ahead (Cond.code yX2_ahead cX2_ahead 3 (some .int) :: lw_g)) := gV h w_594 w_595 w_60 w_596
theorem hd_X2_ahead : yX2_ahead.cls = RX2 ∧ yX2_ahead.cls ≠ "java/lang/invoke/MethodHandle" ∧ yX2_ahead.cls ≠ "java/lang/invoke/VarHandle" ∧ (parseMethodDescriptor yX2_ahead.desc).map (fun d => d.parameters.length) = some 2 := by decide +kernel
set_option maxHeartbeats 4000000 in
set_option maxRecDepth 100000 in
theorem c_X2_ahead (l : Launch) (D : va_G) (cI cJ cZ : ClassId) (en : EnT) (q_t q_t_ground q_t_windows q_t_lawParts : Nat) (sz : Nat) (v_t_columns : Int32) (v_t_rows : Int32) (v_t_fade : Int32) (v_t_laws : Int32) (v_t_nightHours : Int32) (v_t_nightTimes : Int32) (v_t_ground : Nat → Int32) (v_t_windows : Nat → Int32) (v_t_lawParts : Nat → Int32) (x1 : Int32) (x2 : Int32) {z : Int32} (hf : f_X2_ahead v_t_columns v_t_rows x1 x2 = some z) : Met l yX2_ahead (Cond.code yX2_ahead cX2_ahead 3 (some .int) :: lw_g) ({ frames := 1, cells := 0, slots := 0, locals := 22 } : Room) (PC D cI cJ cZ en ([.ref q_t, .int x1, .int x2] : List Value) [(q_t, .inr (2, [.int v_t_columns, .int v_t_rows, .int v_t_fade, .int v_t_laws, .int v_t_nightHours, .int v_t_nightTimes, .ref q_t_ground, .ref q_t_windows, .ref q_t_lawParts])), (q_t_ground, .inl (cI, 36, .inl v_t_ground)), (q_t_windows, .inl (cI, 6, .inl v_t_windows)), (q_t_lawParts, .inl (cI, 18, .inl v_t_lawParts))] sz) (QI D cI cJ cZ [(q_t, .inr (2, [.int v_t_columns, .int v_t_rows, .int v_t_fade, .int v_t_laws, .int v_t_nightHours, .int v_t_nightTimes, .ref q_t_ground, .ref q_t_windows, .ref q_t_lawParts])), (q_t_ground, .inl (cI, 36, .inl v_t_ground)), (q_t_windows, .inl (cI, 6, .inl v_t_windows)), (q_t_lawParts, .inl (cI, 18, .inl v_t_lawParts))] z (va_A [(q_t, .inr (2, [.int v_t_columns, .int v_t_rows, .int v_t_fade, .int v_t_laws, .int v_t_nightHours, .int v_t_nightTimes, .ref q_t_ground, .ref q_t_windows, .ref q_t_lawParts])), (q_t_ground, .inl (cI, 36, .inl v_t_ground)), (q_t_windows, .inl (cI, 6, .inl v_t_windows)), (q_t_lawParts, .inl (cI, 18, .inl v_t_lawParts))] sz)) 0 0 (va_A [(q_t, .inr (2, [.int v_t_columns, .int v_t_rows, .int v_t_fade, .int v_t_laws, .int v_t_nightHours, .int v_t_nightTimes, .ref q_t_ground, .ref q_t_windows, .ref q_t_lawParts])), (q_t_ground, .inl (cI, 36, .inl v_t_ground)), (q_t_windows, .inl (cI, 6, .inl v_t_windows)), (q_t_lawParts, .inl (cI, 18, .inl v_t_lawParts))] sz) := by
  refine mk_met (Qc := fun A => (QI D cI cJ cZ [(q_t, .inr (2, [.int v_t_columns, .int v_t_rows, .int v_t_fade, .int v_t_laws, .int v_t_nightHours, .int v_t_nightTimes, .ref q_t_ground, .ref q_t_windows, .ref q_t_lawParts])), (q_t_ground, .inl (cI, 36, .inl v_t_ground)), (q_t_windows, .inl (cI, 6, .inl v_t_windows)), (q_t_lawParts, .inl (cI, 18, .inl v_t_lawParts))] z A)) RX2 (by decide) rfl (Nat.le_of_ble_eq_true rfl) ?_
  intro p e s m below meth c ls A hx hb hr hml hown hts hlocks hA hK hE hl hD H locs hP hS
  have hl : lv_has ls 3 [(0, .ref q_t), (1, .int x1), (2, .int x2)] := hl
  unfold f_X2_ahead at hf
  refine lv_aload_n hx hb dX2_ahead_0 rfl (lv_at hl 0 rfl) ?_
  refine lv_aload_n hx hb dX2_ahead_1 rfl (lv_at hl 0 rfl) ?_
  refine lv_iload_n hx hb dX2_ahead_2 rfl (lv_at hl 1 rfl) ?_
  obtain ⟨z3_1, hz3_1, hf⟩ := bd_some hf
  refine cVi (rest := [.ref q_t]) ⟨hx, hb, hml, hown, hts⟩ hE hK hP hD hS hA (c_X2_columnOf l D cI cJ cZ en q_t q_t_ground q_t_windows q_t_lawParts H.size v_t_columns v_t_rows v_t_fade v_t_laws v_t_nightHours v_t_nightTimes v_t_ground v_t_windows v_t_lawParts x1 hz3_1) (gv_X2_columnOf w_597) hd_X2_columnOf ⟨rfl, rfl⟩ ⟨by decide, by decide⟩ [0, 1, 2, 3] rfl rfl rfl 2 rfl rfl 0 rfl  hl rfl (Nat.le_of_ble_eq_true rfl) ⟨Nat.zero_le _, Nat.zero_le _⟩ dX2_ahead_3 (fun H locs hP hD hS => ?_)
  have hP : va_P D vwCl [(q_t, .inr (2, [.int v_t_columns, .int v_t_rows, .int v_t_fade, .int v_t_laws, .int v_t_nightHours, .int v_t_nightTimes, .ref q_t_ground, .ref q_t_windows, .ref q_t_lawParts])), (q_t_ground, .inl (cI, 36, .inl v_t_ground)), (q_t_windows, .inl (cI, 6, .inl v_t_windows)), (q_t_lawParts, .inl (cI, 18, .inl v_t_lawParts))] H := hP
  have hD : va_D A [(q_t, .inr (2, [.int v_t_columns, .int v_t_rows, .int v_t_fade, .int v_t_laws, .int v_t_nightHours, .int v_t_nightTimes, .ref q_t_ground, .ref q_t_windows, .ref q_t_lawParts])), (q_t_ground, .inl (cI, 36, .inl v_t_ground)), (q_t_windows, .inl (cI, 6, .inl v_t_windows)), (q_t_lawParts, .inl (cI, 18, .inl v_t_lawParts))] := hD
  refine va_gets hx hb hE.2.2.1 hS hown (hts _ w_601) (fun _ h9 => h9) dX2_ahead_6 ?_
  refine lv_iload_n hx hb dX2_ahead_9 rfl (lv_at hl 2 rfl) ?_
  refine lv_bipush (v := 7) hx hb dX2_ahead_10 (by decide) ?_
  refine lv_iand hx hb dX2_ahead_12 ?_
  obtain ⟨hin, hf⟩ := gd_some hf
  refine va_ti hx hb hE.2.2.2.1 hS hin rfl dX2_ahead_13 ?_
  refine lv_iadd hx hb dX2_ahead_14 ?_
  refine lv_aload_n hx hb dX2_ahead_15 rfl (lv_at hl 0 rfl) ?_
  refine lv_iload_n hx hb dX2_ahead_16 rfl (lv_at hl 1 rfl) ?_
  obtain ⟨z17_2, hz17_2, hf⟩ := bd_some hf
  refine cVi (rest := [.int (z3_1 + (colF (Int32.toNatClampNeg (x2 &&& 7)))), .ref q_t]) ⟨hx, hb, hml, hown, hts⟩ hE hK hP hD hS hA (c_X2_rowOf l D cI cJ cZ en q_t q_t_ground q_t_windows q_t_lawParts H.size v_t_columns v_t_rows v_t_fade v_t_laws v_t_nightHours v_t_nightTimes v_t_ground v_t_windows v_t_lawParts x1 hz17_2) (gv_X2_rowOf w_603) hd_X2_rowOf ⟨rfl, rfl⟩ ⟨by decide, by decide⟩ [0, 1, 2, 3] rfl rfl rfl 2 rfl rfl 0 rfl  hl rfl (Nat.le_of_ble_eq_true rfl) ⟨Nat.zero_le _, Nat.zero_le _⟩ dX2_ahead_17 (fun H locs hP hD hS => ?_)
  have hP : va_P D vwCl [(q_t, .inr (2, [.int v_t_columns, .int v_t_rows, .int v_t_fade, .int v_t_laws, .int v_t_nightHours, .int v_t_nightTimes, .ref q_t_ground, .ref q_t_windows, .ref q_t_lawParts])), (q_t_ground, .inl (cI, 36, .inl v_t_ground)), (q_t_windows, .inl (cI, 6, .inl v_t_windows)), (q_t_lawParts, .inl (cI, 18, .inl v_t_lawParts))] H := hP
  have hD : va_D A [(q_t, .inr (2, [.int v_t_columns, .int v_t_rows, .int v_t_fade, .int v_t_laws, .int v_t_nightHours, .int v_t_nightTimes, .ref q_t_ground, .ref q_t_windows, .ref q_t_lawParts])), (q_t_ground, .inl (cI, 36, .inl v_t_ground)), (q_t_windows, .inl (cI, 6, .inl v_t_windows)), (q_t_lawParts, .inl (cI, 18, .inl v_t_lawParts))] := hD
  refine va_gets hx hb hE.2.2.2.2.1 hS hown (hts _ w_607) (fun _ h9 => h9) dX2_ahead_20 ?_
  refine lv_iload_n hx hb dX2_ahead_23 rfl (lv_at hl 2 rfl) ?_
  refine lv_bipush (v := 7) hx hb dX2_ahead_24 (by decide) ?_
  refine lv_iand hx hb dX2_ahead_26 ?_
  obtain ⟨hin, hf⟩ := gd_some hf
  refine va_ti hx hb hE.2.2.2.2.2.1 hS hin rfl dX2_ahead_27 ?_
  refine lv_iadd hx hb dX2_ahead_28 ?_
  obtain ⟨z29_3, hz29_3, hf⟩ := bd_some hf
  refine cVi (rest := []) ⟨hx, hb, hml, hown, hts⟩ hE hK hP hD hS hA (c_X2_cellAt l D cI cJ cZ en q_t q_t_ground q_t_windows q_t_lawParts H.size v_t_columns v_t_rows v_t_fade v_t_laws v_t_nightHours v_t_nightTimes v_t_ground v_t_windows v_t_lawParts (z3_1 + (colF (Int32.toNatClampNeg (x2 &&& 7)))) (z17_2 + (rowF (Int32.toNatClampNeg (x2 &&& 7)))) hz29_3) (gv_X2_cellAt w_609) hd_X2_cellAt ⟨rfl, rfl⟩ ⟨by decide, by decide⟩ [0, 1, 2, 3] rfl rfl rfl 2 rfl rfl 0 rfl  hl rfl (Nat.le_of_ble_eq_true rfl) ⟨Nat.zero_le _, Nat.zero_le _⟩ dX2_ahead_29 (fun H locs hP hD hS => ?_)
  have hP : va_P D vwCl [(q_t, .inr (2, [.int v_t_columns, .int v_t_rows, .int v_t_fade, .int v_t_laws, .int v_t_nightHours, .int v_t_nightTimes, .ref q_t_ground, .ref q_t_windows, .ref q_t_lawParts])), (q_t_ground, .inl (cI, 36, .inl v_t_ground)), (q_t_windows, .inl (cI, 6, .inl v_t_windows)), (q_t_lawParts, .inl (cI, 18, .inl v_t_lawParts))] H := hP
  have hD : va_D A [(q_t, .inr (2, [.int v_t_columns, .int v_t_rows, .int v_t_fade, .int v_t_laws, .int v_t_nightHours, .int v_t_nightTimes, .ref q_t_ground, .ref q_t_windows, .ref q_t_lawParts])), (q_t_ground, .inl (cI, 36, .inl v_t_ground)), (q_t_windows, .inl (cI, 6, .inl v_t_windows)), (q_t_lawParts, .inl (cI, 18, .inl v_t_lawParts))] := hD
  cases hf
  exact rt_i hx hb hr hlocks hK hP hS dX2_ahead_32

def f_X2_loudThrownBack_J24 (x2 : Int32) (k0 : Int32) : Option (Int32) :=
  (some (x2 - ((x2 * k0) / 100)))
def f_X2_loudThrownBack (v_t_columns : Int32) (v_t_rows : Int32) (v_t_ground : Nat → Int32) (x1 : Int32) (x2 : Int32) (x3 : Int32) : Option (Int32) :=
  (if x3 = 0 then (f_X2_softOf v_t_columns v_t_rows v_t_ground x1).bind (fun z21 => (f_X2_loudThrownBack_J24 x2 z21)) else (f_X2_softOf v_t_columns v_t_rows v_t_ground x1).bind (fun z9 => (f_X2_loudThrownBack_J24 x2 (if (2 * z9) < 100 then (2 * z9) else 100))))
theorem gv_X2_loudThrownBack {own : String} {idx : Nat} (h : Cond.methodLink own idx yX2_loudThrownBack ∈ lw_g) : GoodIn lw_g (wsV own idx RX2 yX2_loudThrownBack (Cond.code yX2_loudThrownBack cX2_loudThrownBack 5 (some .int) :: lw_g)) := gV h w_612 w_613 w_60 w_614
theorem hd_X2_loudThrownBack : yX2_loudThrownBack.cls = RX2 ∧ yX2_loudThrownBack.cls ≠ "java/lang/invoke/MethodHandle" ∧ yX2_loudThrownBack.cls ≠ "java/lang/invoke/VarHandle" ∧ (parseMethodDescriptor yX2_loudThrownBack.desc).map (fun d => d.parameters.length) = some 3 := by decide +kernel
set_option maxHeartbeats 4000000 in
set_option maxRecDepth 100000 in
theorem c_X2_loudThrownBack (l : Launch) (D : va_G) (cI cJ cZ : ClassId) (en : EnT) (q_t q_t_ground q_t_windows q_t_lawParts : Nat) (sz : Nat) (v_t_columns : Int32) (v_t_rows : Int32) (v_t_fade : Int32) (v_t_laws : Int32) (v_t_nightHours : Int32) (v_t_nightTimes : Int32) (v_t_ground : Nat → Int32) (v_t_windows : Nat → Int32) (v_t_lawParts : Nat → Int32) (x1 : Int32) (x2 : Int32) (x3 : Int32) {z : Int32} (hf : f_X2_loudThrownBack v_t_columns v_t_rows v_t_ground x1 x2 x3 = some z) : Met l yX2_loudThrownBack (Cond.code yX2_loudThrownBack cX2_loudThrownBack 5 (some .int) :: lw_g) ({ frames := 2, cells := 0, slots := 0, locals := 42 } : Room) (PC D cI cJ cZ en ([.ref q_t, .int x1, .int x2, .int x3] : List Value) [(q_t, .inr (2, [.int v_t_columns, .int v_t_rows, .int v_t_fade, .int v_t_laws, .int v_t_nightHours, .int v_t_nightTimes, .ref q_t_ground, .ref q_t_windows, .ref q_t_lawParts])), (q_t_ground, .inl (cI, 36, .inl v_t_ground)), (q_t_windows, .inl (cI, 6, .inl v_t_windows)), (q_t_lawParts, .inl (cI, 18, .inl v_t_lawParts))] sz) (QI D cI cJ cZ [(q_t, .inr (2, [.int v_t_columns, .int v_t_rows, .int v_t_fade, .int v_t_laws, .int v_t_nightHours, .int v_t_nightTimes, .ref q_t_ground, .ref q_t_windows, .ref q_t_lawParts])), (q_t_ground, .inl (cI, 36, .inl v_t_ground)), (q_t_windows, .inl (cI, 6, .inl v_t_windows)), (q_t_lawParts, .inl (cI, 18, .inl v_t_lawParts))] z (va_A [(q_t, .inr (2, [.int v_t_columns, .int v_t_rows, .int v_t_fade, .int v_t_laws, .int v_t_nightHours, .int v_t_nightTimes, .ref q_t_ground, .ref q_t_windows, .ref q_t_lawParts])), (q_t_ground, .inl (cI, 36, .inl v_t_ground)), (q_t_windows, .inl (cI, 6, .inl v_t_windows)), (q_t_lawParts, .inl (cI, 18, .inl v_t_lawParts))] sz)) 0 0 (va_A [(q_t, .inr (2, [.int v_t_columns, .int v_t_rows, .int v_t_fade, .int v_t_laws, .int v_t_nightHours, .int v_t_nightTimes, .ref q_t_ground, .ref q_t_windows, .ref q_t_lawParts])), (q_t_ground, .inl (cI, 36, .inl v_t_ground)), (q_t_windows, .inl (cI, 6, .inl v_t_windows)), (q_t_lawParts, .inl (cI, 18, .inl v_t_lawParts))] sz) := by
  refine mk_met (Qc := fun A => (QI D cI cJ cZ [(q_t, .inr (2, [.int v_t_columns, .int v_t_rows, .int v_t_fade, .int v_t_laws, .int v_t_nightHours, .int v_t_nightTimes, .ref q_t_ground, .ref q_t_windows, .ref q_t_lawParts])), (q_t_ground, .inl (cI, 36, .inl v_t_ground)), (q_t_windows, .inl (cI, 6, .inl v_t_windows)), (q_t_lawParts, .inl (cI, 18, .inl v_t_lawParts))] z A)) RX2 (by decide) rfl (Nat.le_of_ble_eq_true rfl) ?_
  intro p e s m below meth c ls A hx hb hr hml hown hts hlocks hA hK hE hl hD H locs hP hS
  have hl : lv_has ls 5 [(0, .ref q_t), (1, .int x1), (2, .int x2), (3, .int x3)] := hl
  unfold f_X2_loudThrownBack at hf
  refine lv_iload_n hx hb dX2_loudThrownBack_0 rfl (lv_at hl 3 rfl) ?_
  have J24_2 : ∀ (k0_1 : Int32), f_X2_loudThrownBack_J24 x2 k0_1 = some z → ∀ (H : Heap) (locs : List Loc) (ls : Array Slot), va_P D vwCl [(q_t, .inr (2, [.int v_t_columns, .int v_t_rows, .int v_t_fade, .int v_t_laws, .int v_t_nightHours, .int v_t_nightTimes, .ref q_t_ground, .ref q_t_windows, .ref q_t_lawParts])), (q_t_ground, .inl (cI, 36, .inl v_t_ground)), (q_t_windows, .inl (cI, 6, .inl v_t_windows)), (q_t_lawParts, .inl (cI, 18, .inl v_t_lawParts))] H → va_D A [(q_t, .inr (2, [.int v_t_columns, .int v_t_rows, .int v_t_fade, .int v_t_laws, .int v_t_nightHours, .int v_t_nightTimes, .ref q_t_ground, .ref q_t_windows, .ref q_t_lawParts])), (q_t_ground, .inl (cI, 36, .inl v_t_ground)), (q_t_windows, .inl (cI, 6, .inl v_t_windows)), (q_t_lawParts, .inl (cI, 18, .inl v_t_lawParts))] → va_S A s.heap H locs → lv_has ls 5 [(2, .int x2)] → W p l e ({ frames := 2, cells := 0, slots := 0, locals := 42 } : Room) s m ([.ref q_t, .int x1, .int x2, .int x3] : List Value).toArray below meth c H locs 0 0 (MQ below (QI D cI cJ cZ [(q_t, .inr (2, [.int v_t_columns, .int v_t_rows, .int v_t_fade, .int v_t_laws, .int v_t_nightHours, .int v_t_nightTimes, .ref q_t_ground, .ref q_t_windows, .ref q_t_lawParts])), (q_t_ground, .inl (cI, 36, .inl v_t_ground)), (q_t_windows, .inl (cI, 6, .inl v_t_windows)), (q_t_lawParts, .inl (cI, 18, .inl v_t_lawParts))] z A) ([.ref q_t, .int x1, .int x2, .int x3] : List Value).toArray s 0 0 A) (F0 m 24 ls [.int k0_1]) := by
    intro k0_1 hf H locs ls hP hD hS hl
    unfold f_X2_loudThrownBack_J24 at hf
    refine lv_istore (lv' := [(4, .int k0_1), (2, .int x2)]) hx hb dX2_loudThrownBack_24 hl (by decide) rfl (fun ls hl => ?_)
    refine lv_iload_n hx hb dX2_loudThrownBack_26 rfl (lv_at hl 1 rfl) ?_
    refine lv_iload_n hx hb dX2_loudThrownBack_27 rfl (lv_at hl 1 rfl) ?_
    refine lv_iload hx hb dX2_loudThrownBack_28 (lv_at hl 0 rfl) ?_
    refine lv_imul hx hb dX2_loudThrownBack_30 ?_
    refine lv_bipush (v := 100) hx hb dX2_loudThrownBack_31 (by decide) ?_
    refine lv_idiv hx hb dX2_loudThrownBack_33 (by decide) ?_
    refine lv_isub hx hb dX2_loudThrownBack_34 ?_
    cases hf
    exact rt_i hx hb hr hlocks hK hP hS dX2_loudThrownBack_35
  refine lv_if_eq (tgt := 19) hx hb dX2_loudThrownBack_1 (by decide) (fun h_3 => ?_) (fun h_3 => ?_)
  · have hf := (if_pos h_3).symm.trans hf
    refine lv_aload_n hx hb dX2_loudThrownBack_19 rfl (lv_at hl 0 rfl) ?_
    refine lv_iload_n hx hb dX2_loudThrownBack_20 rfl (lv_at hl 1 rfl) ?_
    obtain ⟨z21_4, hz21_4, hf⟩ := bd_some hf
    refine cVi (rest := []) ⟨hx, hb, hml, hown, hts⟩ hE hK hP hD hS hA (c_X2_softOf l D cI cJ cZ en q_t q_t_ground q_t_windows q_t_lawParts H.size v_t_columns v_t_rows v_t_fade v_t_laws v_t_nightHours v_t_nightTimes v_t_ground v_t_windows v_t_lawParts x1 hz21_4) (gv_X2_softOf w_615) hd_X2_softOf ⟨rfl, rfl⟩ ⟨by decide, by decide⟩ [0, 1, 2, 3] rfl rfl rfl 2 rfl rfl 0 rfl  hl rfl (Nat.le_of_ble_eq_true rfl) ⟨Nat.zero_le _, Nat.zero_le _⟩ dX2_loudThrownBack_21 (fun H locs hP hD hS => ?_)
    have hP : va_P D vwCl [(q_t, .inr (2, [.int v_t_columns, .int v_t_rows, .int v_t_fade, .int v_t_laws, .int v_t_nightHours, .int v_t_nightTimes, .ref q_t_ground, .ref q_t_windows, .ref q_t_lawParts])), (q_t_ground, .inl (cI, 36, .inl v_t_ground)), (q_t_windows, .inl (cI, 6, .inl v_t_windows)), (q_t_lawParts, .inl (cI, 18, .inl v_t_lawParts))] H := hP
    have hD : va_D A [(q_t, .inr (2, [.int v_t_columns, .int v_t_rows, .int v_t_fade, .int v_t_laws, .int v_t_nightHours, .int v_t_nightTimes, .ref q_t_ground, .ref q_t_windows, .ref q_t_lawParts])), (q_t_ground, .inl (cI, 36, .inl v_t_ground)), (q_t_windows, .inl (cI, 6, .inl v_t_windows)), (q_t_lawParts, .inl (cI, 18, .inl v_t_lawParts))] := hD
    exact J24_2 z21_4 hf _ _ _ hP hD hS (lv_sub hl [2] rfl)
  · have hf := (if_neg h_3).symm.trans hf
    refine lv_bipush (v := 100) hx hb dX2_loudThrownBack_4 (by decide) ?_
    refine lv_iconst (v := 2) hx hb dX2_loudThrownBack_6 (by decide) ?_
    refine lv_aload_n hx hb dX2_loudThrownBack_7 rfl (lv_at hl 0 rfl) ?_
    refine lv_iload_n hx hb dX2_loudThrownBack_8 rfl (lv_at hl 1 rfl) ?_
    obtain ⟨z9_5, hz9_5, hf⟩ := bd_some hf
    refine cVi (rest := [.int 2, .int 100]) ⟨hx, hb, hml, hown, hts⟩ hE hK hP hD hS hA (c_X2_softOf l D cI cJ cZ en q_t q_t_ground q_t_windows q_t_lawParts H.size v_t_columns v_t_rows v_t_fade v_t_laws v_t_nightHours v_t_nightTimes v_t_ground v_t_windows v_t_lawParts x1 hz9_5) (gv_X2_softOf w_615) hd_X2_softOf ⟨rfl, rfl⟩ ⟨by decide, by decide⟩ [0, 1, 2, 3] rfl rfl rfl 2 rfl rfl 0 rfl  hl rfl (Nat.le_of_ble_eq_true rfl) ⟨Nat.zero_le _, Nat.zero_le _⟩ dX2_loudThrownBack_9 (fun H locs hP hD hS => ?_)
    have hP : va_P D vwCl [(q_t, .inr (2, [.int v_t_columns, .int v_t_rows, .int v_t_fade, .int v_t_laws, .int v_t_nightHours, .int v_t_nightTimes, .ref q_t_ground, .ref q_t_windows, .ref q_t_lawParts])), (q_t_ground, .inl (cI, 36, .inl v_t_ground)), (q_t_windows, .inl (cI, 6, .inl v_t_windows)), (q_t_lawParts, .inl (cI, 18, .inl v_t_lawParts))] H := hP
    have hD : va_D A [(q_t, .inr (2, [.int v_t_columns, .int v_t_rows, .int v_t_fade, .int v_t_laws, .int v_t_nightHours, .int v_t_nightTimes, .ref q_t_ground, .ref q_t_windows, .ref q_t_lawParts])), (q_t_ground, .inl (cI, 36, .inl v_t_ground)), (q_t_windows, .inl (cI, 6, .inl v_t_windows)), (q_t_lawParts, .inl (cI, 18, .inl v_t_lawParts))] := hD
    refine lv_imul hx hb dX2_loudThrownBack_12 ?_
    refine va_mmin hx hb (hml.trans hl.1.symm) hown (hts _ w_616) (hts _ w_617) (hts _ w_73) (hts _ w_618) (by decide) (Nat.le_of_ble_eq_true rfl) (Nat.zero_le _) (Nat.zero_le _) dX2_loudThrownBack_13 ?_
    refine lv_goto (tgt := 24) hx hb dX2_loudThrownBack_16 (by decide) ?_
    exact J24_2 (if (2 * z9_5) < 100 then (2 * z9_5) else 100) hf _ _ _ hP hD hS (lv_sub hl [2] rfl)

def f_X2_lay (v_t_columns : Int32) (v_t_rows : Int32) (v_t_ground : Nat → Int32) (v_t_windows : Nat → Int32) (x1 : Int32) (x2 : Int32) : Option (Int32 × Int32 × (Nat → Int32) × (Nat → Int32)) :=
  (f_J7_fill_53178 36 v_t_ground (-1)).bind (fun z15 => (f_J7_fill_53178 6 v_t_windows (-1)).bind (fun z23 => (some (x1, x2, z15, z23))))
theorem gv_X2_lay {own : String} {idx : Nat} (h : Cond.methodLink own idx yX2_lay ∈ lw_g) : GoodIn lw_g (wsV own idx RX2 yX2_lay (Cond.code yX2_lay cX2_lay 3 none :: lw_g)) := gV h w_473 w_474 w_60 w_475
theorem hd_X2_lay : yX2_lay.cls = RX2 ∧ yX2_lay.cls ≠ "java/lang/invoke/MethodHandle" ∧ yX2_lay.cls ≠ "java/lang/invoke/VarHandle" ∧ (parseMethodDescriptor yX2_lay.desc).map (fun d => d.parameters.length) = some 2 := by decide +kernel
set_option maxHeartbeats 4000000 in
set_option maxRecDepth 100000 in
theorem c_X2_lay (l : Launch) (D : va_G) (cI cJ cZ : ClassId) (en : EnT) (q_t q_t_ground q_t_windows q_t_lawParts : Nat) (sz : Nat) (v_t_columns : Int32) (v_t_rows : Int32) (v_t_fade : Int32) (v_t_laws : Int32) (v_t_nightHours : Int32) (v_t_nightTimes : Int32) (v_t_ground : Nat → Int32) (v_t_windows : Nat → Int32) (v_t_lawParts : Nat → Int32) (x1 : Int32) (x2 : Int32) {z : Int32 × Int32 × (Nat → Int32) × (Nat → Int32)} (hf : f_X2_lay v_t_columns v_t_rows v_t_ground v_t_windows x1 x2 = some z) : Met l yX2_lay (Cond.code yX2_lay cX2_lay 3 none :: lw_g) ({ frames := 1, cells := 0, slots := 0, locals := 23 } : Room) (PC D cI cJ cZ en ([.ref q_t, .int x1, .int x2] : List Value) [(q_t, .inr (2, [.int v_t_columns, .int v_t_rows, .int v_t_fade, .int v_t_laws, .int v_t_nightHours, .int v_t_nightTimes, .ref q_t_ground, .ref q_t_windows, .ref q_t_lawParts])), (q_t_ground, .inl (cI, 36, .inl v_t_ground)), (q_t_windows, .inl (cI, 6, .inl v_t_windows)), (q_t_lawParts, .inl (cI, 18, .inl v_t_lawParts))] sz) (QV D cI cJ cZ [(q_t, .inr (2, [.int z.1, .int z.2.1, .int v_t_fade, .int v_t_laws, .int v_t_nightHours, .int v_t_nightTimes, .ref q_t_ground, .ref q_t_windows, .ref q_t_lawParts])), (q_t_ground, .inl (cI, 36, .inl z.2.2.1)), (q_t_windows, .inl (cI, 6, .inl z.2.2.2)), (q_t_lawParts, .inl (cI, 18, .inl v_t_lawParts))] (va_A [(q_t, .inr (2, [.int v_t_columns, .int v_t_rows, .int v_t_fade, .int v_t_laws, .int v_t_nightHours, .int v_t_nightTimes, .ref q_t_ground, .ref q_t_windows, .ref q_t_lawParts])), (q_t_ground, .inl (cI, 36, .inl v_t_ground)), (q_t_windows, .inl (cI, 6, .inl v_t_windows)), (q_t_lawParts, .inl (cI, 18, .inl v_t_lawParts))] sz)) 0 0 (va_A [(q_t, .inr (2, [.int v_t_columns, .int v_t_rows, .int v_t_fade, .int v_t_laws, .int v_t_nightHours, .int v_t_nightTimes, .ref q_t_ground, .ref q_t_windows, .ref q_t_lawParts])), (q_t_ground, .inl (cI, 36, .inl v_t_ground)), (q_t_windows, .inl (cI, 6, .inl v_t_windows)), (q_t_lawParts, .inl (cI, 18, .inl v_t_lawParts))] sz) := by
  refine mk_met (Qc := fun A => (QV D cI cJ cZ [(q_t, .inr (2, [.int z.1, .int z.2.1, .int v_t_fade, .int v_t_laws, .int v_t_nightHours, .int v_t_nightTimes, .ref q_t_ground, .ref q_t_windows, .ref q_t_lawParts])), (q_t_ground, .inl (cI, 36, .inl z.2.2.1)), (q_t_windows, .inl (cI, 6, .inl z.2.2.2)), (q_t_lawParts, .inl (cI, 18, .inl v_t_lawParts))] A)) RX2 (by decide) rfl (Nat.le_of_ble_eq_true rfl) ?_
  intro p e s m below meth c ls A hx hb hr hml hown hts hlocks hA hK hE hl hD H locs hP hS
  have hl : lv_has ls 3 [(0, .ref q_t), (1, .int x1), (2, .int x2)] := hl
  unfold f_X2_lay at hf
  refine lv_aload_n hx hb dX2_lay_0 rfl (lv_at hl 0 rfl) ?_
  refine lv_iload_n hx hb dX2_lay_1 rfl (lv_at hl 1 rfl) ?_
  refine va_put (D := D) (ci := 2) (v := .int x1) (ty := .int) (C := RX2) (T := TX2) (N := 9) hx hb hts inX2 tyX2 tyX2_ok nmX2 hown hK hP hD hS 0 rfl rfl 0 (by decide) (hts _ w_133) (fun _ h9 => h9) rfl (by decide +kernel) rfl rfl (Nat.le_of_ble_eq_true rfl) dX2_lay_2 (fun H locs hP hD hS => ?_)
  have hP : va_P D vwCl [(q_t, .inr (2, [.int x1, .int v_t_rows, .int v_t_fade, .int v_t_laws, .int v_t_nightHours, .int v_t_nightTimes, .ref q_t_ground, .ref q_t_windows, .ref q_t_lawParts])), (q_t_ground, .inl (cI, 36, .inl v_t_ground)), (q_t_windows, .inl (cI, 6, .inl v_t_windows)), (q_t_lawParts, .inl (cI, 18, .inl v_t_lawParts))] H := hP
  have hD : va_D A [(q_t, .inr (2, [.int x1, .int v_t_rows, .int v_t_fade, .int v_t_laws, .int v_t_nightHours, .int v_t_nightTimes, .ref q_t_ground, .ref q_t_windows, .ref q_t_lawParts])), (q_t_ground, .inl (cI, 36, .inl v_t_ground)), (q_t_windows, .inl (cI, 6, .inl v_t_windows)), (q_t_lawParts, .inl (cI, 18, .inl v_t_lawParts))] := hD
  refine lv_aload_n hx hb dX2_lay_5 rfl (lv_at hl 0 rfl) ?_
  refine lv_iload_n hx hb dX2_lay_6 rfl (lv_at hl 2 rfl) ?_
  refine va_put (D := D) (ci := 2) (v := .int x2) (ty := .int) (C := RX2) (T := TX2) (N := 9) hx hb hts inX2 tyX2 tyX2_ok nmX2 hown hK hP hD hS 0 rfl rfl 1 (by decide) (hts _ w_136) (fun _ h9 => h9) rfl (by decide +kernel) rfl rfl (Nat.le_of_ble_eq_true rfl) dX2_lay_7 (fun H locs hP hD hS => ?_)
  have hP : va_P D vwCl [(q_t, .inr (2, [.int x1, .int x2, .int v_t_fade, .int v_t_laws, .int v_t_nightHours, .int v_t_nightTimes, .ref q_t_ground, .ref q_t_windows, .ref q_t_lawParts])), (q_t_ground, .inl (cI, 36, .inl v_t_ground)), (q_t_windows, .inl (cI, 6, .inl v_t_windows)), (q_t_lawParts, .inl (cI, 18, .inl v_t_lawParts))] H := hP
  have hD : va_D A [(q_t, .inr (2, [.int x1, .int x2, .int v_t_fade, .int v_t_laws, .int v_t_nightHours, .int v_t_nightTimes, .ref q_t_ground, .ref q_t_windows, .ref q_t_lawParts])), (q_t_ground, .inl (cI, 36, .inl v_t_ground)), (q_t_windows, .inl (cI, 6, .inl v_t_windows)), (q_t_lawParts, .inl (cI, 18, .inl v_t_lawParts))] := hD
  refine lv_aload_n hx hb dX2_lay_10 rfl (lv_at hl 0 rfl) ?_
  refine va_get (D := D) (ci := 2) (v := .ref q_t_ground) (C := RX2) (T := TX2) (N := 9) hx hb hts inX2 hown hK hP 0 rfl rfl 6 (by decide) (hts _ w_150) (fun _ h9 => h9) rfl dX2_lay_11 ?_
  refine lv_iconst (v := (-1)) hx hb dX2_lay_14 (by decide) ?_
  obtain ⟨z15_1, hz15_1, hf⟩ := bd_some hf
  refine cSv (rest := []) ⟨hx, hb, hml, hown, hts⟩ hE hK hP hD hS hA (c_J7_fill_53178 l D cI cJ cZ en q_t_ground 36 H.size v_t_ground (-1) hz15_1) (gs_J7_fill_53178 w_130) hd_J7_fill_53178 ⟨rfl, rfl⟩ ⟨by decide, by decide⟩ [1] rfl rfl rfl  hl rfl (Nat.le_of_ble_eq_true rfl) ⟨Nat.zero_le _, Nat.zero_le _⟩ dX2_lay_15 (fun H locs hP hD hS => ?_)
  have hP : va_P D vwCl [(q_t, .inr (2, [.int x1, .int x2, .int v_t_fade, .int v_t_laws, .int v_t_nightHours, .int v_t_nightTimes, .ref q_t_ground, .ref q_t_windows, .ref q_t_lawParts])), (q_t_ground, .inl (cI, 36, .inl z15_1)), (q_t_windows, .inl (cI, 6, .inl v_t_windows)), (q_t_lawParts, .inl (cI, 18, .inl v_t_lawParts))] H := hP
  have hD : va_D A [(q_t, .inr (2, [.int x1, .int x2, .int v_t_fade, .int v_t_laws, .int v_t_nightHours, .int v_t_nightTimes, .ref q_t_ground, .ref q_t_windows, .ref q_t_lawParts])), (q_t_ground, .inl (cI, 36, .inl z15_1)), (q_t_windows, .inl (cI, 6, .inl v_t_windows)), (q_t_lawParts, .inl (cI, 18, .inl v_t_lawParts))] := hD
  refine lv_aload_n hx hb dX2_lay_18 rfl (lv_at hl 0 rfl) ?_
  refine va_get (D := D) (ci := 2) (v := .ref q_t_windows) (C := RX2) (T := TX2) (N := 9) hx hb hts inX2 hown hK hP 0 rfl rfl 7 (by decide) (hts _ w_151) (fun _ h9 => h9) rfl dX2_lay_19 ?_
  refine lv_iconst (v := (-1)) hx hb dX2_lay_22 (by decide) ?_
  obtain ⟨z23_2, hz23_2, hf⟩ := bd_some hf
  refine cSv (rest := []) ⟨hx, hb, hml, hown, hts⟩ hE hK hP hD hS hA (c_J7_fill_53178 l D cI cJ cZ en q_t_windows 6 H.size v_t_windows (-1) hz23_2) (gs_J7_fill_53178 w_130) hd_J7_fill_53178 ⟨rfl, rfl⟩ ⟨by decide, by decide⟩ [2] rfl rfl rfl  hl rfl (Nat.le_of_ble_eq_true rfl) ⟨Nat.zero_le _, Nat.zero_le _⟩ dX2_lay_23 (fun H locs hP hD hS => ?_)
  have hP : va_P D vwCl [(q_t, .inr (2, [.int x1, .int x2, .int v_t_fade, .int v_t_laws, .int v_t_nightHours, .int v_t_nightTimes, .ref q_t_ground, .ref q_t_windows, .ref q_t_lawParts])), (q_t_ground, .inl (cI, 36, .inl z15_1)), (q_t_windows, .inl (cI, 6, .inl z23_2)), (q_t_lawParts, .inl (cI, 18, .inl v_t_lawParts))] H := hP
  have hD : va_D A [(q_t, .inr (2, [.int x1, .int x2, .int v_t_fade, .int v_t_laws, .int v_t_nightHours, .int v_t_nightTimes, .ref q_t_ground, .ref q_t_windows, .ref q_t_lawParts])), (q_t_ground, .inl (cI, 36, .inl z15_1)), (q_t_windows, .inl (cI, 6, .inl z23_2)), (q_t_lawParts, .inl (cI, 18, .inl v_t_lawParts))] := hD
  cases hf
  exact rt_v hx hb hr hlocks hK hP hS dX2_lay_26
