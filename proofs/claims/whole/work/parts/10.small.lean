def f_J7_fill_53178_L5 (n_a0 : Nat) (x1 : Int32) (x3 : Int32) : Nat → (Int32) → (Nat → Int32) → Option ((Nat → Int32))
  | 0, _, _ => none
  | n + 1, x2, v_a0 => (if x3 ≤ x2 then (some v_a0) else gd (ib x2 n_a0) ((f_J7_fill_53178_L5 n_a0 x1 x3 n (x2 + 1) (upd v_a0 (Int32.toNatClampNeg x2) x1))))
def f_J7_fill_53178 (n_a0 : Nat) (v_a0 : Nat → Int32) (x1 : Int32) : Option ((Nat → Int32)) :=
  (f_J7_fill_53178_L5 n_a0 x1 (Int32.ofNat n_a0) FU 0 v_a0)
theorem gs_J7_fill_53178 {own : String} {idx : Nat} (h : Cond.methodLink own idx yJ7_fill_53178 ∈ lw_g) : GoodIn lw_g (va_wsS own idx yJ7_fill_53178 (Cond.code yJ7_fill_53178 cJ7_fill_53178 4 none :: lw_g)) := gS h w_131 w_61 w_132
theorem hd_J7_fill_53178 : yJ7_fill_53178.cls ≠ "java/lang/invoke/MethodHandle" ∧ yJ7_fill_53178.cls ≠ "java/lang/invoke/VarHandle" ∧ (parseMethodDescriptor yJ7_fill_53178.desc).map (fun d => d.parameters.length) = some 2 := by decide +kernel
set_option maxHeartbeats 4000000 in
set_option maxRecDepth 100000 in
theorem c_J7_fill_53178 (l : Launch) (D : va_G) (cI cJ cZ : ClassId) (en : EnT) (q_a0 : Nat) (n_a0 : Nat) (sz : Nat) (v_a0 : Nat → Int32) (x1 : Int32) {z : (Nat → Int32)} (hf : f_J7_fill_53178 n_a0 v_a0 x1 = some z) : Met l yJ7_fill_53178 (Cond.code yJ7_fill_53178 cJ7_fill_53178 4 none :: lw_g) ({ frames := 0, cells := 0, slots := 0, locals := 0 } : Room) (PC D cI cJ cZ en ([.ref q_a0, .int x1] : List Value) [(q_a0, .inl (cI, n_a0, .inl v_a0))] sz) (QV D cI cJ cZ [(q_a0, .inl (cI, n_a0, .inl z))] (va_A [(q_a0, .inl (cI, n_a0, .inl v_a0))] sz)) 0 0 (va_A [(q_a0, .inl (cI, n_a0, .inl v_a0))] sz) := by
  refine mk_met (Qc := fun A => (QV D cI cJ cZ [(q_a0, .inl (cI, n_a0, .inl z))] A)) RJ7 (by decide) rfl (Nat.le_of_ble_eq_true rfl) ?_
  intro p e s m below meth c ls A hx hb hr hml hown hts hlocks hA hK hE hl hD H locs hP hS
  have hl : lv_has ls 4 [(0, .ref q_a0), (1, .int x1)] := hl
  unfold f_J7_fill_53178 at hf
  refine lv_iconst (v := 0) hx hb dJ7_fill_53178_0 (by decide) ?_
  refine lv_istore_n (lv' := [(2, .int 0), (0, .ref q_a0), (1, .int x1)]) hx hb dJ7_fill_53178_1 rfl hl (by decide) rfl (fun ls hl => ?_)
  refine lv_aload_n hx hb dJ7_fill_53178_2 rfl (lv_at hl 1 rfl) ?_
  refine va_alen (v := (Int32.ofNat n_a0)) hx hb hK hP 0 0 rfl rfl rfl dJ7_fill_53178_3 ?_
  refine lv_istore_n (lv' := [(3, .int (Int32.ofNat n_a0)), (2, .int 0), (0, .ref q_a0), (1, .int x1)]) hx hb dJ7_fill_53178_4 rfl hl (by decide) rfl (fun ls hl => ?_)
  have L5_3 : ∀ (n : Nat) (x2_1 : Int32) (v_a0_2 : Nat → Int32), f_J7_fill_53178_L5 n_a0 x1 (Int32.ofNat n_a0) n x2_1 v_a0_2 = some z → ∀ (H : Heap) (locs : List Loc) (ls : Array Slot), va_P D vwCl [(q_a0, .inl (cI, n_a0, .inl v_a0_2))] H → va_D A [(q_a0, .inl (cI, n_a0, .inl v_a0_2))] → va_S A s.heap H locs → lv_has ls 4 [(0, .ref q_a0), (1, .int x1), (2, .int x2_1), (3, .int (Int32.ofNat n_a0))] → W p l e ({ frames := 0, cells := 0, slots := 0, locals := 0 } : Room) s m ([.ref q_a0, .int x1] : List Value).toArray below meth c H locs 0 0 (MQ below (QV D cI cJ cZ [(q_a0, .inl (cI, n_a0, .inl z))] A) ([.ref q_a0, .int x1] : List Value).toArray s 0 0 A) (F0 m 5 ls []) := by
    intro n
    induction n with
    | zero =>
      intro x2_1 v_a0_2 hf
      cases hf
    | succ n ih_4 =>
      intro x2_1 v_a0_2 hf H locs ls hP hD hS hl
      rw [f_J7_fill_53178_L5] at hf
      refine lv_iload_n hx hb dJ7_fill_53178_5 rfl (lv_at hl 2 rfl) ?_
      refine lv_iload_n hx hb dJ7_fill_53178_6 rfl (lv_at hl 3 rfl) ?_
      refine lv_icmp_ge (tgt := 20) hx hb dJ7_fill_53178_7 (by decide) (fun h_5 => ?_) (fun h_5 => ?_)
      · have hf := (if_pos h_5).symm.trans hf
        cases hf
        exact rt_v hx hb hr hlocks hK hP hS dJ7_fill_53178_20
      · have hf := (if_neg h_5).symm.trans hf
        refine lv_aload_n hx hb dJ7_fill_53178_10 rfl (lv_at hl 0 rfl) ?_
        refine lv_iload_n hx hb dJ7_fill_53178_11 rfl (lv_at hl 2 rfl) ?_
        refine lv_iload_n hx hb dJ7_fill_53178_12 rfl (lv_at hl 1 rfl) ?_
        obtain ⟨hin, hf⟩ := gd_some hf
        refine va_iast hx hb hK hP hD hS 0 0 rfl rfl hin dJ7_fill_53178_13 (fun H locs hP hD hS => ?_)
        have hP : va_P D vwCl [(q_a0, .inl (cI, n_a0, .inl (upd v_a0_2 (Int32.toNatClampNeg x2_1) x1)))] H := hP
        have hD : va_D A [(q_a0, .inl (cI, n_a0, .inl (upd v_a0_2 (Int32.toNatClampNeg x2_1) x1)))] := hD
        refine lv_iinc (v := (x2_1 + 1)) (lv' := [(2, .int (x2_1 + 1)), (0, .ref q_a0), (1, .int x1), (3, .int (Int32.ofNat n_a0))]) hx hb dJ7_fill_53178_14 hl (k := 2) rfl rfl (by decide) rfl (fun ls hl => ?_)
        refine lv_goto (tgt := 5) hx hb dJ7_fill_53178_17 (by decide) ?_
        exact ih_4 (x2_1 + 1) (upd v_a0_2 (Int32.toNatClampNeg x2_1) x1) hf _ _ _ hP hD hS (lv_sub hl [1, 2, 0, 3] rfl)
  exact L5_3 FU 0 v_a0 hf _ _ _ hP hD hS (lv_sub hl [2, 3, 1, 0] rfl)

def f_X8_lastTickOf (v_t_lasting : Nat → Int32) (x1 : Int32) : Option (Int32) :=
  (if x1 < 0 then (some 0) else (if x1 < 8 then gd (ib x1 8) ((some (v_t_lasting (Int32.toNatClampNeg x1)))) else (some 0)))
theorem gv_X8_lastTickOf {own : String} {idx : Nat} (h : Cond.methodLink own idx yX8_lastTickOf ∈ lw_g) : GoodIn lw_g (wsV own idx RX8 yX8_lastTickOf (Cond.code yX8_lastTickOf cX8_lastTickOf 2 (some .int) :: lw_g)) := gV h w_633 w_634 w_64 w_635
theorem hd_X8_lastTickOf : yX8_lastTickOf.cls = RX8 ∧ yX8_lastTickOf.cls ≠ "java/lang/invoke/MethodHandle" ∧ yX8_lastTickOf.cls ≠ "java/lang/invoke/VarHandle" ∧ (parseMethodDescriptor yX8_lastTickOf.desc).map (fun d => d.parameters.length) = some 1 := by decide +kernel
set_option maxHeartbeats 4000000 in
set_option maxRecDepth 100000 in
theorem c_X8_lastTickOf (l : Launch) (D : va_G) (cI cJ cZ : ClassId) (en : EnT) (q_t q_t_marks q_t_lasting : Nat) (sz : Nat) (v_t_marks : Nat → Int32) (v_t_lasting : Nat → Int32) (x1 : Int32) {z : Int32} (hf : f_X8_lastTickOf v_t_lasting x1 = some z) : Met l yX8_lastTickOf (Cond.code yX8_lastTickOf cX8_lastTickOf 2 (some .int) :: lw_g) ({ frames := 0, cells := 0, slots := 0, locals := 0 } : Room) (PC D cI cJ cZ en ([.ref q_t, .int x1] : List Value) [(q_t, .inr (8, [.ref q_t_marks, .ref q_t_lasting])), (q_t_marks, .inl (cI, 480, .inl v_t_marks)), (q_t_lasting, .inl (cI, 8, .inl v_t_lasting))] sz) (QI D cI cJ cZ [(q_t, .inr (8, [.ref q_t_marks, .ref q_t_lasting])), (q_t_marks, .inl (cI, 480, .inl v_t_marks)), (q_t_lasting, .inl (cI, 8, .inl v_t_lasting))] z (va_A [(q_t, .inr (8, [.ref q_t_marks, .ref q_t_lasting])), (q_t_marks, .inl (cI, 480, .inl v_t_marks)), (q_t_lasting, .inl (cI, 8, .inl v_t_lasting))] sz)) 0 0 (va_A [(q_t, .inr (8, [.ref q_t_marks, .ref q_t_lasting])), (q_t_marks, .inl (cI, 480, .inl v_t_marks)), (q_t_lasting, .inl (cI, 8, .inl v_t_lasting))] sz) := by
  refine mk_met (Qc := fun A => (QI D cI cJ cZ [(q_t, .inr (8, [.ref q_t_marks, .ref q_t_lasting])), (q_t_marks, .inl (cI, 480, .inl v_t_marks)), (q_t_lasting, .inl (cI, 8, .inl v_t_lasting))] z A)) RX8 (by decide) rfl (Nat.le_of_ble_eq_true rfl) ?_
  intro p e s m below meth c ls A hx hb hr hml hown hts hlocks hA hK hE hl hD H locs hP hS
  have hl : lv_has ls 2 [(0, .ref q_t), (1, .int x1)] := hl
  unfold f_X8_lastTickOf at hf
  refine lv_iload_n hx hb dX8_lastTickOf_0 rfl (lv_at hl 1 rfl) ?_
  refine lv_if_lt (tgt := 10) hx hb dX8_lastTickOf_1 (by decide) (fun h_1 => ?_) (fun h_1 => ?_)
  · have hf := (if_pos h_1).symm.trans hf
    refine lv_iconst (v := 0) hx hb dX8_lastTickOf_10 (by decide) ?_
    refine lv_goto (tgt := 20) hx hb dX8_lastTickOf_11 (by decide) ?_
    cases hf
    exact rt_i hx hb hr hlocks hK hP hS dX8_lastTickOf_20
  · have hf := (if_neg h_1).symm.trans hf
    refine lv_iload_n hx hb dX8_lastTickOf_4 rfl (lv_at hl 1 rfl) ?_
    refine lv_bipush (v := 8) hx hb dX8_lastTickOf_5 (by decide) ?_
    refine lv_icmp_lt (tgt := 14) hx hb dX8_lastTickOf_7 (by decide) (fun h_2 => ?_) (fun h_2 => ?_)
    · have hf := (if_pos h_2).symm.trans hf
      refine lv_aload_n hx hb dX8_lastTickOf_14 rfl (lv_at hl 0 rfl) ?_
      refine va_get (D := D) (ci := 8) (v := .ref q_t_lasting) (C := RX8) (T := TX8) (N := 2) hx hb hts inX8 hown hK hP 0 rfl rfl 1 (by decide) (hts _ w_240) (fun _ h9 => h9) rfl dX8_lastTickOf_15 ?_
      refine lv_iload_n hx hb dX8_lastTickOf_18 rfl (lv_at hl 1 rfl) ?_
      obtain ⟨hin, hf⟩ := gd_some hf
      refine va_iald hx hb hK hP 2 0 rfl rfl hin dX8_lastTickOf_19 ?_
      cases hf
      exact rt_i hx hb hr hlocks hK hP hS dX8_lastTickOf_20
    · have hf := (if_neg h_2).symm.trans hf
      refine lv_iconst (v := 0) hx hb dX8_lastTickOf_10 (by decide) ?_
      refine lv_goto (tgt := 20) hx hb dX8_lastTickOf_11 (by decide) ?_
      cases hf
      exact rt_i hx hb hr hlocks hK hP hS dX8_lastTickOf_20

def f_X8_soundOf (v_t_marks : Nat → Int32) (v_t_lasting : Nat → Int32) (x1 : Int32) (x2 : Int32) : Option (Int32) :=
  (if x1 < 0 then (some 0) else (if 8 ≤ x1 then (some 0) else (if x2 < 1 then (some 0) else gd (ib x1 8) ((if x2 ≤ (v_t_lasting (Int32.toNatClampNeg x1)) then gd (ib (((x1 * 60) + x2) - 1) 480) ((some (v_t_marks (Int32.toNatClampNeg (((x1 * 60) + x2) - 1))))) else (some 0))))))
theorem gv_X8_soundOf {own : String} {idx : Nat} (h : Cond.methodLink own idx yX8_soundOf ∈ lw_g) : GoodIn lw_g (wsV own idx RX8 yX8_soundOf (Cond.code yX8_soundOf cX8_soundOf 3 (some .int) :: lw_g)) := gV h w_637 w_638 w_64 w_639
theorem hd_X8_soundOf : yX8_soundOf.cls = RX8 ∧ yX8_soundOf.cls ≠ "java/lang/invoke/MethodHandle" ∧ yX8_soundOf.cls ≠ "java/lang/invoke/VarHandle" ∧ (parseMethodDescriptor yX8_soundOf.desc).map (fun d => d.parameters.length) = some 2 := by decide +kernel
set_option maxHeartbeats 4000000 in
set_option maxRecDepth 100000 in
theorem c_X8_soundOf (l : Launch) (D : va_G) (cI cJ cZ : ClassId) (en : EnT) (q_t q_t_marks q_t_lasting : Nat) (sz : Nat) (v_t_marks : Nat → Int32) (v_t_lasting : Nat → Int32) (x1 : Int32) (x2 : Int32) {z : Int32} (hf : f_X8_soundOf v_t_marks v_t_lasting x1 x2 = some z) : Met l yX8_soundOf (Cond.code yX8_soundOf cX8_soundOf 3 (some .int) :: lw_g) ({ frames := 0, cells := 0, slots := 0, locals := 0 } : Room) (PC D cI cJ cZ en ([.ref q_t, .int x1, .int x2] : List Value) [(q_t, .inr (8, [.ref q_t_marks, .ref q_t_lasting])), (q_t_marks, .inl (cI, 480, .inl v_t_marks)), (q_t_lasting, .inl (cI, 8, .inl v_t_lasting))] sz) (QI D cI cJ cZ [(q_t, .inr (8, [.ref q_t_marks, .ref q_t_lasting])), (q_t_marks, .inl (cI, 480, .inl v_t_marks)), (q_t_lasting, .inl (cI, 8, .inl v_t_lasting))] z (va_A [(q_t, .inr (8, [.ref q_t_marks, .ref q_t_lasting])), (q_t_marks, .inl (cI, 480, .inl v_t_marks)), (q_t_lasting, .inl (cI, 8, .inl v_t_lasting))] sz)) 0 0 (va_A [(q_t, .inr (8, [.ref q_t_marks, .ref q_t_lasting])), (q_t_marks, .inl (cI, 480, .inl v_t_marks)), (q_t_lasting, .inl (cI, 8, .inl v_t_lasting))] sz) := by
  refine mk_met (Qc := fun A => (QI D cI cJ cZ [(q_t, .inr (8, [.ref q_t_marks, .ref q_t_lasting])), (q_t_marks, .inl (cI, 480, .inl v_t_marks)), (q_t_lasting, .inl (cI, 8, .inl v_t_lasting))] z A)) RX8 (by decide) rfl (Nat.le_of_ble_eq_true rfl) ?_
  intro p e s m below meth c ls A hx hb hr hml hown hts hlocks hA hK hE hl hD H locs hP hS
  have hl : lv_has ls 3 [(0, .ref q_t), (1, .int x1), (2, .int x2)] := hl
  unfold f_X8_soundOf at hf
  refine lv_iload_n hx hb dX8_soundOf_0 rfl (lv_at hl 1 rfl) ?_
  refine lv_if_lt (tgt := 25) hx hb dX8_soundOf_1 (by decide) (fun h_1 => ?_) (fun h_1 => ?_)
  · have hf := (if_pos h_1).symm.trans hf
    refine lv_iconst (v := 0) hx hb dX8_soundOf_25 (by decide) ?_
    cases hf
    exact rt_i hx hb hr hlocks hK hP hS dX8_soundOf_26
  · have hf := (if_neg h_1).symm.trans hf
    refine lv_iload_n hx hb dX8_soundOf_4 rfl (lv_at hl 1 rfl) ?_
    refine lv_bipush (v := 8) hx hb dX8_soundOf_5 (by decide) ?_
    refine lv_icmp_ge (tgt := 25) hx hb dX8_soundOf_7 (by decide) (fun h_2 => ?_) (fun h_2 => ?_)
    · have hf := (if_pos h_2).symm.trans hf
      refine lv_iconst (v := 0) hx hb dX8_soundOf_25 (by decide) ?_
      cases hf
      exact rt_i hx hb hr hlocks hK hP hS dX8_soundOf_26
    · have hf := (if_neg h_2).symm.trans hf
      refine lv_iload_n hx hb dX8_soundOf_10 rfl (lv_at hl 2 rfl) ?_
      refine lv_iconst (v := 1) hx hb dX8_soundOf_11 (by decide) ?_
      refine lv_icmp_lt (tgt := 25) hx hb dX8_soundOf_12 (by decide) (fun h_3 => ?_) (fun h_3 => ?_)
      · have hf := (if_pos h_3).symm.trans hf
        refine lv_iconst (v := 0) hx hb dX8_soundOf_25 (by decide) ?_
        cases hf
        exact rt_i hx hb hr hlocks hK hP hS dX8_soundOf_26
      · have hf := (if_neg h_3).symm.trans hf
        refine lv_iload_n hx hb dX8_soundOf_15 rfl (lv_at hl 2 rfl) ?_
        refine lv_aload_n hx hb dX8_soundOf_16 rfl (lv_at hl 0 rfl) ?_
        refine va_get (D := D) (ci := 8) (v := .ref q_t_lasting) (C := RX8) (T := TX8) (N := 2) hx hb hts inX8 hown hK hP 0 rfl rfl 1 (by decide) (hts _ w_240) (fun _ h9 => h9) rfl dX8_soundOf_17 ?_
        refine lv_iload_n hx hb dX8_soundOf_20 rfl (lv_at hl 1 rfl) ?_
        obtain ⟨hin, hf⟩ := gd_some hf
        refine va_iald hx hb hK hP 2 0 rfl rfl hin dX8_soundOf_21 ?_
        refine lv_icmp_le (tgt := 27) hx hb dX8_soundOf_22 (by decide) (fun h_4 => ?_) (fun h_4 => ?_)
        · have hf := (if_pos h_4).symm.trans hf
          refine lv_aload_n hx hb dX8_soundOf_27 rfl (lv_at hl 0 rfl) ?_
          refine va_get (D := D) (ci := 8) (v := .ref q_t_marks) (C := RX8) (T := TX8) (N := 2) hx hb hts inX8 hown hK hP 0 rfl rfl 0 (by decide) (hts _ w_239) (fun _ h9 => h9) rfl dX8_soundOf_28 ?_
          refine lv_iload_n hx hb dX8_soundOf_31 rfl (lv_at hl 1 rfl) ?_
          refine lv_bipush (v := 60) hx hb dX8_soundOf_32 (by decide) ?_
          refine lv_imul hx hb dX8_soundOf_34 ?_
          refine lv_iload_n hx hb dX8_soundOf_35 rfl (lv_at hl 2 rfl) ?_
          refine lv_iadd hx hb dX8_soundOf_36 ?_
          refine lv_iconst (v := 1) hx hb dX8_soundOf_37 (by decide) ?_
          refine lv_isub hx hb dX8_soundOf_38 ?_
          obtain ⟨hin, hf⟩ := gd_some hf
          refine va_iald hx hb hK hP 1 0 rfl rfl hin dX8_soundOf_39 ?_
          cases hf
          exact rt_i hx hb hr hlocks hK hP hS dX8_soundOf_40
        · have hf := (if_neg h_4).symm.trans hf
          refine lv_iconst (v := 0) hx hb dX8_soundOf_25 (by decide) ?_
          cases hf
          exact rt_i hx hb hr hlocks hK hP hS dX8_soundOf_26

def f_X8_cellOf (x0 : Int32) : Option (Int32) :=
  (some ((x0 &&& 63) - 1))
theorem gs_X8_cellOf {own : String} {idx : Nat} (h : Cond.methodLink own idx yX8_cellOf ∈ lw_g) : GoodIn lw_g (va_wsS own idx yX8_cellOf (Cond.code yX8_cellOf cX8_cellOf 1 (some .int) :: lw_g)) := gS h w_641 w_64 w_642
theorem hd_X8_cellOf : yX8_cellOf.cls ≠ "java/lang/invoke/MethodHandle" ∧ yX8_cellOf.cls ≠ "java/lang/invoke/VarHandle" ∧ (parseMethodDescriptor yX8_cellOf.desc).map (fun d => d.parameters.length) = some 1 := by decide +kernel
set_option maxHeartbeats 4000000 in
set_option maxRecDepth 100000 in
theorem c_X8_cellOf (l : Launch) (D : va_G) (cI cJ cZ : ClassId) (en : EnT) (sz : Nat) (x0 : Int32) {z : Int32} (hf : f_X8_cellOf x0 = some z) : Met l yX8_cellOf (Cond.code yX8_cellOf cX8_cellOf 1 (some .int) :: lw_g) ({ frames := 0, cells := 0, slots := 0, locals := 0 } : Room) (PC D cI cJ cZ en ([.int x0] : List Value) [] sz) (QI D cI cJ cZ [] z (va_A [] sz)) 0 0 (va_A [] sz) := by
  refine mk_met (Qc := fun A => (QI D cI cJ cZ [] z A)) RX8 (by decide) rfl (Nat.le_of_ble_eq_true rfl) ?_
  intro p e s m below meth c ls A hx hb hr hml hown hts hlocks hA hK hE hl hD H locs hP hS
  have hl : lv_has ls 1 [(0, .int x0)] := hl
  unfold f_X8_cellOf at hf
  refine lv_iload_n hx hb dX8_cellOf_0 rfl (lv_at hl 0 rfl) ?_
  refine lv_bipush (v := 63) hx hb dX8_cellOf_1 (by decide) ?_
  refine lv_iand hx hb dX8_cellOf_3 ?_
  refine lv_iconst (v := 1) hx hb dX8_cellOf_4 (by decide) ?_
  refine lv_isub hx hb dX8_cellOf_5 ?_
  cases hf
  exact rt_i hx hb hr hlocks hK hP hS dX8_cellOf_6

def f_X8_thrownOf (x0 : Int32) : Option (Int32) :=
  (some (x0 >>> (13 &&& 31)))
theorem gs_X8_thrownOf {own : String} {idx : Nat} (h : Cond.methodLink own idx yX8_thrownOf ∈ lw_g) : GoodIn lw_g (va_wsS own idx yX8_thrownOf (Cond.code yX8_thrownOf cX8_thrownOf 1 (some .int) :: lw_g)) := gS h w_644 w_64 w_645
theorem hd_X8_thrownOf : yX8_thrownOf.cls ≠ "java/lang/invoke/MethodHandle" ∧ yX8_thrownOf.cls ≠ "java/lang/invoke/VarHandle" ∧ (parseMethodDescriptor yX8_thrownOf.desc).map (fun d => d.parameters.length) = some 1 := by decide +kernel
set_option maxHeartbeats 4000000 in
set_option maxRecDepth 100000 in
theorem c_X8_thrownOf (l : Launch) (D : va_G) (cI cJ cZ : ClassId) (en : EnT) (sz : Nat) (x0 : Int32) {z : Int32} (hf : f_X8_thrownOf x0 = some z) : Met l yX8_thrownOf (Cond.code yX8_thrownOf cX8_thrownOf 1 (some .int) :: lw_g) ({ frames := 0, cells := 0, slots := 0, locals := 0 } : Room) (PC D cI cJ cZ en ([.int x0] : List Value) [] sz) (QI D cI cJ cZ [] z (va_A [] sz)) 0 0 (va_A [] sz) := by
  refine mk_met (Qc := fun A => (QI D cI cJ cZ [] z A)) RX8 (by decide) rfl (Nat.le_of_ble_eq_true rfl) ?_
  intro p e s m below meth c ls A hx hb hr hml hown hts hlocks hA hK hE hl hD H locs hP hS
  have hl : lv_has ls 1 [(0, .int x0)] := hl
  unfold f_X8_thrownOf at hf
  refine lv_iload_n hx hb dX8_thrownOf_0 rfl (lv_at hl 0 rfl) ?_
  refine lv_bipush (v := 13) hx hb dX8_thrownOf_1 (by decide) ?_
  refine lv_ishr hx hb dX8_thrownOf_3 ?_
  cases hf
  exact rt_i hx hb hr hlocks hK hP hS dX8_thrownOf_4

def f_X8_loudOf (x0 : Int32) : Option (Int32) :=
  (some ((x0 >>> (6 &&& 31)) &&& 127))
theorem gs_X8_loudOf {own : String} {idx : Nat} (h : Cond.methodLink own idx yX8_loudOf ∈ lw_g) : GoodIn lw_g (va_wsS own idx yX8_loudOf (Cond.code yX8_loudOf cX8_loudOf 1 (some .int) :: lw_g)) := gS h w_647 w_64 w_648
theorem hd_X8_loudOf : yX8_loudOf.cls ≠ "java/lang/invoke/MethodHandle" ∧ yX8_loudOf.cls ≠ "java/lang/invoke/VarHandle" ∧ (parseMethodDescriptor yX8_loudOf.desc).map (fun d => d.parameters.length) = some 1 := by decide +kernel
set_option maxHeartbeats 4000000 in
set_option maxRecDepth 100000 in
theorem c_X8_loudOf (l : Launch) (D : va_G) (cI cJ cZ : ClassId) (en : EnT) (sz : Nat) (x0 : Int32) {z : Int32} (hf : f_X8_loudOf x0 = some z) : Met l yX8_loudOf (Cond.code yX8_loudOf cX8_loudOf 1 (some .int) :: lw_g) ({ frames := 0, cells := 0, slots := 0, locals := 0 } : Room) (PC D cI cJ cZ en ([.int x0] : List Value) [] sz) (QI D cI cJ cZ [] z (va_A [] sz)) 0 0 (va_A [] sz) := by
  refine mk_met (Qc := fun A => (QI D cI cJ cZ [] z A)) RX8 (by decide) rfl (Nat.le_of_ble_eq_true rfl) ?_
  intro p e s m below meth c ls A hx hb hr hml hown hts hlocks hA hK hE hl hD H locs hP hS
  have hl : lv_has ls 1 [(0, .int x0)] := hl
  unfold f_X8_loudOf at hf
  refine lv_iload_n hx hb dX8_loudOf_0 rfl (lv_at hl 0 rfl) ?_
  refine lv_bipush (v := 6) hx hb dX8_loudOf_1 (by decide) ?_
  refine lv_ishr hx hb dX8_loudOf_3 ?_
  refine lv_bipush (v := 127) hx hb dX8_loudOf_4 (by decide) ?_
  refine lv_iand hx hb dX8_loudOf_6 ?_
  cases hf
  exact rt_i hx hb hr hlocks hK hP hS dX8_loudOf_7

def f_X2_lawPart (v_t_laws : Int32) (v_t_lawParts : Nat → Int32) (x1 : Int32) (x2 : Int32) : Option (Int32) :=
  (if x1 < 0 then (some (-1)) else (if v_t_laws ≤ x1 then (some (-1)) else (if 6 ≤ x1 then (some (-1)) else (if x2 < 0 then (some (-1)) else (if x2 < 3 then gd (ib ((x1 * 3) + x2) 18) ((some (v_t_lawParts (Int32.toNatClampNeg ((x1 * 3) + x2))))) else (some (-1)))))))
theorem gv_X2_lawPart {own : String} {idx : Nat} (h : Cond.methodLink own idx yX2_lawPart ∈ lw_g) : GoodIn lw_g (wsV own idx RX2 yX2_lawPart (Cond.code yX2_lawPart cX2_lawPart 3 (some .int) :: lw_g)) := gV h w_564 w_565 w_60 w_566
theorem hd_X2_lawPart : yX2_lawPart.cls = RX2 ∧ yX2_lawPart.cls ≠ "java/lang/invoke/MethodHandle" ∧ yX2_lawPart.cls ≠ "java/lang/invoke/VarHandle" ∧ (parseMethodDescriptor yX2_lawPart.desc).map (fun d => d.parameters.length) = some 2 := by decide +kernel
set_option maxHeartbeats 4000000 in
set_option maxRecDepth 100000 in
theorem c_X2_lawPart (l : Launch) (D : va_G) (cI cJ cZ : ClassId) (en : EnT) (q_t q_t_ground q_t_windows q_t_lawParts : Nat) (sz : Nat) (v_t_columns : Int32) (v_t_rows : Int32) (v_t_fade : Int32) (v_t_laws : Int32) (v_t_nightHours : Int32) (v_t_nightTimes : Int32) (v_t_ground : Nat → Int32) (v_t_windows : Nat → Int32) (v_t_lawParts : Nat → Int32) (x1 : Int32) (x2 : Int32) {z : Int32} (hf : f_X2_lawPart v_t_laws v_t_lawParts x1 x2 = some z) : Met l yX2_lawPart (Cond.code yX2_lawPart cX2_lawPart 3 (some .int) :: lw_g) ({ frames := 0, cells := 0, slots := 0, locals := 0 } : Room) (PC D cI cJ cZ en ([.ref q_t, .int x1, .int x2] : List Value) [(q_t, .inr (2, [.int v_t_columns, .int v_t_rows, .int v_t_fade, .int v_t_laws, .int v_t_nightHours, .int v_t_nightTimes, .ref q_t_ground, .ref q_t_windows, .ref q_t_lawParts])), (q_t_ground, .inl (cI, 36, .inl v_t_ground)), (q_t_windows, .inl (cI, 6, .inl v_t_windows)), (q_t_lawParts, .inl (cI, 18, .inl v_t_lawParts))] sz) (QI D cI cJ cZ [(q_t, .inr (2, [.int v_t_columns, .int v_t_rows, .int v_t_fade, .int v_t_laws, .int v_t_nightHours, .int v_t_nightTimes, .ref q_t_ground, .ref q_t_windows, .ref q_t_lawParts])), (q_t_ground, .inl (cI, 36, .inl v_t_ground)), (q_t_windows, .inl (cI, 6, .inl v_t_windows)), (q_t_lawParts, .inl (cI, 18, .inl v_t_lawParts))] z (va_A [(q_t, .inr (2, [.int v_t_columns, .int v_t_rows, .int v_t_fade, .int v_t_laws, .int v_t_nightHours, .int v_t_nightTimes, .ref q_t_ground, .ref q_t_windows, .ref q_t_lawParts])), (q_t_ground, .inl (cI, 36, .inl v_t_ground)), (q_t_windows, .inl (cI, 6, .inl v_t_windows)), (q_t_lawParts, .inl (cI, 18, .inl v_t_lawParts))] sz)) 0 0 (va_A [(q_t, .inr (2, [.int v_t_columns, .int v_t_rows, .int v_t_fade, .int v_t_laws, .int v_t_nightHours, .int v_t_nightTimes, .ref q_t_ground, .ref q_t_windows, .ref q_t_lawParts])), (q_t_ground, .inl (cI, 36, .inl v_t_ground)), (q_t_windows, .inl (cI, 6, .inl v_t_windows)), (q_t_lawParts, .inl (cI, 18, .inl v_t_lawParts))] sz) := by
  refine mk_met (Qc := fun A => (QI D cI cJ cZ [(q_t, .inr (2, [.int v_t_columns, .int v_t_rows, .int v_t_fade, .int v_t_laws, .int v_t_nightHours, .int v_t_nightTimes, .ref q_t_ground, .ref q_t_windows, .ref q_t_lawParts])), (q_t_ground, .inl (cI, 36, .inl v_t_ground)), (q_t_windows, .inl (cI, 6, .inl v_t_windows)), (q_t_lawParts, .inl (cI, 18, .inl v_t_lawParts))] z A)) RX2 (by decide) rfl (Nat.le_of_ble_eq_true rfl) ?_
  intro p e s m below meth c ls A hx hb hr hml hown hts hlocks hA hK hE hl hD H locs hP hS
  have hl : lv_has ls 3 [(0, .ref q_t), (1, .int x1), (2, .int x2)] := hl
  unfold f_X2_lawPart at hf
  refine lv_iload_n hx hb dX2_lawPart_0 rfl (lv_at hl 1 rfl) ?_
  refine lv_if_lt (tgt := 27) hx hb dX2_lawPart_1 (by decide) (fun h_1 => ?_) (fun h_1 => ?_)
  · have hf := (if_pos h_1).symm.trans hf
    refine lv_iconst (v := (-1)) hx hb dX2_lawPart_27 (by decide) ?_
    cases hf
    exact rt_i hx hb hr hlocks hK hP hS dX2_lawPart_28
  · have hf := (if_neg h_1).symm.trans hf
    refine lv_iload_n hx hb dX2_lawPart_4 rfl (lv_at hl 1 rfl) ?_
    refine lv_aload_n hx hb dX2_lawPart_5 rfl (lv_at hl 0 rfl) ?_
    refine va_get (D := D) (ci := 2) (v := .int v_t_laws) (C := RX2) (T := TX2) (N := 9) hx hb hts inX2 hown hK hP 0 rfl rfl 3 (by decide) (hts _ w_143) (fun _ h9 => h9) rfl dX2_lawPart_6 ?_
    refine lv_icmp_ge (tgt := 27) hx hb dX2_lawPart_9 (by decide) (fun h_2 => ?_) (fun h_2 => ?_)
    · have hf := (if_pos h_2).symm.trans hf
      refine lv_iconst (v := (-1)) hx hb dX2_lawPart_27 (by decide) ?_
      cases hf
      exact rt_i hx hb hr hlocks hK hP hS dX2_lawPart_28
    · have hf := (if_neg h_2).symm.trans hf
      refine lv_iload_n hx hb dX2_lawPart_12 rfl (lv_at hl 1 rfl) ?_
      refine lv_bipush (v := 6) hx hb dX2_lawPart_13 (by decide) ?_
      refine lv_icmp_ge (tgt := 27) hx hb dX2_lawPart_15 (by decide) (fun h_3 => ?_) (fun h_3 => ?_)
      · have hf := (if_pos h_3).symm.trans hf
        refine lv_iconst (v := (-1)) hx hb dX2_lawPart_27 (by decide) ?_
        cases hf
        exact rt_i hx hb hr hlocks hK hP hS dX2_lawPart_28
      · have hf := (if_neg h_3).symm.trans hf
        refine lv_iload_n hx hb dX2_lawPart_18 rfl (lv_at hl 2 rfl) ?_
        refine lv_if_lt (tgt := 27) hx hb dX2_lawPart_19 (by decide) (fun h_4 => ?_) (fun h_4 => ?_)
        · have hf := (if_pos h_4).symm.trans hf
          refine lv_iconst (v := (-1)) hx hb dX2_lawPart_27 (by decide) ?_
          cases hf
          exact rt_i hx hb hr hlocks hK hP hS dX2_lawPart_28
        · have hf := (if_neg h_4).symm.trans hf
          refine lv_iload_n hx hb dX2_lawPart_22 rfl (lv_at hl 2 rfl) ?_
          refine lv_iconst (v := 3) hx hb dX2_lawPart_23 (by decide) ?_
          refine lv_icmp_lt (tgt := 29) hx hb dX2_lawPart_24 (by decide) (fun h_5 => ?_) (fun h_5 => ?_)
          · have hf := (if_pos h_5).symm.trans hf
            refine lv_aload_n hx hb dX2_lawPart_29 rfl (lv_at hl 0 rfl) ?_
            refine va_get (D := D) (ci := 2) (v := .ref q_t_lawParts) (C := RX2) (T := TX2) (N := 9) hx hb hts inX2 hown hK hP 0 rfl rfl 8 (by decide) (hts _ w_152) (fun _ h9 => h9) rfl dX2_lawPart_30 ?_
            refine lv_iload_n hx hb dX2_lawPart_33 rfl (lv_at hl 1 rfl) ?_
            refine lv_iconst (v := 3) hx hb dX2_lawPart_34 (by decide) ?_
            refine lv_imul hx hb dX2_lawPart_35 ?_
            refine lv_iload_n hx hb dX2_lawPart_36 rfl (lv_at hl 2 rfl) ?_
            refine lv_iadd hx hb dX2_lawPart_37 ?_
            obtain ⟨hin, hf⟩ := gd_some hf
            refine va_iald hx hb hK hP 3 0 rfl rfl hin dX2_lawPart_38 ?_
            cases hf
            exact rt_i hx hb hr hlocks hK hP hS dX2_lawPart_39
          · have hf := (if_neg h_5).symm.trans hf
            refine lv_iconst (v := (-1)) hx hb dX2_lawPart_27 (by decide) ?_
            cases hf
            exact rt_i hx hb hr hlocks hK hP hS dX2_lawPart_28

def f_X2_coinsFor_J37 (rc2 : (Int32) → Option (Int32)) (x3 : Int32) : Option (Int32) :=
  (rc2 (x3 + 1))
def f_X2_coinsFor_J30 (v_t_laws : Int32) (v_t_lawParts : Nat → Int32) (x3 : Int32) : Option (Int32) :=
  (f_X2_lawPart v_t_laws v_t_lawParts x3 2).bind (fun z33 => (some z33))
def f_X2_coinsFor_L2 (v_t_laws : Int32) (v_t_lawParts : Nat → Int32) (x1 : Int32) (x2 : Int32) : Nat → (Int32) → Option (Int32)
  | 0, _ => none
  | n + 1, x3 => (if v_t_laws ≤ x3 then (some 0) else (f_X2_lawPart v_t_laws v_t_lawParts x3 0).bind (fun z14 => (if x1 < z14 then (f_X2_coinsFor_J37 (f_X2_coinsFor_L2 v_t_laws v_t_lawParts x1 x2 n) x3) else (f_X2_lawPart v_t_laws v_t_lawParts x3 1).bind (fun z24 => (if x2 < z24 then (f_X2_coinsFor_J37 (f_X2_coinsFor_L2 v_t_laws v_t_lawParts x1 x2 n) x3) else (f_X2_coinsFor_J30 v_t_laws v_t_lawParts x3))))))
def f_X2_coinsFor (v_t_laws : Int32) (v_t_lawParts : Nat → Int32) (x1 : Int32) (x2 : Int32) : Option (Int32) :=
  (f_X2_coinsFor_L2 v_t_laws v_t_lawParts x1 x2 FU 0)
theorem gv_X2_coinsFor {own : String} {idx : Nat} (h : Cond.methodLink own idx yX2_coinsFor ∈ lw_g) : GoodIn lw_g (wsV own idx RX2 yX2_coinsFor (Cond.code yX2_coinsFor cX2_coinsFor 4 (some .int) :: lw_g)) := gV h w_650 w_651 w_60 w_652
theorem hd_X2_coinsFor : yX2_coinsFor.cls = RX2 ∧ yX2_coinsFor.cls ≠ "java/lang/invoke/MethodHandle" ∧ yX2_coinsFor.cls ≠ "java/lang/invoke/VarHandle" ∧ (parseMethodDescriptor yX2_coinsFor.desc).map (fun d => d.parameters.length) = some 2 := by decide +kernel
set_option maxHeartbeats 4000000 in
set_option maxRecDepth 100000 in
theorem c_X2_coinsFor (l : Launch) (D : va_G) (cI cJ cZ : ClassId) (en : EnT) (q_t q_t_ground q_t_windows q_t_lawParts : Nat) (sz : Nat) (v_t_columns : Int32) (v_t_rows : Int32) (v_t_fade : Int32) (v_t_laws : Int32) (v_t_nightHours : Int32) (v_t_nightTimes : Int32) (v_t_ground : Nat → Int32) (v_t_windows : Nat → Int32) (v_t_lawParts : Nat → Int32) (x1 : Int32) (x2 : Int32) {z : Int32} (hf : f_X2_coinsFor v_t_laws v_t_lawParts x1 x2 = some z) : Met l yX2_coinsFor (Cond.code yX2_coinsFor cX2_coinsFor 4 (some .int) :: lw_g) ({ frames := 1, cells := 0, slots := 0, locals := 22 } : Room) (PC D cI cJ cZ en ([.ref q_t, .int x1, .int x2] : List Value) [(q_t, .inr (2, [.int v_t_columns, .int v_t_rows, .int v_t_fade, .int v_t_laws, .int v_t_nightHours, .int v_t_nightTimes, .ref q_t_ground, .ref q_t_windows, .ref q_t_lawParts])), (q_t_ground, .inl (cI, 36, .inl v_t_ground)), (q_t_windows, .inl (cI, 6, .inl v_t_windows)), (q_t_lawParts, .inl (cI, 18, .inl v_t_lawParts))] sz) (QI D cI cJ cZ [(q_t, .inr (2, [.int v_t_columns, .int v_t_rows, .int v_t_fade, .int v_t_laws, .int v_t_nightHours, .int v_t_nightTimes, .ref q_t_ground, .ref q_t_windows, .ref q_t_lawParts])), (q_t_ground, .inl (cI, 36, .inl v_t_ground)), (q_t_windows, .inl (cI, 6, .inl v_t_windows)), (q_t_lawParts, .inl (cI, 18, .inl v_t_lawParts))] z (va_A [(q_t, .inr (2, [.int v_t_columns, .int v_t_rows, .int v_t_fade, .int v_t_laws, .int v_t_nightHours, .int v_t_nightTimes, .ref q_t_ground, .ref q_t_windows, .ref q_t_lawParts])), (q_t_ground, .inl (cI, 36, .inl v_t_ground)), (q_t_windows, .inl (cI, 6, .inl v_t_windows)), (q_t_lawParts, .inl (cI, 18, .inl v_t_lawParts))] sz)) 0 0 (va_A [(q_t, .inr (2, [.int v_t_columns, .int v_t_rows, .int v_t_fade, .int v_t_laws, .int v_t_nightHours, .int v_t_nightTimes, .ref q_t_ground, .ref q_t_windows, .ref q_t_lawParts])), (q_t_ground, .inl (cI, 36, .inl v_t_ground)), (q_t_windows, .inl (cI, 6, .inl v_t_windows)), (q_t_lawParts, .inl (cI, 18, .inl v_t_lawParts))] sz) := by
  refine mk_met (Qc := fun A => (QI D cI cJ cZ [(q_t, .inr (2, [.int v_t_columns, .int v_t_rows, .int v_t_fade, .int v_t_laws, .int v_t_nightHours, .int v_t_nightTimes, .ref q_t_ground, .ref q_t_windows, .ref q_t_lawParts])), (q_t_ground, .inl (cI, 36, .inl v_t_ground)), (q_t_windows, .inl (cI, 6, .inl v_t_windows)), (q_t_lawParts, .inl (cI, 18, .inl v_t_lawParts))] z A)) RX2 (by decide) rfl (Nat.le_of_ble_eq_true rfl) ?_
  intro p e s m below meth c ls A hx hb hr hml hown hts hlocks hA hK hE hl hD H locs hP hS
  have hl : lv_has ls 4 [(0, .ref q_t), (1, .int x1), (2, .int x2)] := hl
  unfold f_X2_coinsFor at hf
  refine lv_iconst (v := 0) hx hb dX2_coinsFor_0 (by decide) ?_
  refine lv_istore_n (lv' := [(3, .int 0), (0, .ref q_t), (1, .int x1), (2, .int x2)]) hx hb dX2_coinsFor_1 rfl hl (by decide) rfl (fun ls hl => ?_)
  have L2_2 : ∀ (n : Nat) (x3_1 : Int32), f_X2_coinsFor_L2 v_t_laws v_t_lawParts x1 x2 n x3_1 = some z → ∀ (H : Heap) (locs : List Loc) (ls : Array Slot), va_P D vwCl [(q_t, .inr (2, [.int v_t_columns, .int v_t_rows, .int v_t_fade, .int v_t_laws, .int v_t_nightHours, .int v_t_nightTimes, .ref q_t_ground, .ref q_t_windows, .ref q_t_lawParts])), (q_t_ground, .inl (cI, 36, .inl v_t_ground)), (q_t_windows, .inl (cI, 6, .inl v_t_windows)), (q_t_lawParts, .inl (cI, 18, .inl v_t_lawParts))] H → va_D A [(q_t, .inr (2, [.int v_t_columns, .int v_t_rows, .int v_t_fade, .int v_t_laws, .int v_t_nightHours, .int v_t_nightTimes, .ref q_t_ground, .ref q_t_windows, .ref q_t_lawParts])), (q_t_ground, .inl (cI, 36, .inl v_t_ground)), (q_t_windows, .inl (cI, 6, .inl v_t_windows)), (q_t_lawParts, .inl (cI, 18, .inl v_t_lawParts))] → va_S A s.heap H locs → lv_has ls 4 [(0, .ref q_t), (1, .int x1), (2, .int x2), (3, .int x3_1)] → W p l e ({ frames := 1, cells := 0, slots := 0, locals := 22 } : Room) s m ([.ref q_t, .int x1, .int x2] : List Value).toArray below meth c H locs 0 0 (MQ below (QI D cI cJ cZ [(q_t, .inr (2, [.int v_t_columns, .int v_t_rows, .int v_t_fade, .int v_t_laws, .int v_t_nightHours, .int v_t_nightTimes, .ref q_t_ground, .ref q_t_windows, .ref q_t_lawParts])), (q_t_ground, .inl (cI, 36, .inl v_t_ground)), (q_t_windows, .inl (cI, 6, .inl v_t_windows)), (q_t_lawParts, .inl (cI, 18, .inl v_t_lawParts))] z A) ([.ref q_t, .int x1, .int x2] : List Value).toArray s 0 0 A) (F0 m 2 ls []) := by
    intro n
    induction n with
    | zero =>
      intro x3_1 hf
      cases hf
    | succ n ih_3 =>
      intro x3_1 hf H locs ls hP hD hS hl
      rw [f_X2_coinsFor_L2] at hf
      refine lv_iload_n hx hb dX2_coinsFor_2 rfl (lv_at hl 3 rfl) ?_
      refine lv_aload_n hx hb dX2_coinsFor_3 rfl (lv_at hl 0 rfl) ?_
      refine va_get (D := D) (ci := 2) (v := .int v_t_laws) (C := RX2) (T := TX2) (N := 9) hx hb hts inX2 hown hK hP 0 rfl rfl 3 (by decide) (hts _ w_143) (fun _ h9 => h9) rfl dX2_coinsFor_4 ?_
      refine lv_icmp_ge (tgt := 43) hx hb dX2_coinsFor_7 (by decide) (fun h_4 => ?_) (fun h_4 => ?_)
      · have hf := (if_pos h_4).symm.trans hf
        refine lv_iconst (v := 0) hx hb dX2_coinsFor_43 (by decide) ?_
        cases hf
        exact rt_i hx hb hr hlocks hK hP hS dX2_coinsFor_44
      · have hf := (if_neg h_4).symm.trans hf
        refine lv_iload_n hx hb dX2_coinsFor_10 rfl (lv_at hl 1 rfl) ?_
        refine lv_aload_n hx hb dX2_coinsFor_11 rfl (lv_at hl 0 rfl) ?_
        refine lv_iload_n hx hb dX2_coinsFor_12 rfl (lv_at hl 3 rfl) ?_
        refine lv_iconst (v := 0) hx hb dX2_coinsFor_13 (by decide) ?_
        obtain ⟨z14_5, hz14_5, hf⟩ := bd_some hf
        refine cVi (rest := [.int x1]) ⟨hx, hb, hml, hown, hts⟩ hE hK hP hD hS hA (c_X2_lawPart l D cI cJ cZ en q_t q_t_ground q_t_windows q_t_lawParts H.size v_t_columns v_t_rows v_t_fade v_t_laws v_t_nightHours v_t_nightTimes v_t_ground v_t_windows v_t_lawParts x3_1 0 hz14_5) (gv_X2_lawPart w_653) hd_X2_lawPart ⟨rfl, rfl⟩ ⟨by decide, by decide⟩ [0, 1, 2, 3] rfl rfl rfl 2 rfl rfl 0 rfl  hl rfl (Nat.le_of_ble_eq_true rfl) ⟨Nat.zero_le _, Nat.zero_le _⟩ dX2_coinsFor_14 (fun H locs hP hD hS => ?_)
        have hP : va_P D vwCl [(q_t, .inr (2, [.int v_t_columns, .int v_t_rows, .int v_t_fade, .int v_t_laws, .int v_t_nightHours, .int v_t_nightTimes, .ref q_t_ground, .ref q_t_windows, .ref q_t_lawParts])), (q_t_ground, .inl (cI, 36, .inl v_t_ground)), (q_t_windows, .inl (cI, 6, .inl v_t_windows)), (q_t_lawParts, .inl (cI, 18, .inl v_t_lawParts))] H := hP
        have hD : va_D A [(q_t, .inr (2, [.int v_t_columns, .int v_t_rows, .int v_t_fade, .int v_t_laws, .int v_t_nightHours, .int v_t_nightTimes, .ref q_t_ground, .ref q_t_windows, .ref q_t_lawParts])), (q_t_ground, .inl (cI, 36, .inl v_t_ground)), (q_t_windows, .inl (cI, 6, .inl v_t_windows)), (q_t_lawParts, .inl (cI, 18, .inl v_t_lawParts))] := hD
        have J37_6 : ∀ (_ : Unit), f_X2_coinsFor_J37 (f_X2_coinsFor_L2 v_t_laws v_t_lawParts x1 x2 n) x3_1 = some z → ∀ (H : Heap) (locs : List Loc) (ls : Array Slot), va_P D vwCl [(q_t, .inr (2, [.int v_t_columns, .int v_t_rows, .int v_t_fade, .int v_t_laws, .int v_t_nightHours, .int v_t_nightTimes, .ref q_t_ground, .ref q_t_windows, .ref q_t_lawParts])), (q_t_ground, .inl (cI, 36, .inl v_t_ground)), (q_t_windows, .inl (cI, 6, .inl v_t_windows)), (q_t_lawParts, .inl (cI, 18, .inl v_t_lawParts))] H → va_D A [(q_t, .inr (2, [.int v_t_columns, .int v_t_rows, .int v_t_fade, .int v_t_laws, .int v_t_nightHours, .int v_t_nightTimes, .ref q_t_ground, .ref q_t_windows, .ref q_t_lawParts])), (q_t_ground, .inl (cI, 36, .inl v_t_ground)), (q_t_windows, .inl (cI, 6, .inl v_t_windows)), (q_t_lawParts, .inl (cI, 18, .inl v_t_lawParts))] → va_S A s.heap H locs → lv_has ls 4 [(0, .ref q_t), (1, .int x1), (2, .int x2), (3, .int x3_1)] → W p l e ({ frames := 1, cells := 0, slots := 0, locals := 22 } : Room) s m ([.ref q_t, .int x1, .int x2] : List Value).toArray below meth c H locs 0 0 (MQ below (QI D cI cJ cZ [(q_t, .inr (2, [.int v_t_columns, .int v_t_rows, .int v_t_fade, .int v_t_laws, .int v_t_nightHours, .int v_t_nightTimes, .ref q_t_ground, .ref q_t_windows, .ref q_t_lawParts])), (q_t_ground, .inl (cI, 36, .inl v_t_ground)), (q_t_windows, .inl (cI, 6, .inl v_t_windows)), (q_t_lawParts, .inl (cI, 18, .inl v_t_lawParts))] z A) ([.ref q_t, .int x1, .int x2] : List Value).toArray s 0 0 A) (F0 m 37 ls []) := by
          intro _ hf H locs ls hP hD hS hl
          unfold f_X2_coinsFor_J37 at hf
          refine lv_iinc (v := (x3_1 + 1)) (lv' := [(3, .int (x3_1 + 1)), (0, .ref q_t), (1, .int x1), (2, .int x2)]) hx hb dX2_coinsFor_37 hl (k := 3) rfl rfl (by decide) rfl (fun ls hl => ?_)
          refine lv_goto (tgt := 2) hx hb dX2_coinsFor_40 (by decide) ?_
          exact ih_3 (x3_1 + 1) hf _ _ _ hP hD hS (lv_sub hl [1, 2, 3, 0] rfl)
        refine lv_icmp_lt (tgt := 37) hx hb dX2_coinsFor_17 (by decide) (fun h_7 => ?_) (fun h_7 => ?_)
        · have hf := (if_pos h_7).symm.trans hf
          exact J37_6 () hf _ _ _ hP hD hS (lv_sub hl [0, 1, 2, 3] rfl)
        · have hf := (if_neg h_7).symm.trans hf
          refine lv_iload_n hx hb dX2_coinsFor_20 rfl (lv_at hl 2 rfl) ?_
          refine lv_aload_n hx hb dX2_coinsFor_21 rfl (lv_at hl 0 rfl) ?_
          refine lv_iload_n hx hb dX2_coinsFor_22 rfl (lv_at hl 3 rfl) ?_
          refine lv_iconst (v := 1) hx hb dX2_coinsFor_23 (by decide) ?_
          obtain ⟨z24_8, hz24_8, hf⟩ := bd_some hf
          refine cVi (rest := [.int x2]) ⟨hx, hb, hml, hown, hts⟩ hE hK hP hD hS hA (c_X2_lawPart l D cI cJ cZ en q_t q_t_ground q_t_windows q_t_lawParts H.size v_t_columns v_t_rows v_t_fade v_t_laws v_t_nightHours v_t_nightTimes v_t_ground v_t_windows v_t_lawParts x3_1 1 hz24_8) (gv_X2_lawPart w_653) hd_X2_lawPart ⟨rfl, rfl⟩ ⟨by decide, by decide⟩ [0, 1, 2, 3] rfl rfl rfl 2 rfl rfl 0 rfl  hl rfl (Nat.le_of_ble_eq_true rfl) ⟨Nat.zero_le _, Nat.zero_le _⟩ dX2_coinsFor_24 (fun H locs hP hD hS => ?_)
          have hP : va_P D vwCl [(q_t, .inr (2, [.int v_t_columns, .int v_t_rows, .int v_t_fade, .int v_t_laws, .int v_t_nightHours, .int v_t_nightTimes, .ref q_t_ground, .ref q_t_windows, .ref q_t_lawParts])), (q_t_ground, .inl (cI, 36, .inl v_t_ground)), (q_t_windows, .inl (cI, 6, .inl v_t_windows)), (q_t_lawParts, .inl (cI, 18, .inl v_t_lawParts))] H := hP
          have hD : va_D A [(q_t, .inr (2, [.int v_t_columns, .int v_t_rows, .int v_t_fade, .int v_t_laws, .int v_t_nightHours, .int v_t_nightTimes, .ref q_t_ground, .ref q_t_windows, .ref q_t_lawParts])), (q_t_ground, .inl (cI, 36, .inl v_t_ground)), (q_t_windows, .inl (cI, 6, .inl v_t_windows)), (q_t_lawParts, .inl (cI, 18, .inl v_t_lawParts))] := hD
          refine lv_icmp_lt (tgt := 37) hx hb dX2_coinsFor_27 (by decide) (fun h_9 => ?_) (fun h_9 => ?_)
          · have hf := (if_pos h_9).symm.trans hf
            exact J37_6 () hf _ _ _ hP hD hS (lv_sub hl [0, 1, 2, 3] rfl)
          · have hf := (if_neg h_9).symm.trans hf
            unfold f_X2_coinsFor_J30 at hf
            refine lv_aload_n hx hb dX2_coinsFor_30 rfl (lv_at hl 0 rfl) ?_
            refine lv_iload_n hx hb dX2_coinsFor_31 rfl (lv_at hl 3 rfl) ?_
            refine lv_iconst (v := 2) hx hb dX2_coinsFor_32 (by decide) ?_
            obtain ⟨z33_10, hz33_10, hf⟩ := bd_some hf
            refine cVi (rest := []) ⟨hx, hb, hml, hown, hts⟩ hE hK hP hD hS hA (c_X2_lawPart l D cI cJ cZ en q_t q_t_ground q_t_windows q_t_lawParts H.size v_t_columns v_t_rows v_t_fade v_t_laws v_t_nightHours v_t_nightTimes v_t_ground v_t_windows v_t_lawParts x3_1 2 hz33_10) (gv_X2_lawPart w_653) hd_X2_lawPart ⟨rfl, rfl⟩ ⟨by decide, by decide⟩ [0, 1, 2, 3] rfl rfl rfl 2 rfl rfl 0 rfl  hl rfl (Nat.le_of_ble_eq_true rfl) ⟨Nat.zero_le _, Nat.zero_le _⟩ dX2_coinsFor_33 (fun H locs hP hD hS => ?_)
            have hP : va_P D vwCl [(q_t, .inr (2, [.int v_t_columns, .int v_t_rows, .int v_t_fade, .int v_t_laws, .int v_t_nightHours, .int v_t_nightTimes, .ref q_t_ground, .ref q_t_windows, .ref q_t_lawParts])), (q_t_ground, .inl (cI, 36, .inl v_t_ground)), (q_t_windows, .inl (cI, 6, .inl v_t_windows)), (q_t_lawParts, .inl (cI, 18, .inl v_t_lawParts))] H := hP
            have hD : va_D A [(q_t, .inr (2, [.int v_t_columns, .int v_t_rows, .int v_t_fade, .int v_t_laws, .int v_t_nightHours, .int v_t_nightTimes, .ref q_t_ground, .ref q_t_windows, .ref q_t_lawParts])), (q_t_ground, .inl (cI, 36, .inl v_t_ground)), (q_t_windows, .inl (cI, 6, .inl v_t_windows)), (q_t_lawParts, .inl (cI, 18, .inl v_t_lawParts))] := hD
            cases hf
            exact rt_i hx hb hr hlocks hK hP hS dX2_coinsFor_36
  exact L2_2 FU 0 hf _ _ _ hP hD hS (lv_sub hl [1, 2, 3, 0] rfl)

def f_X0_drawUp_J96 (rc10 : (Int32) → (Nat → Int32) → Option ((Nat → Int32))) (v_t_due : Nat → Int32) (x3 : Int32) : Option ((Nat → Int32)) :=
  (rc10 (x3 + 1) v_t_due)
def f_X0_drawUp_J90 (rc19 : (Int32) → (Nat → Int32) → Option ((Nat → Int32))) (v_t_due : Nat → Int32) (x4 : Int32) : Option ((Nat → Int32)) :=
  (rc19 (x4 + 1) v_t_due)
def f_X0_drawUp_L19 (rc10 : (Int32) → (Nat → Int32) → Option ((Nat → Int32))) (v_a1_laws : Int32) (v_a1_lawParts : Nat → Int32) (v_a2_marks : Nat → Int32) (v_a2_lasting : Nat → Int32) (x3 : Int32) : Nat → (Int32) → (Nat → Int32) → Option ((Nat → Int32))
  | 0, _, _ => none
  | n + 1, x4, v_t_due => (f_X8_lastTickOf v_a2_lasting x3).bind (fun z23 => (if z23 < x4 then (f_X0_drawUp_J96 rc10 v_t_due x3) else (f_X8_soundOf v_a2_marks v_a2_lasting x3 x4).bind (fun z33 => (f_X8_cellOf z33).bind (fun z40 => (if z40 < 0 then (f_X0_drawUp_J90 (f_X0_drawUp_L19 rc10 v_a1_laws v_a1_lawParts v_a2_marks v_a2_lasting x3 n) v_t_due x4) else (if 36 ≤ z40 then (f_X0_drawUp_J90 (f_X0_drawUp_L19 rc10 v_a1_laws v_a1_lawParts v_a2_marks v_a2_lasting x3 n) v_t_due x4) else (f_X8_thrownOf z33).bind (fun z59 => (if 1 ≤ z59 then gd (ib z40 36) ((f_X8_loudOf z33).bind (fun z80 => (f_X2_coinsFor v_a1_laws v_a1_lawParts z80 x4).bind (fun z85 => gd (ib z40 36) ((f_X0_drawUp_J90 (f_X0_drawUp_L19 rc10 v_a1_laws v_a1_lawParts v_a2_marks v_a2_lasting x3 n) (upd v_t_due (Int32.toNatClampNeg z40) ((v_t_due (Int32.toNatClampNeg z40)) + z85)) x4))))) else (f_X0_drawUp_J90 (f_X0_drawUp_L19 rc10 v_a1_laws v_a1_lawParts v_a2_marks v_a2_lasting x3 n) v_t_due x4)))))))))
def f_X0_drawUp_L10 (v_a1_laws : Int32) (v_a1_lawParts : Nat → Int32) (v_a2_marks : Nat → Int32) (v_a2_lasting : Nat → Int32) : Nat → (Int32) → (Nat → Int32) → Option ((Nat → Int32))
  | 0, _, _ => none
  | n + 1, x3, v_t_due => (if 8 ≤ x3 then (some v_t_due) else (f_X0_drawUp_L19 (f_X0_drawUp_L10 v_a1_laws v_a1_lawParts v_a2_marks v_a2_lasting n) v_a1_laws v_a1_lawParts v_a2_marks v_a2_lasting x3 FU 1 v_t_due))
def f_X0_drawUp (v_t_due : Nat → Int32) (v_a1_laws : Int32) (v_a1_lawParts : Nat → Int32) (v_a2_marks : Nat → Int32) (v_a2_lasting : Nat → Int32) : Option ((Nat → Int32)) :=
  (f_J7_fill_53178 36 v_t_due 0).bind (fun z5 => (f_X0_drawUp_L10 v_a1_laws v_a1_lawParts v_a2_marks v_a2_lasting FU 0 z5))
theorem gv_X0_drawUp {own : String} {idx : Nat} (h : Cond.methodLink own idx yX0_drawUp ∈ lw_g) : GoodIn lw_g (wsV own idx RX0 yX0_drawUp (Cond.code yX0_drawUp cX0_drawUp 7 none :: lw_g)) := gV h w_628 w_629 w_65 w_630
theorem hd_X0_drawUp : yX0_drawUp.cls = RX0 ∧ yX0_drawUp.cls ≠ "java/lang/invoke/MethodHandle" ∧ yX0_drawUp.cls ≠ "java/lang/invoke/VarHandle" ∧ (parseMethodDescriptor yX0_drawUp.desc).map (fun d => d.parameters.length) = some 2 := by decide +kernel
set_option maxHeartbeats 4000000 in
set_option maxRecDepth 100000 in
theorem c_X0_drawUp (l : Launch) (D : va_G) (cI cJ cZ : ClassId) (en : EnT) (q_t q_t_due q_a1 q_a1_ground q_a1_windows q_a1_lawParts q_a2 q_a2_marks q_a2_lasting : Nat) (sz : Nat) (v_t_due : Nat → Int32) (v_a1_columns : Int32) (v_a1_rows : Int32) (v_a1_fade : Int32) (v_a1_laws : Int32) (v_a1_nightHours : Int32) (v_a1_nightTimes : Int32) (v_a1_ground : Nat → Int32) (v_a1_windows : Nat → Int32) (v_a1_lawParts : Nat → Int32) (v_a2_marks : Nat → Int32) (v_a2_lasting : Nat → Int32) {z : (Nat → Int32)} (hf : f_X0_drawUp v_t_due v_a1_laws v_a1_lawParts v_a2_marks v_a2_lasting = some z) : Met l yX0_drawUp (Cond.code yX0_drawUp cX0_drawUp 7 none :: lw_g) ({ frames := 2, cells := 0, slots := 0, locals := 45 } : Room) (PC D cI cJ cZ en ([.ref q_t, .ref q_a1, .ref q_a2] : List Value) [(q_t, .inr (0, [.ref q_t_due])), (q_t_due, .inl (cI, 36, .inl v_t_due)), (q_a1, .inr (2, [.int v_a1_columns, .int v_a1_rows, .int v_a1_fade, .int v_a1_laws, .int v_a1_nightHours, .int v_a1_nightTimes, .ref q_a1_ground, .ref q_a1_windows, .ref q_a1_lawParts])), (q_a1_ground, .inl (cI, 36, .inl v_a1_ground)), (q_a1_windows, .inl (cI, 6, .inl v_a1_windows)), (q_a1_lawParts, .inl (cI, 18, .inl v_a1_lawParts)), (q_a2, .inr (8, [.ref q_a2_marks, .ref q_a2_lasting])), (q_a2_marks, .inl (cI, 480, .inl v_a2_marks)), (q_a2_lasting, .inl (cI, 8, .inl v_a2_lasting))] sz) (QV D cI cJ cZ [(q_t, .inr (0, [.ref q_t_due])), (q_t_due, .inl (cI, 36, .inl z)), (q_a1, .inr (2, [.int v_a1_columns, .int v_a1_rows, .int v_a1_fade, .int v_a1_laws, .int v_a1_nightHours, .int v_a1_nightTimes, .ref q_a1_ground, .ref q_a1_windows, .ref q_a1_lawParts])), (q_a1_ground, .inl (cI, 36, .inl v_a1_ground)), (q_a1_windows, .inl (cI, 6, .inl v_a1_windows)), (q_a1_lawParts, .inl (cI, 18, .inl v_a1_lawParts)), (q_a2, .inr (8, [.ref q_a2_marks, .ref q_a2_lasting])), (q_a2_marks, .inl (cI, 480, .inl v_a2_marks)), (q_a2_lasting, .inl (cI, 8, .inl v_a2_lasting))] (va_A [(q_t, .inr (0, [.ref q_t_due])), (q_t_due, .inl (cI, 36, .inl v_t_due)), (q_a1, .inr (2, [.int v_a1_columns, .int v_a1_rows, .int v_a1_fade, .int v_a1_laws, .int v_a1_nightHours, .int v_a1_nightTimes, .ref q_a1_ground, .ref q_a1_windows, .ref q_a1_lawParts])), (q_a1_ground, .inl (cI, 36, .inl v_a1_ground)), (q_a1_windows, .inl (cI, 6, .inl v_a1_windows)), (q_a1_lawParts, .inl (cI, 18, .inl v_a1_lawParts)), (q_a2, .inr (8, [.ref q_a2_marks, .ref q_a2_lasting])), (q_a2_marks, .inl (cI, 480, .inl v_a2_marks)), (q_a2_lasting, .inl (cI, 8, .inl v_a2_lasting))] sz)) 0 0 (va_A [(q_t, .inr (0, [.ref q_t_due])), (q_t_due, .inl (cI, 36, .inl v_t_due)), (q_a1, .inr (2, [.int v_a1_columns, .int v_a1_rows, .int v_a1_fade, .int v_a1_laws, .int v_a1_nightHours, .int v_a1_nightTimes, .ref q_a1_ground, .ref q_a1_windows, .ref q_a1_lawParts])), (q_a1_ground, .inl (cI, 36, .inl v_a1_ground)), (q_a1_windows, .inl (cI, 6, .inl v_a1_windows)), (q_a1_lawParts, .inl (cI, 18, .inl v_a1_lawParts)), (q_a2, .inr (8, [.ref q_a2_marks, .ref q_a2_lasting])), (q_a2_marks, .inl (cI, 480, .inl v_a2_marks)), (q_a2_lasting, .inl (cI, 8, .inl v_a2_lasting))] sz) := by
  refine mk_met (Qc := fun A => (QV D cI cJ cZ [(q_t, .inr (0, [.ref q_t_due])), (q_t_due, .inl (cI, 36, .inl z)), (q_a1, .inr (2, [.int v_a1_columns, .int v_a1_rows, .int v_a1_fade, .int v_a1_laws, .int v_a1_nightHours, .int v_a1_nightTimes, .ref q_a1_ground, .ref q_a1_windows, .ref q_a1_lawParts])), (q_a1_ground, .inl (cI, 36, .inl v_a1_ground)), (q_a1_windows, .inl (cI, 6, .inl v_a1_windows)), (q_a1_lawParts, .inl (cI, 18, .inl v_a1_lawParts)), (q_a2, .inr (8, [.ref q_a2_marks, .ref q_a2_lasting])), (q_a2_marks, .inl (cI, 480, .inl v_a2_marks)), (q_a2_lasting, .inl (cI, 8, .inl v_a2_lasting))] A)) RX0 (by decide) rfl (Nat.le_of_ble_eq_true rfl) ?_
  intro p e s m below meth c ls A hx hb hr hml hown hts hlocks hA hK hE hl hD H locs hP hS
  have hl : lv_has ls 7 [(0, .ref q_t), (1, .ref q_a1), (2, .ref q_a2)] := hl
  unfold f_X0_drawUp at hf
  refine lv_aload_n hx hb dX0_drawUp_0 rfl (lv_at hl 0 rfl) ?_
  refine va_get (D := D) (ci := 0) (v := .ref q_t_due) (C := RX0) (T := TX0) (N := 1) hx hb hts inX0 hown hK hP 0 rfl rfl 0 (by decide) (hts _ w_252) (fun _ h9 => h9) rfl dX0_drawUp_1 ?_
  refine lv_iconst (v := 0) hx hb dX0_drawUp_4 (by decide) ?_
  obtain ⟨z5_1, hz5_1, hf⟩ := bd_some hf
  refine cSv (rest := []) ⟨hx, hb, hml, hown, hts⟩ hE hK hP hD hS hA (c_J7_fill_53178 l D cI cJ cZ en q_t_due 36 H.size v_t_due 0 hz5_1) (gs_J7_fill_53178 w_631) hd_J7_fill_53178 ⟨rfl, rfl⟩ ⟨by decide, by decide⟩ [1] rfl rfl rfl  hl rfl (Nat.le_of_ble_eq_true rfl) ⟨Nat.zero_le _, Nat.zero_le _⟩ dX0_drawUp_5 (fun H locs hP hD hS => ?_)
  have hP : va_P D vwCl [(q_t, .inr (0, [.ref q_t_due])), (q_t_due, .inl (cI, 36, .inl z5_1)), (q_a1, .inr (2, [.int v_a1_columns, .int v_a1_rows, .int v_a1_fade, .int v_a1_laws, .int v_a1_nightHours, .int v_a1_nightTimes, .ref q_a1_ground, .ref q_a1_windows, .ref q_a1_lawParts])), (q_a1_ground, .inl (cI, 36, .inl v_a1_ground)), (q_a1_windows, .inl (cI, 6, .inl v_a1_windows)), (q_a1_lawParts, .inl (cI, 18, .inl v_a1_lawParts)), (q_a2, .inr (8, [.ref q_a2_marks, .ref q_a2_lasting])), (q_a2_marks, .inl (cI, 480, .inl v_a2_marks)), (q_a2_lasting, .inl (cI, 8, .inl v_a2_lasting))] H := hP
  have hD : va_D A [(q_t, .inr (0, [.ref q_t_due])), (q_t_due, .inl (cI, 36, .inl z5_1)), (q_a1, .inr (2, [.int v_a1_columns, .int v_a1_rows, .int v_a1_fade, .int v_a1_laws, .int v_a1_nightHours, .int v_a1_nightTimes, .ref q_a1_ground, .ref q_a1_windows, .ref q_a1_lawParts])), (q_a1_ground, .inl (cI, 36, .inl v_a1_ground)), (q_a1_windows, .inl (cI, 6, .inl v_a1_windows)), (q_a1_lawParts, .inl (cI, 18, .inl v_a1_lawParts)), (q_a2, .inr (8, [.ref q_a2_marks, .ref q_a2_lasting])), (q_a2_marks, .inl (cI, 480, .inl v_a2_marks)), (q_a2_lasting, .inl (cI, 8, .inl v_a2_lasting))] := hD
  refine lv_iconst (v := 0) hx hb dX0_drawUp_8 (by decide) ?_
  refine lv_istore_n (lv' := [(3, .int 0), (0, .ref q_t), (1, .ref q_a1), (2, .ref q_a2)]) hx hb dX0_drawUp_9 rfl hl (by decide) rfl (fun ls hl => ?_)
  have L10_4 : ∀ (n : Nat) (x3_2 : Int32) (v_t_due_3 : Nat → Int32), f_X0_drawUp_L10 v_a1_laws v_a1_lawParts v_a2_marks v_a2_lasting n x3_2 v_t_due_3 = some z → ∀ (H : Heap) (locs : List Loc) (ls : Array Slot), va_P D vwCl [(q_t, .inr (0, [.ref q_t_due])), (q_t_due, .inl (cI, 36, .inl v_t_due_3)), (q_a1, .inr (2, [.int v_a1_columns, .int v_a1_rows, .int v_a1_fade, .int v_a1_laws, .int v_a1_nightHours, .int v_a1_nightTimes, .ref q_a1_ground, .ref q_a1_windows, .ref q_a1_lawParts])), (q_a1_ground, .inl (cI, 36, .inl v_a1_ground)), (q_a1_windows, .inl (cI, 6, .inl v_a1_windows)), (q_a1_lawParts, .inl (cI, 18, .inl v_a1_lawParts)), (q_a2, .inr (8, [.ref q_a2_marks, .ref q_a2_lasting])), (q_a2_marks, .inl (cI, 480, .inl v_a2_marks)), (q_a2_lasting, .inl (cI, 8, .inl v_a2_lasting))] H → va_D A [(q_t, .inr (0, [.ref q_t_due])), (q_t_due, .inl (cI, 36, .inl v_t_due_3)), (q_a1, .inr (2, [.int v_a1_columns, .int v_a1_rows, .int v_a1_fade, .int v_a1_laws, .int v_a1_nightHours, .int v_a1_nightTimes, .ref q_a1_ground, .ref q_a1_windows, .ref q_a1_lawParts])), (q_a1_ground, .inl (cI, 36, .inl v_a1_ground)), (q_a1_windows, .inl (cI, 6, .inl v_a1_windows)), (q_a1_lawParts, .inl (cI, 18, .inl v_a1_lawParts)), (q_a2, .inr (8, [.ref q_a2_marks, .ref q_a2_lasting])), (q_a2_marks, .inl (cI, 480, .inl v_a2_marks)), (q_a2_lasting, .inl (cI, 8, .inl v_a2_lasting))] → va_S A s.heap H locs → lv_has ls 7 [(0, .ref q_t), (1, .ref q_a1), (2, .ref q_a2), (3, .int x3_2)] → W p l e ({ frames := 2, cells := 0, slots := 0, locals := 45 } : Room) s m ([.ref q_t, .ref q_a1, .ref q_a2] : List Value).toArray below meth c H locs 0 0 (MQ below (QV D cI cJ cZ [(q_t, .inr (0, [.ref q_t_due])), (q_t_due, .inl (cI, 36, .inl z)), (q_a1, .inr (2, [.int v_a1_columns, .int v_a1_rows, .int v_a1_fade, .int v_a1_laws, .int v_a1_nightHours, .int v_a1_nightTimes, .ref q_a1_ground, .ref q_a1_windows, .ref q_a1_lawParts])), (q_a1_ground, .inl (cI, 36, .inl v_a1_ground)), (q_a1_windows, .inl (cI, 6, .inl v_a1_windows)), (q_a1_lawParts, .inl (cI, 18, .inl v_a1_lawParts)), (q_a2, .inr (8, [.ref q_a2_marks, .ref q_a2_lasting])), (q_a2_marks, .inl (cI, 480, .inl v_a2_marks)), (q_a2_lasting, .inl (cI, 8, .inl v_a2_lasting))] A) ([.ref q_t, .ref q_a1, .ref q_a2] : List Value).toArray s 0 0 A) (F0 m 10 ls []) := by
    intro n
    induction n with
    | zero =>
      intro x3_2 v_t_due_3 hf
      cases hf
    | succ n ih_5 =>
      intro x3_2 v_t_due_3 hf H locs ls hP hD hS hl
      rw [f_X0_drawUp_L10] at hf
      refine lv_iload_n hx hb dX0_drawUp_10 rfl (lv_at hl 3 rfl) ?_
      refine lv_bipush (v := 8) hx hb dX0_drawUp_11 (by decide) ?_
      refine lv_icmp_ge (tgt := 102) hx hb dX0_drawUp_13 (by decide) (fun h_6 => ?_) (fun h_6 => ?_)
      · have hf := (if_pos h_6).symm.trans hf
        cases hf
        exact rt_v hx hb hr hlocks hK hP hS dX0_drawUp_102
      · have hf := (if_neg h_6).symm.trans hf
        refine lv_iconst (v := 1) hx hb dX0_drawUp_16 (by decide) ?_
        refine lv_istore (lv' := [(4, .int 1), (0, .ref q_t), (1, .ref q_a1), (2, .ref q_a2), (3, .int x3_2)]) hx hb dX0_drawUp_17 hl (by decide) rfl (fun ls hl => ?_)
        have L19_9 : ∀ (n : Nat) (x4_7 : Int32) (v_t_due_8 : Nat → Int32), f_X0_drawUp_L19 (f_X0_drawUp_L10 v_a1_laws v_a1_lawParts v_a2_marks v_a2_lasting n) v_a1_laws v_a1_lawParts v_a2_marks v_a2_lasting x3_2 n x4_7 v_t_due_8 = some z → ∀ (H : Heap) (locs : List Loc) (ls : Array Slot), va_P D vwCl [(q_t, .inr (0, [.ref q_t_due])), (q_t_due, .inl (cI, 36, .inl v_t_due_8)), (q_a1, .inr (2, [.int v_a1_columns, .int v_a1_rows, .int v_a1_fade, .int v_a1_laws, .int v_a1_nightHours, .int v_a1_nightTimes, .ref q_a1_ground, .ref q_a1_windows, .ref q_a1_lawParts])), (q_a1_ground, .inl (cI, 36, .inl v_a1_ground)), (q_a1_windows, .inl (cI, 6, .inl v_a1_windows)), (q_a1_lawParts, .inl (cI, 18, .inl v_a1_lawParts)), (q_a2, .inr (8, [.ref q_a2_marks, .ref q_a2_lasting])), (q_a2_marks, .inl (cI, 480, .inl v_a2_marks)), (q_a2_lasting, .inl (cI, 8, .inl v_a2_lasting))] H → va_D A [(q_t, .inr (0, [.ref q_t_due])), (q_t_due, .inl (cI, 36, .inl v_t_due_8)), (q_a1, .inr (2, [.int v_a1_columns, .int v_a1_rows, .int v_a1_fade, .int v_a1_laws, .int v_a1_nightHours, .int v_a1_nightTimes, .ref q_a1_ground, .ref q_a1_windows, .ref q_a1_lawParts])), (q_a1_ground, .inl (cI, 36, .inl v_a1_ground)), (q_a1_windows, .inl (cI, 6, .inl v_a1_windows)), (q_a1_lawParts, .inl (cI, 18, .inl v_a1_lawParts)), (q_a2, .inr (8, [.ref q_a2_marks, .ref q_a2_lasting])), (q_a2_marks, .inl (cI, 480, .inl v_a2_marks)), (q_a2_lasting, .inl (cI, 8, .inl v_a2_lasting))] → va_S A s.heap H locs → lv_has ls 7 [(0, .ref q_t), (1, .ref q_a1), (2, .ref q_a2), (3, .int x3_2), (4, .int x4_7)] → W p l e ({ frames := 2, cells := 0, slots := 0, locals := 45 } : Room) s m ([.ref q_t, .ref q_a1, .ref q_a2] : List Value).toArray below meth c H locs 0 0 (MQ below (QV D cI cJ cZ [(q_t, .inr (0, [.ref q_t_due])), (q_t_due, .inl (cI, 36, .inl z)), (q_a1, .inr (2, [.int v_a1_columns, .int v_a1_rows, .int v_a1_fade, .int v_a1_laws, .int v_a1_nightHours, .int v_a1_nightTimes, .ref q_a1_ground, .ref q_a1_windows, .ref q_a1_lawParts])), (q_a1_ground, .inl (cI, 36, .inl v_a1_ground)), (q_a1_windows, .inl (cI, 6, .inl v_a1_windows)), (q_a1_lawParts, .inl (cI, 18, .inl v_a1_lawParts)), (q_a2, .inr (8, [.ref q_a2_marks, .ref q_a2_lasting])), (q_a2_marks, .inl (cI, 480, .inl v_a2_marks)), (q_a2_lasting, .inl (cI, 8, .inl v_a2_lasting))] A) ([.ref q_t, .ref q_a1, .ref q_a2] : List Value).toArray s 0 0 A) (F0 m 19 ls []) := by
          intro n
          induction n with
          | zero =>
            intro x4_7 v_t_due_8 hf
            cases hf
          | succ n ih_10 =>
            intro x4_7 v_t_due_8 hf H locs ls hP hD hS hl
            rw [f_X0_drawUp_L19] at hf
            refine lv_iload hx hb dX0_drawUp_19 (lv_at hl 4 rfl) ?_
            refine lv_aload_n hx hb dX0_drawUp_21 rfl (lv_at hl 2 rfl) ?_
            refine lv_iload_n hx hb dX0_drawUp_22 rfl (lv_at hl 3 rfl) ?_
            obtain ⟨z23_11, hz23_11, hf⟩ := bd_some hf
            refine cVi (rest := [.int x4_7]) ⟨hx, hb, hml, hown, hts⟩ hE hK hP hD hS hA (c_X8_lastTickOf l D cI cJ cZ en q_a2 q_a2_marks q_a2_lasting H.size v_a2_marks v_a2_lasting x3_2 hz23_11) (gv_X8_lastTickOf w_632) hd_X8_lastTickOf ⟨rfl, rfl⟩ ⟨by decide, by decide⟩ [6, 7, 8] rfl rfl rfl 8 rfl rfl 6 rfl  hl rfl (Nat.le_of_ble_eq_true rfl) ⟨Nat.zero_le _, Nat.zero_le _⟩ dX0_drawUp_23 (fun H locs hP hD hS => ?_)
            have hP : va_P D vwCl [(q_t, .inr (0, [.ref q_t_due])), (q_t_due, .inl (cI, 36, .inl v_t_due_8)), (q_a1, .inr (2, [.int v_a1_columns, .int v_a1_rows, .int v_a1_fade, .int v_a1_laws, .int v_a1_nightHours, .int v_a1_nightTimes, .ref q_a1_ground, .ref q_a1_windows, .ref q_a1_lawParts])), (q_a1_ground, .inl (cI, 36, .inl v_a1_ground)), (q_a1_windows, .inl (cI, 6, .inl v_a1_windows)), (q_a1_lawParts, .inl (cI, 18, .inl v_a1_lawParts)), (q_a2, .inr (8, [.ref q_a2_marks, .ref q_a2_lasting])), (q_a2_marks, .inl (cI, 480, .inl v_a2_marks)), (q_a2_lasting, .inl (cI, 8, .inl v_a2_lasting))] H := hP
            have hD : va_D A [(q_t, .inr (0, [.ref q_t_due])), (q_t_due, .inl (cI, 36, .inl v_t_due_8)), (q_a1, .inr (2, [.int v_a1_columns, .int v_a1_rows, .int v_a1_fade, .int v_a1_laws, .int v_a1_nightHours, .int v_a1_nightTimes, .ref q_a1_ground, .ref q_a1_windows, .ref q_a1_lawParts])), (q_a1_ground, .inl (cI, 36, .inl v_a1_ground)), (q_a1_windows, .inl (cI, 6, .inl v_a1_windows)), (q_a1_lawParts, .inl (cI, 18, .inl v_a1_lawParts)), (q_a2, .inr (8, [.ref q_a2_marks, .ref q_a2_lasting])), (q_a2_marks, .inl (cI, 480, .inl v_a2_marks)), (q_a2_lasting, .inl (cI, 8, .inl v_a2_lasting))] := hD
            refine lv_icmp_gt (tgt := 96) hx hb dX0_drawUp_26 (by decide) (fun h_12 => ?_) (fun h_12 => ?_)
            · have hf := (if_pos h_12).symm.trans hf
              unfold f_X0_drawUp_J96 at hf
              refine lv_iinc (v := (x3_2 + 1)) (lv' := [(3, .int (x3_2 + 1)), (0, .ref q_t), (1, .ref q_a1), (2, .ref q_a2), (4, .int x4_7)]) hx hb dX0_drawUp_96 hl (k := 3) rfl rfl (by decide) rfl (fun ls hl => ?_)
              refine lv_goto (tgt := 10) hx hb dX0_drawUp_99 (by decide) ?_
              exact ih_5 (x3_2 + 1) v_t_due_8 hf _ _ _ hP hD hS (lv_sub hl [1, 2, 3, 0] rfl)
            · have hf := (if_neg h_12).symm.trans hf
              refine lv_aload_n hx hb dX0_drawUp_29 rfl (lv_at hl 2 rfl) ?_
              refine lv_iload_n hx hb dX0_drawUp_30 rfl (lv_at hl 3 rfl) ?_
              refine lv_iload hx hb dX0_drawUp_31 (lv_at hl 4 rfl) ?_
              obtain ⟨z33_13, hz33_13, hf⟩ := bd_some hf
              refine cVi (rest := []) ⟨hx, hb, hml, hown, hts⟩ hE hK hP hD hS hA (c_X8_soundOf l D cI cJ cZ en q_a2 q_a2_marks q_a2_lasting H.size v_a2_marks v_a2_lasting x3_2 x4_7 hz33_13) (gv_X8_soundOf w_636) hd_X8_soundOf ⟨rfl, rfl⟩ ⟨by decide, by decide⟩ [6, 7, 8] rfl rfl rfl 8 rfl rfl 6 rfl  hl rfl (Nat.le_of_ble_eq_true rfl) ⟨Nat.zero_le _, Nat.zero_le _⟩ dX0_drawUp_33 (fun H locs hP hD hS => ?_)
              have hP : va_P D vwCl [(q_t, .inr (0, [.ref q_t_due])), (q_t_due, .inl (cI, 36, .inl v_t_due_8)), (q_a1, .inr (2, [.int v_a1_columns, .int v_a1_rows, .int v_a1_fade, .int v_a1_laws, .int v_a1_nightHours, .int v_a1_nightTimes, .ref q_a1_ground, .ref q_a1_windows, .ref q_a1_lawParts])), (q_a1_ground, .inl (cI, 36, .inl v_a1_ground)), (q_a1_windows, .inl (cI, 6, .inl v_a1_windows)), (q_a1_lawParts, .inl (cI, 18, .inl v_a1_lawParts)), (q_a2, .inr (8, [.ref q_a2_marks, .ref q_a2_lasting])), (q_a2_marks, .inl (cI, 480, .inl v_a2_marks)), (q_a2_lasting, .inl (cI, 8, .inl v_a2_lasting))] H := hP
              have hD : va_D A [(q_t, .inr (0, [.ref q_t_due])), (q_t_due, .inl (cI, 36, .inl v_t_due_8)), (q_a1, .inr (2, [.int v_a1_columns, .int v_a1_rows, .int v_a1_fade, .int v_a1_laws, .int v_a1_nightHours, .int v_a1_nightTimes, .ref q_a1_ground, .ref q_a1_windows, .ref q_a1_lawParts])), (q_a1_ground, .inl (cI, 36, .inl v_a1_ground)), (q_a1_windows, .inl (cI, 6, .inl v_a1_windows)), (q_a1_lawParts, .inl (cI, 18, .inl v_a1_lawParts)), (q_a2, .inr (8, [.ref q_a2_marks, .ref q_a2_lasting])), (q_a2_marks, .inl (cI, 480, .inl v_a2_marks)), (q_a2_lasting, .inl (cI, 8, .inl v_a2_lasting))] := hD
              refine lv_istore (lv' := [(5, .int z33_13), (0, .ref q_t), (1, .ref q_a1), (2, .ref q_a2), (3, .int x3_2), (4, .int x4_7)]) hx hb dX0_drawUp_36 hl (by decide) rfl (fun ls hl => ?_)
              refine lv_iload hx hb dX0_drawUp_38 (lv_at hl 0 rfl) ?_
              obtain ⟨z40_14, hz40_14, hf⟩ := bd_some hf
              refine cSi (rest := []) ⟨hx, hb, hml, hown, hts⟩ hE hK hP hD hS hA (c_X8_cellOf l D cI cJ cZ en  H.size z33_13 hz40_14) (gs_X8_cellOf w_640) hd_X8_cellOf ⟨rfl, rfl⟩ ⟨by decide, by decide⟩ [] rfl rfl rfl  hl rfl (Nat.le_of_ble_eq_true rfl) ⟨Nat.zero_le _, Nat.zero_le _⟩ dX0_drawUp_40 (fun H locs hP hD hS => ?_)
              have hP : va_P D vwCl [(q_t, .inr (0, [.ref q_t_due])), (q_t_due, .inl (cI, 36, .inl v_t_due_8)), (q_a1, .inr (2, [.int v_a1_columns, .int v_a1_rows, .int v_a1_fade, .int v_a1_laws, .int v_a1_nightHours, .int v_a1_nightTimes, .ref q_a1_ground, .ref q_a1_windows, .ref q_a1_lawParts])), (q_a1_ground, .inl (cI, 36, .inl v_a1_ground)), (q_a1_windows, .inl (cI, 6, .inl v_a1_windows)), (q_a1_lawParts, .inl (cI, 18, .inl v_a1_lawParts)), (q_a2, .inr (8, [.ref q_a2_marks, .ref q_a2_lasting])), (q_a2_marks, .inl (cI, 480, .inl v_a2_marks)), (q_a2_lasting, .inl (cI, 8, .inl v_a2_lasting))] H := hP
              have hD : va_D A [(q_t, .inr (0, [.ref q_t_due])), (q_t_due, .inl (cI, 36, .inl v_t_due_8)), (q_a1, .inr (2, [.int v_a1_columns, .int v_a1_rows, .int v_a1_fade, .int v_a1_laws, .int v_a1_nightHours, .int v_a1_nightTimes, .ref q_a1_ground, .ref q_a1_windows, .ref q_a1_lawParts])), (q_a1_ground, .inl (cI, 36, .inl v_a1_ground)), (q_a1_windows, .inl (cI, 6, .inl v_a1_windows)), (q_a1_lawParts, .inl (cI, 18, .inl v_a1_lawParts)), (q_a2, .inr (8, [.ref q_a2_marks, .ref q_a2_lasting])), (q_a2_marks, .inl (cI, 480, .inl v_a2_marks)), (q_a2_lasting, .inl (cI, 8, .inl v_a2_lasting))] := hD
              refine lv_istore (lv' := [(6, .int z40_14), (5, .int z33_13), (0, .ref q_t), (1, .ref q_a1), (2, .ref q_a2), (3, .int x3_2), (4, .int x4_7)]) hx hb dX0_drawUp_43 hl (by decide) rfl (fun ls hl => ?_)
              refine lv_iload hx hb dX0_drawUp_45 (lv_at hl 0 rfl) ?_
              have J90_16 : ∀ (v_t_due_15 : Nat → Int32), f_X0_drawUp_J90 (f_X0_drawUp_L19 (f_X0_drawUp_L10 v_a1_laws v_a1_lawParts v_a2_marks v_a2_lasting n) v_a1_laws v_a1_lawParts v_a2_marks v_a2_lasting x3_2 n) v_t_due_15 x4_7 = some z → ∀ (H : Heap) (locs : List Loc) (ls : Array Slot), va_P D vwCl [(q_t, .inr (0, [.ref q_t_due])), (q_t_due, .inl (cI, 36, .inl v_t_due_15)), (q_a1, .inr (2, [.int v_a1_columns, .int v_a1_rows, .int v_a1_fade, .int v_a1_laws, .int v_a1_nightHours, .int v_a1_nightTimes, .ref q_a1_ground, .ref q_a1_windows, .ref q_a1_lawParts])), (q_a1_ground, .inl (cI, 36, .inl v_a1_ground)), (q_a1_windows, .inl (cI, 6, .inl v_a1_windows)), (q_a1_lawParts, .inl (cI, 18, .inl v_a1_lawParts)), (q_a2, .inr (8, [.ref q_a2_marks, .ref q_a2_lasting])), (q_a2_marks, .inl (cI, 480, .inl v_a2_marks)), (q_a2_lasting, .inl (cI, 8, .inl v_a2_lasting))] H → va_D A [(q_t, .inr (0, [.ref q_t_due])), (q_t_due, .inl (cI, 36, .inl v_t_due_15)), (q_a1, .inr (2, [.int v_a1_columns, .int v_a1_rows, .int v_a1_fade, .int v_a1_laws, .int v_a1_nightHours, .int v_a1_nightTimes, .ref q_a1_ground, .ref q_a1_windows, .ref q_a1_lawParts])), (q_a1_ground, .inl (cI, 36, .inl v_a1_ground)), (q_a1_windows, .inl (cI, 6, .inl v_a1_windows)), (q_a1_lawParts, .inl (cI, 18, .inl v_a1_lawParts)), (q_a2, .inr (8, [.ref q_a2_marks, .ref q_a2_lasting])), (q_a2_marks, .inl (cI, 480, .inl v_a2_marks)), (q_a2_lasting, .inl (cI, 8, .inl v_a2_lasting))] → va_S A s.heap H locs → lv_has ls 7 [(0, .ref q_t), (1, .ref q_a1), (2, .ref q_a2), (3, .int x3_2), (4, .int x4_7)] → W p l e ({ frames := 2, cells := 0, slots := 0, locals := 45 } : Room) s m ([.ref q_t, .ref q_a1, .ref q_a2] : List Value).toArray below meth c H locs 0 0 (MQ below (QV D cI cJ cZ [(q_t, .inr (0, [.ref q_t_due])), (q_t_due, .inl (cI, 36, .inl z)), (q_a1, .inr (2, [.int v_a1_columns, .int v_a1_rows, .int v_a1_fade, .int v_a1_laws, .int v_a1_nightHours, .int v_a1_nightTimes, .ref q_a1_ground, .ref q_a1_windows, .ref q_a1_lawParts])), (q_a1_ground, .inl (cI, 36, .inl v_a1_ground)), (q_a1_windows, .inl (cI, 6, .inl v_a1_windows)), (q_a1_lawParts, .inl (cI, 18, .inl v_a1_lawParts)), (q_a2, .inr (8, [.ref q_a2_marks, .ref q_a2_lasting])), (q_a2_marks, .inl (cI, 480, .inl v_a2_marks)), (q_a2_lasting, .inl (cI, 8, .inl v_a2_lasting))] A) ([.ref q_t, .ref q_a1, .ref q_a2] : List Value).toArray s 0 0 A) (F0 m 90 ls []) := by
                intro v_t_due_15 hf H locs ls hP hD hS hl
                unfold f_X0_drawUp_J90 at hf
                refine lv_iinc (v := (x4_7 + 1)) (lv' := [(4, .int (x4_7 + 1)), (0, .ref q_t), (1, .ref q_a1), (2, .ref q_a2), (3, .int x3_2)]) hx hb dX0_drawUp_90 hl (k := 4) rfl rfl (by decide) rfl (fun ls hl => ?_)
                refine lv_goto (tgt := 19) hx hb dX0_drawUp_93 (by decide) ?_
                exact ih_10 (x4_7 + 1) v_t_due_15 hf _ _ _ hP hD hS (lv_sub hl [1, 2, 3, 4, 0] rfl)
              refine lv_if_lt (tgt := 90) hx hb dX0_drawUp_47 (by decide) (fun h_17 => ?_) (fun h_17 => ?_)
              · have hf := (if_pos h_17).symm.trans hf
                exact J90_16 v_t_due_8 hf _ _ _ hP hD hS (lv_sub hl [2, 3, 4, 5, 6] rfl)
              · have hf := (if_neg h_17).symm.trans hf
                refine lv_iload hx hb dX0_drawUp_50 (lv_at hl 0 rfl) ?_
                refine lv_bipush (v := 36) hx hb dX0_drawUp_52 (by decide) ?_
                refine lv_icmp_ge (tgt := 90) hx hb dX0_drawUp_54 (by decide) (fun h_18 => ?_) (fun h_18 => ?_)
                · have hf := (if_pos h_18).symm.trans hf
                  exact J90_16 v_t_due_8 hf _ _ _ hP hD hS (lv_sub hl [2, 3, 4, 5, 6] rfl)
                · have hf := (if_neg h_18).symm.trans hf
                  refine lv_iload hx hb dX0_drawUp_57 (lv_at hl 1 rfl) ?_
                  obtain ⟨z59_19, hz59_19, hf⟩ := bd_some hf
                  refine cSi (rest := []) ⟨hx, hb, hml, hown, hts⟩ hE hK hP hD hS hA (c_X8_thrownOf l D cI cJ cZ en  H.size z33_13 hz59_19) (gs_X8_thrownOf w_643) hd_X8_thrownOf ⟨rfl, rfl⟩ ⟨by decide, by decide⟩ [] rfl rfl rfl  hl rfl (Nat.le_of_ble_eq_true rfl) ⟨Nat.zero_le _, Nat.zero_le _⟩ dX0_drawUp_59 (fun H locs hP hD hS => ?_)
                  have hP : va_P D vwCl [(q_t, .inr (0, [.ref q_t_due])), (q_t_due, .inl (cI, 36, .inl v_t_due_8)), (q_a1, .inr (2, [.int v_a1_columns, .int v_a1_rows, .int v_a1_fade, .int v_a1_laws, .int v_a1_nightHours, .int v_a1_nightTimes, .ref q_a1_ground, .ref q_a1_windows, .ref q_a1_lawParts])), (q_a1_ground, .inl (cI, 36, .inl v_a1_ground)), (q_a1_windows, .inl (cI, 6, .inl v_a1_windows)), (q_a1_lawParts, .inl (cI, 18, .inl v_a1_lawParts)), (q_a2, .inr (8, [.ref q_a2_marks, .ref q_a2_lasting])), (q_a2_marks, .inl (cI, 480, .inl v_a2_marks)), (q_a2_lasting, .inl (cI, 8, .inl v_a2_lasting))] H := hP
                  have hD : va_D A [(q_t, .inr (0, [.ref q_t_due])), (q_t_due, .inl (cI, 36, .inl v_t_due_8)), (q_a1, .inr (2, [.int v_a1_columns, .int v_a1_rows, .int v_a1_fade, .int v_a1_laws, .int v_a1_nightHours, .int v_a1_nightTimes, .ref q_a1_ground, .ref q_a1_windows, .ref q_a1_lawParts])), (q_a1_ground, .inl (cI, 36, .inl v_a1_ground)), (q_a1_windows, .inl (cI, 6, .inl v_a1_windows)), (q_a1_lawParts, .inl (cI, 18, .inl v_a1_lawParts)), (q_a2, .inr (8, [.ref q_a2_marks, .ref q_a2_lasting])), (q_a2_marks, .inl (cI, 480, .inl v_a2_marks)), (q_a2_lasting, .inl (cI, 8, .inl v_a2_lasting))] := hD
                  refine lv_iconst (v := 1) hx hb dX0_drawUp_62 (by decide) ?_
                  refine lv_icmp_ge (tgt := 69) hx hb dX0_drawUp_63 (by decide) (fun h_20 => ?_) (fun h_20 => ?_)
                  · have hf := (if_pos h_20).symm.trans hf
                    refine lv_aload_n hx hb dX0_drawUp_69 rfl (lv_at hl 2 rfl) ?_
                    refine va_get (D := D) (ci := 0) (v := .ref q_t_due) (C := RX0) (T := TX0) (N := 1) hx hb hts inX0 hown hK hP 0 rfl rfl 0 (by decide) (hts _ w_252) (fun _ h9 => h9) rfl dX0_drawUp_70 ?_
                    refine lv_iload hx hb dX0_drawUp_73 (lv_at hl 0 rfl) ?_
                    refine lv_dup2_11 hx hb dX0_drawUp_75 rfl rfl ?_
                    obtain ⟨hin, hf⟩ := gd_some hf
                    refine va_iald hx hb hK hP 1 0 rfl rfl hin dX0_drawUp_76 ?_
                    refine lv_aload_n hx hb dX0_drawUp_77 rfl (lv_at hl 3 rfl) ?_
                    refine lv_iload hx hb dX0_drawUp_78 (lv_at hl 1 rfl) ?_
                    obtain ⟨z80_21, hz80_21, hf⟩ := bd_some hf
                    refine cSi (rest := [.ref q_a1, .int (v_t_due_8 (Int32.toNatClampNeg z40_14)), .int z40_14, .ref q_t_due]) ⟨hx, hb, hml, hown, hts⟩ hE hK hP hD hS hA (c_X8_loudOf l D cI cJ cZ en  H.size z33_13 hz80_21) (gs_X8_loudOf w_646) hd_X8_loudOf ⟨rfl, rfl⟩ ⟨by decide, by decide⟩ [] rfl rfl rfl  hl rfl (Nat.le_of_ble_eq_true rfl) ⟨Nat.zero_le _, Nat.zero_le _⟩ dX0_drawUp_80 (fun H locs hP hD hS => ?_)
                    have hP : va_P D vwCl [(q_t, .inr (0, [.ref q_t_due])), (q_t_due, .inl (cI, 36, .inl v_t_due_8)), (q_a1, .inr (2, [.int v_a1_columns, .int v_a1_rows, .int v_a1_fade, .int v_a1_laws, .int v_a1_nightHours, .int v_a1_nightTimes, .ref q_a1_ground, .ref q_a1_windows, .ref q_a1_lawParts])), (q_a1_ground, .inl (cI, 36, .inl v_a1_ground)), (q_a1_windows, .inl (cI, 6, .inl v_a1_windows)), (q_a1_lawParts, .inl (cI, 18, .inl v_a1_lawParts)), (q_a2, .inr (8, [.ref q_a2_marks, .ref q_a2_lasting])), (q_a2_marks, .inl (cI, 480, .inl v_a2_marks)), (q_a2_lasting, .inl (cI, 8, .inl v_a2_lasting))] H := hP
                    have hD : va_D A [(q_t, .inr (0, [.ref q_t_due])), (q_t_due, .inl (cI, 36, .inl v_t_due_8)), (q_a1, .inr (2, [.int v_a1_columns, .int v_a1_rows, .int v_a1_fade, .int v_a1_laws, .int v_a1_nightHours, .int v_a1_nightTimes, .ref q_a1_ground, .ref q_a1_windows, .ref q_a1_lawParts])), (q_a1_ground, .inl (cI, 36, .inl v_a1_ground)), (q_a1_windows, .inl (cI, 6, .inl v_a1_windows)), (q_a1_lawParts, .inl (cI, 18, .inl v_a1_lawParts)), (q_a2, .inr (8, [.ref q_a2_marks, .ref q_a2_lasting])), (q_a2_marks, .inl (cI, 480, .inl v_a2_marks)), (q_a2_lasting, .inl (cI, 8, .inl v_a2_lasting))] := hD
                    refine lv_iload hx hb dX0_drawUp_83 (lv_at hl 6 rfl) ?_
                    obtain ⟨z85_22, hz85_22, hf⟩ := bd_some hf
                    refine cVi (rest := [.int (v_t_due_8 (Int32.toNatClampNeg z40_14)), .int z40_14, .ref q_t_due]) ⟨hx, hb, hml, hown, hts⟩ hE hK hP hD hS hA (c_X2_coinsFor l D cI cJ cZ en q_a1 q_a1_ground q_a1_windows q_a1_lawParts H.size v_a1_columns v_a1_rows v_a1_fade v_a1_laws v_a1_nightHours v_a1_nightTimes v_a1_ground v_a1_windows v_a1_lawParts z80_21 x4_7 hz85_22) (gv_X2_coinsFor w_649) hd_X2_coinsFor ⟨rfl, rfl⟩ ⟨by decide, by decide⟩ [2, 3, 4, 5] rfl rfl rfl 2 rfl rfl 2 rfl  hl rfl (Nat.le_of_ble_eq_true rfl) ⟨Nat.zero_le _, Nat.zero_le _⟩ dX0_drawUp_85 (fun H locs hP hD hS => ?_)
                    have hP : va_P D vwCl [(q_t, .inr (0, [.ref q_t_due])), (q_t_due, .inl (cI, 36, .inl v_t_due_8)), (q_a1, .inr (2, [.int v_a1_columns, .int v_a1_rows, .int v_a1_fade, .int v_a1_laws, .int v_a1_nightHours, .int v_a1_nightTimes, .ref q_a1_ground, .ref q_a1_windows, .ref q_a1_lawParts])), (q_a1_ground, .inl (cI, 36, .inl v_a1_ground)), (q_a1_windows, .inl (cI, 6, .inl v_a1_windows)), (q_a1_lawParts, .inl (cI, 18, .inl v_a1_lawParts)), (q_a2, .inr (8, [.ref q_a2_marks, .ref q_a2_lasting])), (q_a2_marks, .inl (cI, 480, .inl v_a2_marks)), (q_a2_lasting, .inl (cI, 8, .inl v_a2_lasting))] H := hP
                    have hD : va_D A [(q_t, .inr (0, [.ref q_t_due])), (q_t_due, .inl (cI, 36, .inl v_t_due_8)), (q_a1, .inr (2, [.int v_a1_columns, .int v_a1_rows, .int v_a1_fade, .int v_a1_laws, .int v_a1_nightHours, .int v_a1_nightTimes, .ref q_a1_ground, .ref q_a1_windows, .ref q_a1_lawParts])), (q_a1_ground, .inl (cI, 36, .inl v_a1_ground)), (q_a1_windows, .inl (cI, 6, .inl v_a1_windows)), (q_a1_lawParts, .inl (cI, 18, .inl v_a1_lawParts)), (q_a2, .inr (8, [.ref q_a2_marks, .ref q_a2_lasting])), (q_a2_marks, .inl (cI, 480, .inl v_a2_marks)), (q_a2_lasting, .inl (cI, 8, .inl v_a2_lasting))] := hD
                    refine lv_iadd hx hb dX0_drawUp_88 ?_
                    obtain ⟨hin, hf⟩ := gd_some hf
                    refine va_iast hx hb hK hP hD hS 1 0 rfl rfl hin dX0_drawUp_89 (fun H locs hP hD hS => ?_)
                    have hP : va_P D vwCl [(q_t, .inr (0, [.ref q_t_due])), (q_t_due, .inl (cI, 36, .inl (upd v_t_due_8 (Int32.toNatClampNeg z40_14) ((v_t_due_8 (Int32.toNatClampNeg z40_14)) + z85_22)))), (q_a1, .inr (2, [.int v_a1_columns, .int v_a1_rows, .int v_a1_fade, .int v_a1_laws, .int v_a1_nightHours, .int v_a1_nightTimes, .ref q_a1_ground, .ref q_a1_windows, .ref q_a1_lawParts])), (q_a1_ground, .inl (cI, 36, .inl v_a1_ground)), (q_a1_windows, .inl (cI, 6, .inl v_a1_windows)), (q_a1_lawParts, .inl (cI, 18, .inl v_a1_lawParts)), (q_a2, .inr (8, [.ref q_a2_marks, .ref q_a2_lasting])), (q_a2_marks, .inl (cI, 480, .inl v_a2_marks)), (q_a2_lasting, .inl (cI, 8, .inl v_a2_lasting))] H := hP
                    have hD : va_D A [(q_t, .inr (0, [.ref q_t_due])), (q_t_due, .inl (cI, 36, .inl (upd v_t_due_8 (Int32.toNatClampNeg z40_14) ((v_t_due_8 (Int32.toNatClampNeg z40_14)) + z85_22)))), (q_a1, .inr (2, [.int v_a1_columns, .int v_a1_rows, .int v_a1_fade, .int v_a1_laws, .int v_a1_nightHours, .int v_a1_nightTimes, .ref q_a1_ground, .ref q_a1_windows, .ref q_a1_lawParts])), (q_a1_ground, .inl (cI, 36, .inl v_a1_ground)), (q_a1_windows, .inl (cI, 6, .inl v_a1_windows)), (q_a1_lawParts, .inl (cI, 18, .inl v_a1_lawParts)), (q_a2, .inr (8, [.ref q_a2_marks, .ref q_a2_lasting])), (q_a2_marks, .inl (cI, 480, .inl v_a2_marks)), (q_a2_lasting, .inl (cI, 8, .inl v_a2_lasting))] := hD
                    exact J90_16 (upd v_t_due_8 (Int32.toNatClampNeg z40_14) ((v_t_due_8 (Int32.toNatClampNeg z40_14)) + z85_22)) hf _ _ _ hP hD hS (lv_sub hl [2, 3, 4, 5, 6] rfl)
                  · have hf := (if_neg h_20).symm.trans hf
                    refine lv_goto (tgt := 90) hx hb dX0_drawUp_66 (by decide) ?_
                    exact J90_16 v_t_due_8 hf _ _ _ hP hD hS (lv_sub hl [2, 3, 4, 5, 6] rfl)
        exact L19_9 FU 1 v_t_due_3 hf _ _ _ hP hD hS (lv_sub hl [1, 2, 3, 4, 0] rfl)
  exact L10_4 FU 0 z5_1 hf _ _ _ hP hD hS (lv_sub hl [1, 2, 3, 0] rfl)

def f_X0_dueAt (v_t_due : Nat → Int32) (x1 : Int32) : Option (Int32) :=
  (if x1 < 0 then (some 0) else (if x1 < 36 then gd (ib x1 36) ((some (v_t_due (Int32.toNatClampNeg x1)))) else (some 0)))
theorem gv_X0_dueAt {own : String} {idx : Nat} (h : Cond.methodLink own idx yX0_dueAt ∈ lw_g) : GoodIn lw_g (wsV own idx RX0 yX0_dueAt (Cond.code yX0_dueAt cX0_dueAt 2 (some .int) :: lw_g)) := gV h w_655 w_656 w_65 w_657
theorem hd_X0_dueAt : yX0_dueAt.cls = RX0 ∧ yX0_dueAt.cls ≠ "java/lang/invoke/MethodHandle" ∧ yX0_dueAt.cls ≠ "java/lang/invoke/VarHandle" ∧ (parseMethodDescriptor yX0_dueAt.desc).map (fun d => d.parameters.length) = some 1 := by decide +kernel
set_option maxHeartbeats 4000000 in
set_option maxRecDepth 100000 in
theorem c_X0_dueAt (l : Launch) (D : va_G) (cI cJ cZ : ClassId) (en : EnT) (q_t q_t_due : Nat) (sz : Nat) (v_t_due : Nat → Int32) (x1 : Int32) {z : Int32} (hf : f_X0_dueAt v_t_due x1 = some z) : Met l yX0_dueAt (Cond.code yX0_dueAt cX0_dueAt 2 (some .int) :: lw_g) ({ frames := 0, cells := 0, slots := 0, locals := 0 } : Room) (PC D cI cJ cZ en ([.ref q_t, .int x1] : List Value) [(q_t, .inr (0, [.ref q_t_due])), (q_t_due, .inl (cI, 36, .inl v_t_due))] sz) (QI D cI cJ cZ [(q_t, .inr (0, [.ref q_t_due])), (q_t_due, .inl (cI, 36, .inl v_t_due))] z (va_A [(q_t, .inr (0, [.ref q_t_due])), (q_t_due, .inl (cI, 36, .inl v_t_due))] sz)) 0 0 (va_A [(q_t, .inr (0, [.ref q_t_due])), (q_t_due, .inl (cI, 36, .inl v_t_due))] sz) := by
  refine mk_met (Qc := fun A => (QI D cI cJ cZ [(q_t, .inr (0, [.ref q_t_due])), (q_t_due, .inl (cI, 36, .inl v_t_due))] z A)) RX0 (by decide) rfl (Nat.le_of_ble_eq_true rfl) ?_
  intro p e s m below meth c ls A hx hb hr hml hown hts hlocks hA hK hE hl hD H locs hP hS
  have hl : lv_has ls 2 [(0, .ref q_t), (1, .int x1)] := hl
  unfold f_X0_dueAt at hf
  refine lv_iload_n hx hb dX0_dueAt_0 rfl (lv_at hl 1 rfl) ?_
  refine lv_if_lt (tgt := 10) hx hb dX0_dueAt_1 (by decide) (fun h_1 => ?_) (fun h_1 => ?_)
  · have hf := (if_pos h_1).symm.trans hf
    refine lv_iconst (v := 0) hx hb dX0_dueAt_10 (by decide) ?_
    refine lv_goto (tgt := 20) hx hb dX0_dueAt_11 (by decide) ?_
    cases hf
    exact rt_i hx hb hr hlocks hK hP hS dX0_dueAt_20
  · have hf := (if_neg h_1).symm.trans hf
    refine lv_iload_n hx hb dX0_dueAt_4 rfl (lv_at hl 1 rfl) ?_
    refine lv_bipush (v := 36) hx hb dX0_dueAt_5 (by decide) ?_
    refine lv_icmp_lt (tgt := 14) hx hb dX0_dueAt_7 (by decide) (fun h_2 => ?_) (fun h_2 => ?_)
    · have hf := (if_pos h_2).symm.trans hf
      refine lv_aload_n hx hb dX0_dueAt_14 rfl (lv_at hl 0 rfl) ?_
      refine va_get (D := D) (ci := 0) (v := .ref q_t_due) (C := RX0) (T := TX0) (N := 1) hx hb hts inX0 hown hK hP 0 rfl rfl 0 (by decide) (hts _ w_252) (fun _ h9 => h9) rfl dX0_dueAt_15 ?_
      refine lv_iload_n hx hb dX0_dueAt_18 rfl (lv_at hl 1 rfl) ?_
      obtain ⟨hin, hf⟩ := gd_some hf
      refine va_iald hx hb hK hP 1 0 rfl rfl hin dX0_dueAt_19 ?_
      cases hf
      exact rt_i hx hb hr hlocks hK hP hS dX0_dueAt_20
    · have hf := (if_neg h_2).symm.trans hf
      refine lv_iconst (v := 0) hx hb dX0_dueAt_10 (by decide) ?_
      refine lv_goto (tgt := 20) hx hb dX0_dueAt_11 (by decide) ?_
      cases hf
      exact rt_i hx hb hr hlocks hK hP hS dX0_dueAt_20

def f_X1_clear (v_t_cries : Int32) (v_t_notes : Int32) (v_t_debts : Nat → Int32) : Option (Int32 × Int32 × (Nat → Int32)) :=
  (f_J7_fill_53178 36 v_t_debts 0).bind (fun z5 => (some (0, 0, z5)))
theorem gv_X1_clear {own : String} {idx : Nat} (h : Cond.methodLink own idx yX1_clear ∈ lw_g) : GoodIn lw_g (wsV own idx RX1 yX1_clear (Cond.code yX1_clear cX1_clear 1 none :: lw_g)) := gV h w_505 w_506 w_62 w_507
theorem hd_X1_clear : yX1_clear.cls = RX1 ∧ yX1_clear.cls ≠ "java/lang/invoke/MethodHandle" ∧ yX1_clear.cls ≠ "java/lang/invoke/VarHandle" ∧ (parseMethodDescriptor yX1_clear.desc).map (fun d => d.parameters.length) = some 0 := by decide +kernel
set_option maxHeartbeats 4000000 in
set_option maxRecDepth 100000 in
theorem c_X1_clear (l : Launch) (D : va_G) (cI cJ cZ : ClassId) (en : EnT) (q_t q_t_debts q_t_criers q_t_louds q_t_highs q_t_hours q_t_hearers q_t_minutes : Nat) (sz : Nat) (v_t_cries : Int32) (v_t_notes : Int32) (v_t_debts : Nat → Int32) (v_t_criers : Nat → Int32) (v_t_louds : Nat → Int32) (v_t_highs : Nat → Int32) (v_t_hours : Nat → Int32) (v_t_hearers : Nat → Int32) (v_t_minutes : Nat → Int32) {z : Int32 × Int32 × (Nat → Int32)} (hf : f_X1_clear v_t_cries v_t_notes v_t_debts = some z) : Met l yX1_clear (Cond.code yX1_clear cX1_clear 1 none :: lw_g) ({ frames := 1, cells := 0, slots := 0, locals := 23 } : Room) (PC D cI cJ cZ en ([.ref q_t] : List Value) [(q_t, .inr (1, [.ref q_t_debts, .ref q_t_criers, .ref q_t_louds, .ref q_t_highs, .ref q_t_hours, .ref q_t_hearers, .ref q_t_minutes, .int v_t_cries, .int v_t_notes])), (q_t_debts, .inl (cI, 36, .inl v_t_debts)), (q_t_criers, .inl (cI, 20, .inl v_t_criers)), (q_t_louds, .inl (cI, 20, .inl v_t_louds)), (q_t_highs, .inl (cZ, 20, .inl v_t_highs)), (q_t_hours, .inl (cI, 20, .inl v_t_hours)), (q_t_hearers, .inl (cI, 12, .inl v_t_hearers)), (q_t_minutes, .inl (cI, 12, .inl v_t_minutes))] sz) (QV D cI cJ cZ [(q_t, .inr (1, [.ref q_t_debts, .ref q_t_criers, .ref q_t_louds, .ref q_t_highs, .ref q_t_hours, .ref q_t_hearers, .ref q_t_minutes, .int z.1, .int z.2.1])), (q_t_debts, .inl (cI, 36, .inl z.2.2)), (q_t_criers, .inl (cI, 20, .inl v_t_criers)), (q_t_louds, .inl (cI, 20, .inl v_t_louds)), (q_t_highs, .inl (cZ, 20, .inl v_t_highs)), (q_t_hours, .inl (cI, 20, .inl v_t_hours)), (q_t_hearers, .inl (cI, 12, .inl v_t_hearers)), (q_t_minutes, .inl (cI, 12, .inl v_t_minutes))] (va_A [(q_t, .inr (1, [.ref q_t_debts, .ref q_t_criers, .ref q_t_louds, .ref q_t_highs, .ref q_t_hours, .ref q_t_hearers, .ref q_t_minutes, .int v_t_cries, .int v_t_notes])), (q_t_debts, .inl (cI, 36, .inl v_t_debts)), (q_t_criers, .inl (cI, 20, .inl v_t_criers)), (q_t_louds, .inl (cI, 20, .inl v_t_louds)), (q_t_highs, .inl (cZ, 20, .inl v_t_highs)), (q_t_hours, .inl (cI, 20, .inl v_t_hours)), (q_t_hearers, .inl (cI, 12, .inl v_t_hearers)), (q_t_minutes, .inl (cI, 12, .inl v_t_minutes))] sz)) 0 0 (va_A [(q_t, .inr (1, [.ref q_t_debts, .ref q_t_criers, .ref q_t_louds, .ref q_t_highs, .ref q_t_hours, .ref q_t_hearers, .ref q_t_minutes, .int v_t_cries, .int v_t_notes])), (q_t_debts, .inl (cI, 36, .inl v_t_debts)), (q_t_criers, .inl (cI, 20, .inl v_t_criers)), (q_t_louds, .inl (cI, 20, .inl v_t_louds)), (q_t_highs, .inl (cZ, 20, .inl v_t_highs)), (q_t_hours, .inl (cI, 20, .inl v_t_hours)), (q_t_hearers, .inl (cI, 12, .inl v_t_hearers)), (q_t_minutes, .inl (cI, 12, .inl v_t_minutes))] sz) := by
  refine mk_met (Qc := fun A => (QV D cI cJ cZ [(q_t, .inr (1, [.ref q_t_debts, .ref q_t_criers, .ref q_t_louds, .ref q_t_highs, .ref q_t_hours, .ref q_t_hearers, .ref q_t_minutes, .int z.1, .int z.2.1])), (q_t_debts, .inl (cI, 36, .inl z.2.2)), (q_t_criers, .inl (cI, 20, .inl v_t_criers)), (q_t_louds, .inl (cI, 20, .inl v_t_louds)), (q_t_highs, .inl (cZ, 20, .inl v_t_highs)), (q_t_hours, .inl (cI, 20, .inl v_t_hours)), (q_t_hearers, .inl (cI, 12, .inl v_t_hearers)), (q_t_minutes, .inl (cI, 12, .inl v_t_minutes))] A)) RX1 (by decide) rfl (Nat.le_of_ble_eq_true rfl) ?_
  intro p e s m below meth c ls A hx hb hr hml hown hts hlocks hA hK hE hl hD H locs hP hS
  have hl : lv_has ls 1 [(0, .ref q_t)] := hl
  unfold f_X1_clear at hf
  refine lv_aload_n hx hb dX1_clear_0 rfl (lv_at hl 0 rfl) ?_
  refine va_get (D := D) (ci := 1) (v := .ref q_t_debts) (C := RX1) (T := TX1) (N := 9) hx hb hts inX1 hown hK hP 0 rfl rfl 0 (by decide) (hts _ w_178) (fun _ h9 => h9) rfl dX1_clear_1 ?_
  refine lv_iconst (v := 0) hx hb dX1_clear_4 (by decide) ?_
  obtain ⟨z5_1, hz5_1, hf⟩ := bd_some hf
  refine cSv (rest := []) ⟨hx, hb, hml, hown, hts⟩ hE hK hP hD hS hA (c_J7_fill_53178 l D cI cJ cZ en q_t_debts 36 H.size v_t_debts 0 hz5_1) (gs_J7_fill_53178 w_508) hd_J7_fill_53178 ⟨rfl, rfl⟩ ⟨by decide, by decide⟩ [1] rfl rfl rfl  hl rfl (Nat.le_of_ble_eq_true rfl) ⟨Nat.zero_le _, Nat.zero_le _⟩ dX1_clear_5 (fun H locs hP hD hS => ?_)
  have hP : va_P D vwCl [(q_t, .inr (1, [.ref q_t_debts, .ref q_t_criers, .ref q_t_louds, .ref q_t_highs, .ref q_t_hours, .ref q_t_hearers, .ref q_t_minutes, .int v_t_cries, .int v_t_notes])), (q_t_debts, .inl (cI, 36, .inl z5_1)), (q_t_criers, .inl (cI, 20, .inl v_t_criers)), (q_t_louds, .inl (cI, 20, .inl v_t_louds)), (q_t_highs, .inl (cZ, 20, .inl v_t_highs)), (q_t_hours, .inl (cI, 20, .inl v_t_hours)), (q_t_hearers, .inl (cI, 12, .inl v_t_hearers)), (q_t_minutes, .inl (cI, 12, .inl v_t_minutes))] H := hP
  have hD : va_D A [(q_t, .inr (1, [.ref q_t_debts, .ref q_t_criers, .ref q_t_louds, .ref q_t_highs, .ref q_t_hours, .ref q_t_hearers, .ref q_t_minutes, .int v_t_cries, .int v_t_notes])), (q_t_debts, .inl (cI, 36, .inl z5_1)), (q_t_criers, .inl (cI, 20, .inl v_t_criers)), (q_t_louds, .inl (cI, 20, .inl v_t_louds)), (q_t_highs, .inl (cZ, 20, .inl v_t_highs)), (q_t_hours, .inl (cI, 20, .inl v_t_hours)), (q_t_hearers, .inl (cI, 12, .inl v_t_hearers)), (q_t_minutes, .inl (cI, 12, .inl v_t_minutes))] := hD
  refine lv_aload_n hx hb dX1_clear_8 rfl (lv_at hl 0 rfl) ?_
  refine lv_iconst (v := 0) hx hb dX1_clear_9 (by decide) ?_
  refine va_put (D := D) (ci := 1) (v := .int 0) (ty := .int) (C := RX1) (T := TX1) (N := 9) hx hb hts inX1 tyX1 tyX1_ok nmX1 hown hK hP hD hS 0 rfl rfl 7 (by decide) (hts _ w_185) (fun _ h9 => h9) rfl (by decide +kernel) rfl rfl (Nat.le_of_ble_eq_true rfl) dX1_clear_10 (fun H locs hP hD hS => ?_)
  have hP : va_P D vwCl [(q_t, .inr (1, [.ref q_t_debts, .ref q_t_criers, .ref q_t_louds, .ref q_t_highs, .ref q_t_hours, .ref q_t_hearers, .ref q_t_minutes, .int 0, .int v_t_notes])), (q_t_debts, .inl (cI, 36, .inl z5_1)), (q_t_criers, .inl (cI, 20, .inl v_t_criers)), (q_t_louds, .inl (cI, 20, .inl v_t_louds)), (q_t_highs, .inl (cZ, 20, .inl v_t_highs)), (q_t_hours, .inl (cI, 20, .inl v_t_hours)), (q_t_hearers, .inl (cI, 12, .inl v_t_hearers)), (q_t_minutes, .inl (cI, 12, .inl v_t_minutes))] H := hP
  have hD : va_D A [(q_t, .inr (1, [.ref q_t_debts, .ref q_t_criers, .ref q_t_louds, .ref q_t_highs, .ref q_t_hours, .ref q_t_hearers, .ref q_t_minutes, .int 0, .int v_t_notes])), (q_t_debts, .inl (cI, 36, .inl z5_1)), (q_t_criers, .inl (cI, 20, .inl v_t_criers)), (q_t_louds, .inl (cI, 20, .inl v_t_louds)), (q_t_highs, .inl (cZ, 20, .inl v_t_highs)), (q_t_hours, .inl (cI, 20, .inl v_t_hours)), (q_t_hearers, .inl (cI, 12, .inl v_t_hearers)), (q_t_minutes, .inl (cI, 12, .inl v_t_minutes))] := hD
  refine lv_aload_n hx hb dX1_clear_13 rfl (lv_at hl 0 rfl) ?_
  refine lv_iconst (v := 0) hx hb dX1_clear_14 (by decide) ?_
  refine va_put (D := D) (ci := 1) (v := .int 0) (ty := .int) (C := RX1) (T := TX1) (N := 9) hx hb hts inX1 tyX1 tyX1_ok nmX1 hown hK hP hD hS 0 rfl rfl 8 (by decide) (hts _ w_187) (fun _ h9 => h9) rfl (by decide +kernel) rfl rfl (Nat.le_of_ble_eq_true rfl) dX1_clear_15 (fun H locs hP hD hS => ?_)
  have hP : va_P D vwCl [(q_t, .inr (1, [.ref q_t_debts, .ref q_t_criers, .ref q_t_louds, .ref q_t_highs, .ref q_t_hours, .ref q_t_hearers, .ref q_t_minutes, .int 0, .int 0])), (q_t_debts, .inl (cI, 36, .inl z5_1)), (q_t_criers, .inl (cI, 20, .inl v_t_criers)), (q_t_louds, .inl (cI, 20, .inl v_t_louds)), (q_t_highs, .inl (cZ, 20, .inl v_t_highs)), (q_t_hours, .inl (cI, 20, .inl v_t_hours)), (q_t_hearers, .inl (cI, 12, .inl v_t_hearers)), (q_t_minutes, .inl (cI, 12, .inl v_t_minutes))] H := hP
  have hD : va_D A [(q_t, .inr (1, [.ref q_t_debts, .ref q_t_criers, .ref q_t_louds, .ref q_t_highs, .ref q_t_hours, .ref q_t_hearers, .ref q_t_minutes, .int 0, .int 0])), (q_t_debts, .inl (cI, 36, .inl z5_1)), (q_t_criers, .inl (cI, 20, .inl v_t_criers)), (q_t_louds, .inl (cI, 20, .inl v_t_louds)), (q_t_highs, .inl (cZ, 20, .inl v_t_highs)), (q_t_hours, .inl (cI, 20, .inl v_t_hours)), (q_t_hearers, .inl (cI, 12, .inl v_t_hearers)), (q_t_minutes, .inl (cI, 12, .inl v_t_minutes))] := hD
  cases hf
  exact rt_v hx hb hr hlocks hK hP hS dX1_clear_18

def f_X1_copyFrom_J126 (v_t_debts : Nat → Int32) (v_t_criers : Nat → Int32) (v_t_louds : Nat → Int32) (v_t_highs : Nat → Int32) (v_t_hours : Nat → Int32) (v_t_hearers : Nat → Int32) (v_t_minutes : Nat → Int32) (v_a1_cries : Int32) (v_a1_notes : Int32) : Option (Int32 × Int32 × (Nat → Int32) × (Nat → Int32) × (Nat → Int32) × (Nat → Int32) × (Nat → Int32) × (Nat → Int32) × (Nat → Int32)) :=
  (some (v_a1_cries, v_a1_notes, v_t_debts, v_t_criers, v_t_louds, v_t_highs, v_t_hours, v_t_hearers, v_t_minutes))
def f_X1_copyFrom_L90 (v_t_debts : Nat → Int32) (v_t_criers : Nat → Int32) (v_t_louds : Nat → Int32) (v_t_highs : Nat → Int32) (v_t_hours : Nat → Int32) (v_a1_cries : Int32) (v_a1_notes : Int32) (v_a1_hearers : Nat → Int32) (v_a1_minutes : Nat → Int32) : Nat → (Int32) → (Nat → Int32) → (Nat → Int32) → Option (Int32 × Int32 × (Nat → Int32) × (Nat → Int32) × (Nat → Int32) × (Nat → Int32) × (Nat → Int32) × (Nat → Int32) × (Nat → Int32))
  | 0, _, _, _ => none
  | n + 1, x2, v_t_hearers, v_t_minutes => (if 12 ≤ x2 then (f_X1_copyFrom_J126 v_t_debts v_t_criers v_t_louds v_t_highs v_t_hours v_t_hearers v_t_minutes v_a1_cries v_a1_notes) else gd (ib x2 12) (gd (ib x2 12) (gd (ib x2 12) (gd (ib x2 12) ((f_X1_copyFrom_L90 v_t_debts v_t_criers v_t_louds v_t_highs v_t_hours v_a1_cries v_a1_notes v_a1_hearers v_a1_minutes n (x2 + 1) (upd v_t_hearers (Int32.toNatClampNeg x2) (v_a1_hearers (Int32.toNatClampNeg x2))) (upd v_t_minutes (Int32.toNatClampNeg x2) (v_a1_minutes (Int32.toNatClampNeg x2)))))))))
def f_X1_copyFrom_J88 (v_t_debts : Nat → Int32) (v_t_criers : Nat → Int32) (v_t_louds : Nat → Int32) (v_t_highs : Nat → Int32) (v_t_hours : Nat → Int32) (v_t_hearers : Nat → Int32) (v_t_minutes : Nat → Int32) (v_a1_cries : Int32) (v_a1_notes : Int32) (v_a1_hearers : Nat → Int32) (v_a1_minutes : Nat → Int32) : Option (Int32 × Int32 × (Nat → Int32) × (Nat → Int32) × (Nat → Int32) × (Nat → Int32) × (Nat → Int32) × (Nat → Int32) × (Nat → Int32)) :=
  (f_X1_copyFrom_L90 v_t_debts v_t_criers v_t_louds v_t_highs v_t_hours v_a1_cries v_a1_notes v_a1_hearers v_a1_minutes FU 0 v_t_hearers v_t_minutes)
def f_X1_copyFrom_L28 (v_t_debts : Nat → Int32) (v_t_hearers : Nat → Int32) (v_t_minutes : Nat → Int32) (v_a1_cries : Int32) (v_a1_notes : Int32) (v_a1_criers : Nat → Int32) (v_a1_louds : Nat → Int32) (v_a1_highs : Nat → Int32) (v_a1_hours : Nat → Int32) (v_a1_hearers : Nat → Int32) (v_a1_minutes : Nat → Int32) : Nat → (Int32) → (Nat → Int32) → (Nat → Int32) → (Nat → Int32) → (Nat → Int32) → Option (Int32 × Int32 × (Nat → Int32) × (Nat → Int32) × (Nat → Int32) × (Nat → Int32) × (Nat → Int32) × (Nat → Int32) × (Nat → Int32))
  | 0, _, _, _, _, _ => none
  | n + 1, x2, v_t_criers, v_t_louds, v_t_highs, v_t_hours => (if 20 ≤ x2 then (f_X1_copyFrom_J88 v_t_debts v_t_criers v_t_louds v_t_highs v_t_hours v_t_hearers v_t_minutes v_a1_cries v_a1_notes v_a1_hearers v_a1_minutes) else gd (ib x2 20) (gd (ib x2 20) (gd (ib x2 20) (gd (ib x2 20) (gd (ib x2 20) (gd (ib x2 20) (gd (ib x2 20) (gd (ib x2 20) ((f_X1_copyFrom_L28 v_t_debts v_t_hearers v_t_minutes v_a1_cries v_a1_notes v_a1_criers v_a1_louds v_a1_highs v_a1_hours v_a1_hearers v_a1_minutes n (x2 + 1) (upd v_t_criers (Int32.toNatClampNeg x2) (v_a1_criers (Int32.toNatClampNeg x2))) (upd v_t_louds (Int32.toNatClampNeg x2) (v_a1_louds (Int32.toNatClampNeg x2))) (upd v_t_highs (Int32.toNatClampNeg x2) (vp_nar .boolean (v_a1_highs (Int32.toNatClampNeg x2)))) (upd v_t_hours (Int32.toNatClampNeg x2) (v_a1_hours (Int32.toNatClampNeg x2)))))))))))))
def f_X1_copyFrom_J26 (v_t_debts : Nat → Int32) (v_t_criers : Nat → Int32) (v_t_louds : Nat → Int32) (v_t_highs : Nat → Int32) (v_t_hours : Nat → Int32) (v_t_hearers : Nat → Int32) (v_t_minutes : Nat → Int32) (v_a1_cries : Int32) (v_a1_notes : Int32) (v_a1_criers : Nat → Int32) (v_a1_louds : Nat → Int32) (v_a1_highs : Nat → Int32) (v_a1_hours : Nat → Int32) (v_a1_hearers : Nat → Int32) (v_a1_minutes : Nat → Int32) : Option (Int32 × Int32 × (Nat → Int32) × (Nat → Int32) × (Nat → Int32) × (Nat → Int32) × (Nat → Int32) × (Nat → Int32) × (Nat → Int32)) :=
  (f_X1_copyFrom_L28 v_t_debts v_t_hearers v_t_minutes v_a1_cries v_a1_notes v_a1_criers v_a1_louds v_a1_highs v_a1_hours v_a1_hearers v_a1_minutes FU 0 v_t_criers v_t_louds v_t_highs v_t_hours)
def f_X1_copyFrom_L2 (v_t_criers : Nat → Int32) (v_t_louds : Nat → Int32) (v_t_highs : Nat → Int32) (v_t_hours : Nat → Int32) (v_t_hearers : Nat → Int32) (v_t_minutes : Nat → Int32) (v_a1_cries : Int32) (v_a1_notes : Int32) (v_a1_debts : Nat → Int32) (v_a1_criers : Nat → Int32) (v_a1_louds : Nat → Int32) (v_a1_highs : Nat → Int32) (v_a1_hours : Nat → Int32) (v_a1_hearers : Nat → Int32) (v_a1_minutes : Nat → Int32) : Nat → (Int32) → (Nat → Int32) → Option (Int32 × Int32 × (Nat → Int32) × (Nat → Int32) × (Nat → Int32) × (Nat → Int32) × (Nat → Int32) × (Nat → Int32) × (Nat → Int32))
  | 0, _, _ => none
  | n + 1, x2, v_t_debts => (if 36 ≤ x2 then (f_X1_copyFrom_J26 v_t_debts v_t_criers v_t_louds v_t_highs v_t_hours v_t_hearers v_t_minutes v_a1_cries v_a1_notes v_a1_criers v_a1_louds v_a1_highs v_a1_hours v_a1_hearers v_a1_minutes) else gd (ib x2 36) (gd (ib x2 36) ((f_X1_copyFrom_L2 v_t_criers v_t_louds v_t_highs v_t_hours v_t_hearers v_t_minutes v_a1_cries v_a1_notes v_a1_debts v_a1_criers v_a1_louds v_a1_highs v_a1_hours v_a1_hearers v_a1_minutes n (x2 + 1) (upd v_t_debts (Int32.toNatClampNeg x2) (v_a1_debts (Int32.toNatClampNeg x2)))))))
def f_X1_copyFrom (v_t_cries : Int32) (v_t_notes : Int32) (v_t_debts : Nat → Int32) (v_t_criers : Nat → Int32) (v_t_louds : Nat → Int32) (v_t_highs : Nat → Int32) (v_t_hours : Nat → Int32) (v_t_hearers : Nat → Int32) (v_t_minutes : Nat → Int32) (v_a1_cries : Int32) (v_a1_notes : Int32) (v_a1_debts : Nat → Int32) (v_a1_criers : Nat → Int32) (v_a1_louds : Nat → Int32) (v_a1_highs : Nat → Int32) (v_a1_hours : Nat → Int32) (v_a1_hearers : Nat → Int32) (v_a1_minutes : Nat → Int32) : Option (Int32 × Int32 × (Nat → Int32) × (Nat → Int32) × (Nat → Int32) × (Nat → Int32) × (Nat → Int32) × (Nat → Int32) × (Nat → Int32)) :=
  (f_X1_copyFrom_L2 v_t_criers v_t_louds v_t_highs v_t_hours v_t_hearers v_t_minutes v_a1_cries v_a1_notes v_a1_debts v_a1_criers v_a1_louds v_a1_highs v_a1_hours v_a1_hearers v_a1_minutes FU 0 v_t_debts)
theorem gv_X1_copyFrom {own : String} {idx : Nat} (h : Cond.methodLink own idx yX1_copyFrom ∈ lw_g) : GoodIn lw_g (wsV own idx RX1 yX1_copyFrom (Cond.code yX1_copyFrom cX1_copyFrom 3 none :: lw_g)) := gV h w_879 w_880 w_62 w_881
theorem hd_X1_copyFrom : yX1_copyFrom.cls = RX1 ∧ yX1_copyFrom.cls ≠ "java/lang/invoke/MethodHandle" ∧ yX1_copyFrom.cls ≠ "java/lang/invoke/VarHandle" ∧ (parseMethodDescriptor yX1_copyFrom.desc).map (fun d => d.parameters.length) = some 1 := by decide +kernel
set_option maxHeartbeats 4000000 in
set_option maxRecDepth 100000 in
theorem c_X1_copyFrom (l : Launch) (D : va_G) (cI cJ cZ : ClassId) (en : EnT) (q_t q_t_debts q_t_criers q_t_louds q_t_highs q_t_hours q_t_hearers q_t_minutes q_a1 q_a1_debts q_a1_criers q_a1_louds q_a1_highs q_a1_hours q_a1_hearers q_a1_minutes : Nat) (sz : Nat) (v_t_cries : Int32) (v_t_notes : Int32) (v_t_debts : Nat → Int32) (v_t_criers : Nat → Int32) (v_t_louds : Nat → Int32) (v_t_highs : Nat → Int32) (v_t_hours : Nat → Int32) (v_t_hearers : Nat → Int32) (v_t_minutes : Nat → Int32) (v_a1_cries : Int32) (v_a1_notes : Int32) (v_a1_debts : Nat → Int32) (v_a1_criers : Nat → Int32) (v_a1_louds : Nat → Int32) (v_a1_highs : Nat → Int32) (v_a1_hours : Nat → Int32) (v_a1_hearers : Nat → Int32) (v_a1_minutes : Nat → Int32) {z : Int32 × Int32 × (Nat → Int32) × (Nat → Int32) × (Nat → Int32) × (Nat → Int32) × (Nat → Int32) × (Nat → Int32) × (Nat → Int32)} (hf : f_X1_copyFrom v_t_cries v_t_notes v_t_debts v_t_criers v_t_louds v_t_highs v_t_hours v_t_hearers v_t_minutes v_a1_cries v_a1_notes v_a1_debts v_a1_criers v_a1_louds v_a1_highs v_a1_hours v_a1_hearers v_a1_minutes = some z) : Met l yX1_copyFrom (Cond.code yX1_copyFrom cX1_copyFrom 3 none :: lw_g) ({ frames := 0, cells := 0, slots := 0, locals := 0 } : Room) (PC D cI cJ cZ en ([.ref q_t, .ref q_a1] : List Value) [(q_t, .inr (1, [.ref q_t_debts, .ref q_t_criers, .ref q_t_louds, .ref q_t_highs, .ref q_t_hours, .ref q_t_hearers, .ref q_t_minutes, .int v_t_cries, .int v_t_notes])), (q_t_debts, .inl (cI, 36, .inl v_t_debts)), (q_t_criers, .inl (cI, 20, .inl v_t_criers)), (q_t_louds, .inl (cI, 20, .inl v_t_louds)), (q_t_highs, .inl (cZ, 20, .inl v_t_highs)), (q_t_hours, .inl (cI, 20, .inl v_t_hours)), (q_t_hearers, .inl (cI, 12, .inl v_t_hearers)), (q_t_minutes, .inl (cI, 12, .inl v_t_minutes)), (q_a1, .inr (1, [.ref q_a1_debts, .ref q_a1_criers, .ref q_a1_louds, .ref q_a1_highs, .ref q_a1_hours, .ref q_a1_hearers, .ref q_a1_minutes, .int v_a1_cries, .int v_a1_notes])), (q_a1_debts, .inl (cI, 36, .inl v_a1_debts)), (q_a1_criers, .inl (cI, 20, .inl v_a1_criers)), (q_a1_louds, .inl (cI, 20, .inl v_a1_louds)), (q_a1_highs, .inl (cZ, 20, .inl v_a1_highs)), (q_a1_hours, .inl (cI, 20, .inl v_a1_hours)), (q_a1_hearers, .inl (cI, 12, .inl v_a1_hearers)), (q_a1_minutes, .inl (cI, 12, .inl v_a1_minutes))] sz) (QV D cI cJ cZ [(q_t, .inr (1, [.ref q_t_debts, .ref q_t_criers, .ref q_t_louds, .ref q_t_highs, .ref q_t_hours, .ref q_t_hearers, .ref q_t_minutes, .int z.1, .int z.2.1])), (q_t_debts, .inl (cI, 36, .inl z.2.2.1)), (q_t_criers, .inl (cI, 20, .inl z.2.2.2.1)), (q_t_louds, .inl (cI, 20, .inl z.2.2.2.2.1)), (q_t_highs, .inl (cZ, 20, .inl z.2.2.2.2.2.1)), (q_t_hours, .inl (cI, 20, .inl z.2.2.2.2.2.2.1)), (q_t_hearers, .inl (cI, 12, .inl z.2.2.2.2.2.2.2.1)), (q_t_minutes, .inl (cI, 12, .inl z.2.2.2.2.2.2.2.2)), (q_a1, .inr (1, [.ref q_a1_debts, .ref q_a1_criers, .ref q_a1_louds, .ref q_a1_highs, .ref q_a1_hours, .ref q_a1_hearers, .ref q_a1_minutes, .int v_a1_cries, .int v_a1_notes])), (q_a1_debts, .inl (cI, 36, .inl v_a1_debts)), (q_a1_criers, .inl (cI, 20, .inl v_a1_criers)), (q_a1_louds, .inl (cI, 20, .inl v_a1_louds)), (q_a1_highs, .inl (cZ, 20, .inl v_a1_highs)), (q_a1_hours, .inl (cI, 20, .inl v_a1_hours)), (q_a1_hearers, .inl (cI, 12, .inl v_a1_hearers)), (q_a1_minutes, .inl (cI, 12, .inl v_a1_minutes))] (va_A [(q_t, .inr (1, [.ref q_t_debts, .ref q_t_criers, .ref q_t_louds, .ref q_t_highs, .ref q_t_hours, .ref q_t_hearers, .ref q_t_minutes, .int v_t_cries, .int v_t_notes])), (q_t_debts, .inl (cI, 36, .inl v_t_debts)), (q_t_criers, .inl (cI, 20, .inl v_t_criers)), (q_t_louds, .inl (cI, 20, .inl v_t_louds)), (q_t_highs, .inl (cZ, 20, .inl v_t_highs)), (q_t_hours, .inl (cI, 20, .inl v_t_hours)), (q_t_hearers, .inl (cI, 12, .inl v_t_hearers)), (q_t_minutes, .inl (cI, 12, .inl v_t_minutes)), (q_a1, .inr (1, [.ref q_a1_debts, .ref q_a1_criers, .ref q_a1_louds, .ref q_a1_highs, .ref q_a1_hours, .ref q_a1_hearers, .ref q_a1_minutes, .int v_a1_cries, .int v_a1_notes])), (q_a1_debts, .inl (cI, 36, .inl v_a1_debts)), (q_a1_criers, .inl (cI, 20, .inl v_a1_criers)), (q_a1_louds, .inl (cI, 20, .inl v_a1_louds)), (q_a1_highs, .inl (cZ, 20, .inl v_a1_highs)), (q_a1_hours, .inl (cI, 20, .inl v_a1_hours)), (q_a1_hearers, .inl (cI, 12, .inl v_a1_hearers)), (q_a1_minutes, .inl (cI, 12, .inl v_a1_minutes))] sz)) 0 0 (va_A [(q_t, .inr (1, [.ref q_t_debts, .ref q_t_criers, .ref q_t_louds, .ref q_t_highs, .ref q_t_hours, .ref q_t_hearers, .ref q_t_minutes, .int v_t_cries, .int v_t_notes])), (q_t_debts, .inl (cI, 36, .inl v_t_debts)), (q_t_criers, .inl (cI, 20, .inl v_t_criers)), (q_t_louds, .inl (cI, 20, .inl v_t_louds)), (q_t_highs, .inl (cZ, 20, .inl v_t_highs)), (q_t_hours, .inl (cI, 20, .inl v_t_hours)), (q_t_hearers, .inl (cI, 12, .inl v_t_hearers)), (q_t_minutes, .inl (cI, 12, .inl v_t_minutes)), (q_a1, .inr (1, [.ref q_a1_debts, .ref q_a1_criers, .ref q_a1_louds, .ref q_a1_highs, .ref q_a1_hours, .ref q_a1_hearers, .ref q_a1_minutes, .int v_a1_cries, .int v_a1_notes])), (q_a1_debts, .inl (cI, 36, .inl v_a1_debts)), (q_a1_criers, .inl (cI, 20, .inl v_a1_criers)), (q_a1_louds, .inl (cI, 20, .inl v_a1_louds)), (q_a1_highs, .inl (cZ, 20, .inl v_a1_highs)), (q_a1_hours, .inl (cI, 20, .inl v_a1_hours)), (q_a1_hearers, .inl (cI, 12, .inl v_a1_hearers)), (q_a1_minutes, .inl (cI, 12, .inl v_a1_minutes))] sz) := by
  refine mk_met (Qc := fun A => (QV D cI cJ cZ [(q_t, .inr (1, [.ref q_t_debts, .ref q_t_criers, .ref q_t_louds, .ref q_t_highs, .ref q_t_hours, .ref q_t_hearers, .ref q_t_minutes, .int z.1, .int z.2.1])), (q_t_debts, .inl (cI, 36, .inl z.2.2.1)), (q_t_criers, .inl (cI, 20, .inl z.2.2.2.1)), (q_t_louds, .inl (cI, 20, .inl z.2.2.2.2.1)), (q_t_highs, .inl (cZ, 20, .inl z.2.2.2.2.2.1)), (q_t_hours, .inl (cI, 20, .inl z.2.2.2.2.2.2.1)), (q_t_hearers, .inl (cI, 12, .inl z.2.2.2.2.2.2.2.1)), (q_t_minutes, .inl (cI, 12, .inl z.2.2.2.2.2.2.2.2)), (q_a1, .inr (1, [.ref q_a1_debts, .ref q_a1_criers, .ref q_a1_louds, .ref q_a1_highs, .ref q_a1_hours, .ref q_a1_hearers, .ref q_a1_minutes, .int v_a1_cries, .int v_a1_notes])), (q_a1_debts, .inl (cI, 36, .inl v_a1_debts)), (q_a1_criers, .inl (cI, 20, .inl v_a1_criers)), (q_a1_louds, .inl (cI, 20, .inl v_a1_louds)), (q_a1_highs, .inl (cZ, 20, .inl v_a1_highs)), (q_a1_hours, .inl (cI, 20, .inl v_a1_hours)), (q_a1_hearers, .inl (cI, 12, .inl v_a1_hearers)), (q_a1_minutes, .inl (cI, 12, .inl v_a1_minutes))] A)) RX1 (by decide) rfl (Nat.le_of_ble_eq_true rfl) ?_
  intro p e s m below meth c ls A hx hb hr hml hown hts hlocks hA hK hE hl hD H locs hP hS
  have hl : lv_has ls 3 [(0, .ref q_t), (1, .ref q_a1)] := hl
  unfold f_X1_copyFrom at hf
  refine lv_iconst (v := 0) hx hb dX1_copyFrom_0 (by decide) ?_
  refine lv_istore_n (lv' := [(2, .int 0), (0, .ref q_t), (1, .ref q_a1)]) hx hb dX1_copyFrom_1 rfl hl (by decide) rfl (fun ls hl => ?_)
  have L2_3 : ∀ (n : Nat) (x2_1 : Int32) (v_t_debts_2 : Nat → Int32), f_X1_copyFrom_L2 v_t_criers v_t_louds v_t_highs v_t_hours v_t_hearers v_t_minutes v_a1_cries v_a1_notes v_a1_debts v_a1_criers v_a1_louds v_a1_highs v_a1_hours v_a1_hearers v_a1_minutes n x2_1 v_t_debts_2 = some z → ∀ (H : Heap) (locs : List Loc) (ls : Array Slot), va_P D vwCl [(q_t, .inr (1, [.ref q_t_debts, .ref q_t_criers, .ref q_t_louds, .ref q_t_highs, .ref q_t_hours, .ref q_t_hearers, .ref q_t_minutes, .int v_t_cries, .int v_t_notes])), (q_t_debts, .inl (cI, 36, .inl v_t_debts_2)), (q_t_criers, .inl (cI, 20, .inl v_t_criers)), (q_t_louds, .inl (cI, 20, .inl v_t_louds)), (q_t_highs, .inl (cZ, 20, .inl v_t_highs)), (q_t_hours, .inl (cI, 20, .inl v_t_hours)), (q_t_hearers, .inl (cI, 12, .inl v_t_hearers)), (q_t_minutes, .inl (cI, 12, .inl v_t_minutes)), (q_a1, .inr (1, [.ref q_a1_debts, .ref q_a1_criers, .ref q_a1_louds, .ref q_a1_highs, .ref q_a1_hours, .ref q_a1_hearers, .ref q_a1_minutes, .int v_a1_cries, .int v_a1_notes])), (q_a1_debts, .inl (cI, 36, .inl v_a1_debts)), (q_a1_criers, .inl (cI, 20, .inl v_a1_criers)), (q_a1_louds, .inl (cI, 20, .inl v_a1_louds)), (q_a1_highs, .inl (cZ, 20, .inl v_a1_highs)), (q_a1_hours, .inl (cI, 20, .inl v_a1_hours)), (q_a1_hearers, .inl (cI, 12, .inl v_a1_hearers)), (q_a1_minutes, .inl (cI, 12, .inl v_a1_minutes))] H → va_D A [(q_t, .inr (1, [.ref q_t_debts, .ref q_t_criers, .ref q_t_louds, .ref q_t_highs, .ref q_t_hours, .ref q_t_hearers, .ref q_t_minutes, .int v_t_cries, .int v_t_notes])), (q_t_debts, .inl (cI, 36, .inl v_t_debts_2)), (q_t_criers, .inl (cI, 20, .inl v_t_criers)), (q_t_louds, .inl (cI, 20, .inl v_t_louds)), (q_t_highs, .inl (cZ, 20, .inl v_t_highs)), (q_t_hours, .inl (cI, 20, .inl v_t_hours)), (q_t_hearers, .inl (cI, 12, .inl v_t_hearers)), (q_t_minutes, .inl (cI, 12, .inl v_t_minutes)), (q_a1, .inr (1, [.ref q_a1_debts, .ref q_a1_criers, .ref q_a1_louds, .ref q_a1_highs, .ref q_a1_hours, .ref q_a1_hearers, .ref q_a1_minutes, .int v_a1_cries, .int v_a1_notes])), (q_a1_debts, .inl (cI, 36, .inl v_a1_debts)), (q_a1_criers, .inl (cI, 20, .inl v_a1_criers)), (q_a1_louds, .inl (cI, 20, .inl v_a1_louds)), (q_a1_highs, .inl (cZ, 20, .inl v_a1_highs)), (q_a1_hours, .inl (cI, 20, .inl v_a1_hours)), (q_a1_hearers, .inl (cI, 12, .inl v_a1_hearers)), (q_a1_minutes, .inl (cI, 12, .inl v_a1_minutes))] → va_S A s.heap H locs → lv_has ls 3 [(0, .ref q_t), (1, .ref q_a1), (2, .int x2_1)] → W p l e ({ frames := 0, cells := 0, slots := 0, locals := 0 } : Room) s m ([.ref q_t, .ref q_a1] : List Value).toArray below meth c H locs 0 0 (MQ below (QV D cI cJ cZ [(q_t, .inr (1, [.ref q_t_debts, .ref q_t_criers, .ref q_t_louds, .ref q_t_highs, .ref q_t_hours, .ref q_t_hearers, .ref q_t_minutes, .int z.1, .int z.2.1])), (q_t_debts, .inl (cI, 36, .inl z.2.2.1)), (q_t_criers, .inl (cI, 20, .inl z.2.2.2.1)), (q_t_louds, .inl (cI, 20, .inl z.2.2.2.2.1)), (q_t_highs, .inl (cZ, 20, .inl z.2.2.2.2.2.1)), (q_t_hours, .inl (cI, 20, .inl z.2.2.2.2.2.2.1)), (q_t_hearers, .inl (cI, 12, .inl z.2.2.2.2.2.2.2.1)), (q_t_minutes, .inl (cI, 12, .inl z.2.2.2.2.2.2.2.2)), (q_a1, .inr (1, [.ref q_a1_debts, .ref q_a1_criers, .ref q_a1_louds, .ref q_a1_highs, .ref q_a1_hours, .ref q_a1_hearers, .ref q_a1_minutes, .int v_a1_cries, .int v_a1_notes])), (q_a1_debts, .inl (cI, 36, .inl v_a1_debts)), (q_a1_criers, .inl (cI, 20, .inl v_a1_criers)), (q_a1_louds, .inl (cI, 20, .inl v_a1_louds)), (q_a1_highs, .inl (cZ, 20, .inl v_a1_highs)), (q_a1_hours, .inl (cI, 20, .inl v_a1_hours)), (q_a1_hearers, .inl (cI, 12, .inl v_a1_hearers)), (q_a1_minutes, .inl (cI, 12, .inl v_a1_minutes))] A) ([.ref q_t, .ref q_a1] : List Value).toArray s 0 0 A) (F0 m 2 ls []) := by
    intro n
    induction n with
    | zero =>
      intro x2_1 v_t_debts_2 hf
      cases hf
    | succ n ih_4 =>
      intro x2_1 v_t_debts_2 hf H locs ls hP hD hS hl
      rw [f_X1_copyFrom_L2] at hf
      refine lv_iload_n hx hb dX1_copyFrom_2 rfl (lv_at hl 2 rfl) ?_
      refine lv_bipush (v := 36) hx hb dX1_copyFrom_3 (by decide) ?_
      refine lv_icmp_ge (tgt := 26) hx hb dX1_copyFrom_5 (by decide) (fun h_5 => ?_) (fun h_5 => ?_)
      · have hf := (if_pos h_5).symm.trans hf
        unfold f_X1_copyFrom_J26 at hf
        refine lv_iconst (v := 0) hx hb dX1_copyFrom_26 (by decide) ?_
        refine lv_istore_n (lv' := [(2, .int 0), (0, .ref q_t), (1, .ref q_a1)]) hx hb dX1_copyFrom_27 rfl hl (by decide) rfl (fun ls hl => ?_)
        have L28_11 : ∀ (n : Nat) (x2_6 : Int32) (v_t_criers_7 : Nat → Int32) (v_t_louds_8 : Nat → Int32) (v_t_highs_9 : Nat → Int32) (v_t_hours_10 : Nat → Int32), f_X1_copyFrom_L28 v_t_debts_2 v_t_hearers v_t_minutes v_a1_cries v_a1_notes v_a1_criers v_a1_louds v_a1_highs v_a1_hours v_a1_hearers v_a1_minutes n x2_6 v_t_criers_7 v_t_louds_8 v_t_highs_9 v_t_hours_10 = some z → ∀ (H : Heap) (locs : List Loc) (ls : Array Slot), va_P D vwCl [(q_t, .inr (1, [.ref q_t_debts, .ref q_t_criers, .ref q_t_louds, .ref q_t_highs, .ref q_t_hours, .ref q_t_hearers, .ref q_t_minutes, .int v_t_cries, .int v_t_notes])), (q_t_debts, .inl (cI, 36, .inl v_t_debts_2)), (q_t_criers, .inl (cI, 20, .inl v_t_criers_7)), (q_t_louds, .inl (cI, 20, .inl v_t_louds_8)), (q_t_highs, .inl (cZ, 20, .inl v_t_highs_9)), (q_t_hours, .inl (cI, 20, .inl v_t_hours_10)), (q_t_hearers, .inl (cI, 12, .inl v_t_hearers)), (q_t_minutes, .inl (cI, 12, .inl v_t_minutes)), (q_a1, .inr (1, [.ref q_a1_debts, .ref q_a1_criers, .ref q_a1_louds, .ref q_a1_highs, .ref q_a1_hours, .ref q_a1_hearers, .ref q_a1_minutes, .int v_a1_cries, .int v_a1_notes])), (q_a1_debts, .inl (cI, 36, .inl v_a1_debts)), (q_a1_criers, .inl (cI, 20, .inl v_a1_criers)), (q_a1_louds, .inl (cI, 20, .inl v_a1_louds)), (q_a1_highs, .inl (cZ, 20, .inl v_a1_highs)), (q_a1_hours, .inl (cI, 20, .inl v_a1_hours)), (q_a1_hearers, .inl (cI, 12, .inl v_a1_hearers)), (q_a1_minutes, .inl (cI, 12, .inl v_a1_minutes))] H → va_D A [(q_t, .inr (1, [.ref q_t_debts, .ref q_t_criers, .ref q_t_louds, .ref q_t_highs, .ref q_t_hours, .ref q_t_hearers, .ref q_t_minutes, .int v_t_cries, .int v_t_notes])), (q_t_debts, .inl (cI, 36, .inl v_t_debts_2)), (q_t_criers, .inl (cI, 20, .inl v_t_criers_7)), (q_t_louds, .inl (cI, 20, .inl v_t_louds_8)), (q_t_highs, .inl (cZ, 20, .inl v_t_highs_9)), (q_t_hours, .inl (cI, 20, .inl v_t_hours_10)), (q_t_hearers, .inl (cI, 12, .inl v_t_hearers)), (q_t_minutes, .inl (cI, 12, .inl v_t_minutes)), (q_a1, .inr (1, [.ref q_a1_debts, .ref q_a1_criers, .ref q_a1_louds, .ref q_a1_highs, .ref q_a1_hours, .ref q_a1_hearers, .ref q_a1_minutes, .int v_a1_cries, .int v_a1_notes])), (q_a1_debts, .inl (cI, 36, .inl v_a1_debts)), (q_a1_criers, .inl (cI, 20, .inl v_a1_criers)), (q_a1_louds, .inl (cI, 20, .inl v_a1_louds)), (q_a1_highs, .inl (cZ, 20, .inl v_a1_highs)), (q_a1_hours, .inl (cI, 20, .inl v_a1_hours)), (q_a1_hearers, .inl (cI, 12, .inl v_a1_hearers)), (q_a1_minutes, .inl (cI, 12, .inl v_a1_minutes))] → va_S A s.heap H locs → lv_has ls 3 [(0, .ref q_t), (1, .ref q_a1), (2, .int x2_6)] → W p l e ({ frames := 0, cells := 0, slots := 0, locals := 0 } : Room) s m ([.ref q_t, .ref q_a1] : List Value).toArray below meth c H locs 0 0 (MQ below (QV D cI cJ cZ [(q_t, .inr (1, [.ref q_t_debts, .ref q_t_criers, .ref q_t_louds, .ref q_t_highs, .ref q_t_hours, .ref q_t_hearers, .ref q_t_minutes, .int z.1, .int z.2.1])), (q_t_debts, .inl (cI, 36, .inl z.2.2.1)), (q_t_criers, .inl (cI, 20, .inl z.2.2.2.1)), (q_t_louds, .inl (cI, 20, .inl z.2.2.2.2.1)), (q_t_highs, .inl (cZ, 20, .inl z.2.2.2.2.2.1)), (q_t_hours, .inl (cI, 20, .inl z.2.2.2.2.2.2.1)), (q_t_hearers, .inl (cI, 12, .inl z.2.2.2.2.2.2.2.1)), (q_t_minutes, .inl (cI, 12, .inl z.2.2.2.2.2.2.2.2)), (q_a1, .inr (1, [.ref q_a1_debts, .ref q_a1_criers, .ref q_a1_louds, .ref q_a1_highs, .ref q_a1_hours, .ref q_a1_hearers, .ref q_a1_minutes, .int v_a1_cries, .int v_a1_notes])), (q_a1_debts, .inl (cI, 36, .inl v_a1_debts)), (q_a1_criers, .inl (cI, 20, .inl v_a1_criers)), (q_a1_louds, .inl (cI, 20, .inl v_a1_louds)), (q_a1_highs, .inl (cZ, 20, .inl v_a1_highs)), (q_a1_hours, .inl (cI, 20, .inl v_a1_hours)), (q_a1_hearers, .inl (cI, 12, .inl v_a1_hearers)), (q_a1_minutes, .inl (cI, 12, .inl v_a1_minutes))] A) ([.ref q_t, .ref q_a1] : List Value).toArray s 0 0 A) (F0 m 28 ls []) := by
          intro n
          induction n with
          | zero =>
            intro x2_6 v_t_criers_7 v_t_louds_8 v_t_highs_9 v_t_hours_10 hf
            cases hf
          | succ n ih_12 =>
            intro x2_6 v_t_criers_7 v_t_louds_8 v_t_highs_9 v_t_hours_10 hf H locs ls hP hD hS hl
            rw [f_X1_copyFrom_L28] at hf
            refine lv_iload_n hx hb dX1_copyFrom_28 rfl (lv_at hl 2 rfl) ?_
            refine lv_bipush (v := 20) hx hb dX1_copyFrom_29 (by decide) ?_
            refine lv_icmp_ge (tgt := 88) hx hb dX1_copyFrom_31 (by decide) (fun h_13 => ?_) (fun h_13 => ?_)
            · have hf := (if_pos h_13).symm.trans hf
              unfold f_X1_copyFrom_J88 at hf
              refine lv_iconst (v := 0) hx hb dX1_copyFrom_88 (by decide) ?_
              refine lv_istore_n (lv' := [(2, .int 0), (0, .ref q_t), (1, .ref q_a1)]) hx hb dX1_copyFrom_89 rfl hl (by decide) rfl (fun ls hl => ?_)
              have L90_17 : ∀ (n : Nat) (x2_14 : Int32) (v_t_hearers_15 : Nat → Int32) (v_t_minutes_16 : Nat → Int32), f_X1_copyFrom_L90 v_t_debts_2 v_t_criers_7 v_t_louds_8 v_t_highs_9 v_t_hours_10 v_a1_cries v_a1_notes v_a1_hearers v_a1_minutes n x2_14 v_t_hearers_15 v_t_minutes_16 = some z → ∀ (H : Heap) (locs : List Loc) (ls : Array Slot), va_P D vwCl [(q_t, .inr (1, [.ref q_t_debts, .ref q_t_criers, .ref q_t_louds, .ref q_t_highs, .ref q_t_hours, .ref q_t_hearers, .ref q_t_minutes, .int v_t_cries, .int v_t_notes])), (q_t_debts, .inl (cI, 36, .inl v_t_debts_2)), (q_t_criers, .inl (cI, 20, .inl v_t_criers_7)), (q_t_louds, .inl (cI, 20, .inl v_t_louds_8)), (q_t_highs, .inl (cZ, 20, .inl v_t_highs_9)), (q_t_hours, .inl (cI, 20, .inl v_t_hours_10)), (q_t_hearers, .inl (cI, 12, .inl v_t_hearers_15)), (q_t_minutes, .inl (cI, 12, .inl v_t_minutes_16)), (q_a1, .inr (1, [.ref q_a1_debts, .ref q_a1_criers, .ref q_a1_louds, .ref q_a1_highs, .ref q_a1_hours, .ref q_a1_hearers, .ref q_a1_minutes, .int v_a1_cries, .int v_a1_notes])), (q_a1_debts, .inl (cI, 36, .inl v_a1_debts)), (q_a1_criers, .inl (cI, 20, .inl v_a1_criers)), (q_a1_louds, .inl (cI, 20, .inl v_a1_louds)), (q_a1_highs, .inl (cZ, 20, .inl v_a1_highs)), (q_a1_hours, .inl (cI, 20, .inl v_a1_hours)), (q_a1_hearers, .inl (cI, 12, .inl v_a1_hearers)), (q_a1_minutes, .inl (cI, 12, .inl v_a1_minutes))] H → va_D A [(q_t, .inr (1, [.ref q_t_debts, .ref q_t_criers, .ref q_t_louds, .ref q_t_highs, .ref q_t_hours, .ref q_t_hearers, .ref q_t_minutes, .int v_t_cries, .int v_t_notes])), (q_t_debts, .inl (cI, 36, .inl v_t_debts_2)), (q_t_criers, .inl (cI, 20, .inl v_t_criers_7)), (q_t_louds, .inl (cI, 20, .inl v_t_louds_8)), (q_t_highs, .inl (cZ, 20, .inl v_t_highs_9)), (q_t_hours, .inl (cI, 20, .inl v_t_hours_10)), (q_t_hearers, .inl (cI, 12, .inl v_t_hearers_15)), (q_t_minutes, .inl (cI, 12, .inl v_t_minutes_16)), (q_a1, .inr (1, [.ref q_a1_debts, .ref q_a1_criers, .ref q_a1_louds, .ref q_a1_highs, .ref q_a1_hours, .ref q_a1_hearers, .ref q_a1_minutes, .int v_a1_cries, .int v_a1_notes])), (q_a1_debts, .inl (cI, 36, .inl v_a1_debts)), (q_a1_criers, .inl (cI, 20, .inl v_a1_criers)), (q_a1_louds, .inl (cI, 20, .inl v_a1_louds)), (q_a1_highs, .inl (cZ, 20, .inl v_a1_highs)), (q_a1_hours, .inl (cI, 20, .inl v_a1_hours)), (q_a1_hearers, .inl (cI, 12, .inl v_a1_hearers)), (q_a1_minutes, .inl (cI, 12, .inl v_a1_minutes))] → va_S A s.heap H locs → lv_has ls 3 [(0, .ref q_t), (1, .ref q_a1), (2, .int x2_14)] → W p l e ({ frames := 0, cells := 0, slots := 0, locals := 0 } : Room) s m ([.ref q_t, .ref q_a1] : List Value).toArray below meth c H locs 0 0 (MQ below (QV D cI cJ cZ [(q_t, .inr (1, [.ref q_t_debts, .ref q_t_criers, .ref q_t_louds, .ref q_t_highs, .ref q_t_hours, .ref q_t_hearers, .ref q_t_minutes, .int z.1, .int z.2.1])), (q_t_debts, .inl (cI, 36, .inl z.2.2.1)), (q_t_criers, .inl (cI, 20, .inl z.2.2.2.1)), (q_t_louds, .inl (cI, 20, .inl z.2.2.2.2.1)), (q_t_highs, .inl (cZ, 20, .inl z.2.2.2.2.2.1)), (q_t_hours, .inl (cI, 20, .inl z.2.2.2.2.2.2.1)), (q_t_hearers, .inl (cI, 12, .inl z.2.2.2.2.2.2.2.1)), (q_t_minutes, .inl (cI, 12, .inl z.2.2.2.2.2.2.2.2)), (q_a1, .inr (1, [.ref q_a1_debts, .ref q_a1_criers, .ref q_a1_louds, .ref q_a1_highs, .ref q_a1_hours, .ref q_a1_hearers, .ref q_a1_minutes, .int v_a1_cries, .int v_a1_notes])), (q_a1_debts, .inl (cI, 36, .inl v_a1_debts)), (q_a1_criers, .inl (cI, 20, .inl v_a1_criers)), (q_a1_louds, .inl (cI, 20, .inl v_a1_louds)), (q_a1_highs, .inl (cZ, 20, .inl v_a1_highs)), (q_a1_hours, .inl (cI, 20, .inl v_a1_hours)), (q_a1_hearers, .inl (cI, 12, .inl v_a1_hearers)), (q_a1_minutes, .inl (cI, 12, .inl v_a1_minutes))] A) ([.ref q_t, .ref q_a1] : List Value).toArray s 0 0 A) (F0 m 90 ls []) := by
                intro n
                induction n with
                | zero =>
                  intro x2_14 v_t_hearers_15 v_t_minutes_16 hf
                  cases hf
                | succ n ih_18 =>
                  intro x2_14 v_t_hearers_15 v_t_minutes_16 hf H locs ls hP hD hS hl
                  rw [f_X1_copyFrom_L90] at hf
                  refine lv_iload_n hx hb dX1_copyFrom_90 rfl (lv_at hl 2 rfl) ?_
                  refine lv_bipush (v := 12) hx hb dX1_copyFrom_91 (by decide) ?_
                  refine lv_icmp_ge (tgt := 126) hx hb dX1_copyFrom_93 (by decide) (fun h_19 => ?_) (fun h_19 => ?_)
                  · have hf := (if_pos h_19).symm.trans hf
                    unfold f_X1_copyFrom_J126 at hf
                    refine lv_aload_n hx hb dX1_copyFrom_126 rfl (lv_at hl 0 rfl) ?_
                    refine lv_aload_n hx hb dX1_copyFrom_127 rfl (lv_at hl 1 rfl) ?_
                    refine va_get (D := D) (ci := 1) (v := .int v_a1_cries) (C := RX1) (T := TX1) (N := 9) hx hb hts inX1 hown hK hP 8 rfl rfl 7 (by decide) (hts _ w_185) (fun _ h9 => h9) rfl dX1_copyFrom_128 ?_
                    refine va_put (D := D) (ci := 1) (v := .int v_a1_cries) (ty := .int) (C := RX1) (T := TX1) (N := 9) hx hb hts inX1 tyX1 tyX1_ok nmX1 hown hK hP hD hS 0 rfl rfl 7 (by decide) (hts _ w_185) (fun _ h9 => h9) rfl (by decide +kernel) rfl rfl (Nat.le_of_ble_eq_true rfl) dX1_copyFrom_131 (fun H locs hP hD hS => ?_)
                    have hP : va_P D vwCl [(q_t, .inr (1, [.ref q_t_debts, .ref q_t_criers, .ref q_t_louds, .ref q_t_highs, .ref q_t_hours, .ref q_t_hearers, .ref q_t_minutes, .int v_a1_cries, .int v_t_notes])), (q_t_debts, .inl (cI, 36, .inl v_t_debts_2)), (q_t_criers, .inl (cI, 20, .inl v_t_criers_7)), (q_t_louds, .inl (cI, 20, .inl v_t_louds_8)), (q_t_highs, .inl (cZ, 20, .inl v_t_highs_9)), (q_t_hours, .inl (cI, 20, .inl v_t_hours_10)), (q_t_hearers, .inl (cI, 12, .inl v_t_hearers_15)), (q_t_minutes, .inl (cI, 12, .inl v_t_minutes_16)), (q_a1, .inr (1, [.ref q_a1_debts, .ref q_a1_criers, .ref q_a1_louds, .ref q_a1_highs, .ref q_a1_hours, .ref q_a1_hearers, .ref q_a1_minutes, .int v_a1_cries, .int v_a1_notes])), (q_a1_debts, .inl (cI, 36, .inl v_a1_debts)), (q_a1_criers, .inl (cI, 20, .inl v_a1_criers)), (q_a1_louds, .inl (cI, 20, .inl v_a1_louds)), (q_a1_highs, .inl (cZ, 20, .inl v_a1_highs)), (q_a1_hours, .inl (cI, 20, .inl v_a1_hours)), (q_a1_hearers, .inl (cI, 12, .inl v_a1_hearers)), (q_a1_minutes, .inl (cI, 12, .inl v_a1_minutes))] H := hP
                    have hD : va_D A [(q_t, .inr (1, [.ref q_t_debts, .ref q_t_criers, .ref q_t_louds, .ref q_t_highs, .ref q_t_hours, .ref q_t_hearers, .ref q_t_minutes, .int v_a1_cries, .int v_t_notes])), (q_t_debts, .inl (cI, 36, .inl v_t_debts_2)), (q_t_criers, .inl (cI, 20, .inl v_t_criers_7)), (q_t_louds, .inl (cI, 20, .inl v_t_louds_8)), (q_t_highs, .inl (cZ, 20, .inl v_t_highs_9)), (q_t_hours, .inl (cI, 20, .inl v_t_hours_10)), (q_t_hearers, .inl (cI, 12, .inl v_t_hearers_15)), (q_t_minutes, .inl (cI, 12, .inl v_t_minutes_16)), (q_a1, .inr (1, [.ref q_a1_debts, .ref q_a1_criers, .ref q_a1_louds, .ref q_a1_highs, .ref q_a1_hours, .ref q_a1_hearers, .ref q_a1_minutes, .int v_a1_cries, .int v_a1_notes])), (q_a1_debts, .inl (cI, 36, .inl v_a1_debts)), (q_a1_criers, .inl (cI, 20, .inl v_a1_criers)), (q_a1_louds, .inl (cI, 20, .inl v_a1_louds)), (q_a1_highs, .inl (cZ, 20, .inl v_a1_highs)), (q_a1_hours, .inl (cI, 20, .inl v_a1_hours)), (q_a1_hearers, .inl (cI, 12, .inl v_a1_hearers)), (q_a1_minutes, .inl (cI, 12, .inl v_a1_minutes))] := hD
                    refine lv_aload_n hx hb dX1_copyFrom_134 rfl (lv_at hl 0 rfl) ?_
                    refine lv_aload_n hx hb dX1_copyFrom_135 rfl (lv_at hl 1 rfl) ?_
                    refine va_get (D := D) (ci := 1) (v := .int v_a1_notes) (C := RX1) (T := TX1) (N := 9) hx hb hts inX1 hown hK hP 8 rfl rfl 8 (by decide) (hts _ w_187) (fun _ h9 => h9) rfl dX1_copyFrom_136 ?_
                    refine va_put (D := D) (ci := 1) (v := .int v_a1_notes) (ty := .int) (C := RX1) (T := TX1) (N := 9) hx hb hts inX1 tyX1 tyX1_ok nmX1 hown hK hP hD hS 0 rfl rfl 8 (by decide) (hts _ w_187) (fun _ h9 => h9) rfl (by decide +kernel) rfl rfl (Nat.le_of_ble_eq_true rfl) dX1_copyFrom_139 (fun H locs hP hD hS => ?_)
                    have hP : va_P D vwCl [(q_t, .inr (1, [.ref q_t_debts, .ref q_t_criers, .ref q_t_louds, .ref q_t_highs, .ref q_t_hours, .ref q_t_hearers, .ref q_t_minutes, .int v_a1_cries, .int v_a1_notes])), (q_t_debts, .inl (cI, 36, .inl v_t_debts_2)), (q_t_criers, .inl (cI, 20, .inl v_t_criers_7)), (q_t_louds, .inl (cI, 20, .inl v_t_louds_8)), (q_t_highs, .inl (cZ, 20, .inl v_t_highs_9)), (q_t_hours, .inl (cI, 20, .inl v_t_hours_10)), (q_t_hearers, .inl (cI, 12, .inl v_t_hearers_15)), (q_t_minutes, .inl (cI, 12, .inl v_t_minutes_16)), (q_a1, .inr (1, [.ref q_a1_debts, .ref q_a1_criers, .ref q_a1_louds, .ref q_a1_highs, .ref q_a1_hours, .ref q_a1_hearers, .ref q_a1_minutes, .int v_a1_cries, .int v_a1_notes])), (q_a1_debts, .inl (cI, 36, .inl v_a1_debts)), (q_a1_criers, .inl (cI, 20, .inl v_a1_criers)), (q_a1_louds, .inl (cI, 20, .inl v_a1_louds)), (q_a1_highs, .inl (cZ, 20, .inl v_a1_highs)), (q_a1_hours, .inl (cI, 20, .inl v_a1_hours)), (q_a1_hearers, .inl (cI, 12, .inl v_a1_hearers)), (q_a1_minutes, .inl (cI, 12, .inl v_a1_minutes))] H := hP
                    have hD : va_D A [(q_t, .inr (1, [.ref q_t_debts, .ref q_t_criers, .ref q_t_louds, .ref q_t_highs, .ref q_t_hours, .ref q_t_hearers, .ref q_t_minutes, .int v_a1_cries, .int v_a1_notes])), (q_t_debts, .inl (cI, 36, .inl v_t_debts_2)), (q_t_criers, .inl (cI, 20, .inl v_t_criers_7)), (q_t_louds, .inl (cI, 20, .inl v_t_louds_8)), (q_t_highs, .inl (cZ, 20, .inl v_t_highs_9)), (q_t_hours, .inl (cI, 20, .inl v_t_hours_10)), (q_t_hearers, .inl (cI, 12, .inl v_t_hearers_15)), (q_t_minutes, .inl (cI, 12, .inl v_t_minutes_16)), (q_a1, .inr (1, [.ref q_a1_debts, .ref q_a1_criers, .ref q_a1_louds, .ref q_a1_highs, .ref q_a1_hours, .ref q_a1_hearers, .ref q_a1_minutes, .int v_a1_cries, .int v_a1_notes])), (q_a1_debts, .inl (cI, 36, .inl v_a1_debts)), (q_a1_criers, .inl (cI, 20, .inl v_a1_criers)), (q_a1_louds, .inl (cI, 20, .inl v_a1_louds)), (q_a1_highs, .inl (cZ, 20, .inl v_a1_highs)), (q_a1_hours, .inl (cI, 20, .inl v_a1_hours)), (q_a1_hearers, .inl (cI, 12, .inl v_a1_hearers)), (q_a1_minutes, .inl (cI, 12, .inl v_a1_minutes))] := hD
                    cases hf
                    exact rt_v hx hb hr hlocks hK hP hS dX1_copyFrom_142
                  · have hf := (if_neg h_19).symm.trans hf
                    refine lv_aload_n hx hb dX1_copyFrom_96 rfl (lv_at hl 0 rfl) ?_
                    refine va_get (D := D) (ci := 1) (v := .ref q_t_hearers) (C := RX1) (T := TX1) (N := 9) hx hb hts inX1 hown hK hP 0 rfl rfl 5 (by decide) (hts _ w_183) (fun _ h9 => h9) rfl dX1_copyFrom_97 ?_
                    refine lv_iload_n hx hb dX1_copyFrom_100 rfl (lv_at hl 2 rfl) ?_
                    refine lv_aload_n hx hb dX1_copyFrom_101 rfl (lv_at hl 1 rfl) ?_
                    refine va_get (D := D) (ci := 1) (v := .ref q_a1_hearers) (C := RX1) (T := TX1) (N := 9) hx hb hts inX1 hown hK hP 8 rfl rfl 5 (by decide) (hts _ w_183) (fun _ h9 => h9) rfl dX1_copyFrom_102 ?_
                    refine lv_iload_n hx hb dX1_copyFrom_105 rfl (lv_at hl 2 rfl) ?_
                    obtain ⟨hin, hf⟩ := gd_some hf
                    refine va_iald hx hb hK hP 14 0 rfl rfl hin dX1_copyFrom_106 ?_
                    obtain ⟨hin, hf⟩ := gd_some hf
                    refine va_iast hx hb hK hP hD hS 6 0 rfl rfl hin dX1_copyFrom_107 (fun H locs hP hD hS => ?_)
                    have hP : va_P D vwCl [(q_t, .inr (1, [.ref q_t_debts, .ref q_t_criers, .ref q_t_louds, .ref q_t_highs, .ref q_t_hours, .ref q_t_hearers, .ref q_t_minutes, .int v_t_cries, .int v_t_notes])), (q_t_debts, .inl (cI, 36, .inl v_t_debts_2)), (q_t_criers, .inl (cI, 20, .inl v_t_criers_7)), (q_t_louds, .inl (cI, 20, .inl v_t_louds_8)), (q_t_highs, .inl (cZ, 20, .inl v_t_highs_9)), (q_t_hours, .inl (cI, 20, .inl v_t_hours_10)), (q_t_hearers, .inl (cI, 12, .inl (upd v_t_hearers_15 (Int32.toNatClampNeg x2_14) (v_a1_hearers (Int32.toNatClampNeg x2_14))))), (q_t_minutes, .inl (cI, 12, .inl v_t_minutes_16)), (q_a1, .inr (1, [.ref q_a1_debts, .ref q_a1_criers, .ref q_a1_louds, .ref q_a1_highs, .ref q_a1_hours, .ref q_a1_hearers, .ref q_a1_minutes, .int v_a1_cries, .int v_a1_notes])), (q_a1_debts, .inl (cI, 36, .inl v_a1_debts)), (q_a1_criers, .inl (cI, 20, .inl v_a1_criers)), (q_a1_louds, .inl (cI, 20, .inl v_a1_louds)), (q_a1_highs, .inl (cZ, 20, .inl v_a1_highs)), (q_a1_hours, .inl (cI, 20, .inl v_a1_hours)), (q_a1_hearers, .inl (cI, 12, .inl v_a1_hearers)), (q_a1_minutes, .inl (cI, 12, .inl v_a1_minutes))] H := hP
                    have hD : va_D A [(q_t, .inr (1, [.ref q_t_debts, .ref q_t_criers, .ref q_t_louds, .ref q_t_highs, .ref q_t_hours, .ref q_t_hearers, .ref q_t_minutes, .int v_t_cries, .int v_t_notes])), (q_t_debts, .inl (cI, 36, .inl v_t_debts_2)), (q_t_criers, .inl (cI, 20, .inl v_t_criers_7)), (q_t_louds, .inl (cI, 20, .inl v_t_louds_8)), (q_t_highs, .inl (cZ, 20, .inl v_t_highs_9)), (q_t_hours, .inl (cI, 20, .inl v_t_hours_10)), (q_t_hearers, .inl (cI, 12, .inl (upd v_t_hearers_15 (Int32.toNatClampNeg x2_14) (v_a1_hearers (Int32.toNatClampNeg x2_14))))), (q_t_minutes, .inl (cI, 12, .inl v_t_minutes_16)), (q_a1, .inr (1, [.ref q_a1_debts, .ref q_a1_criers, .ref q_a1_louds, .ref q_a1_highs, .ref q_a1_hours, .ref q_a1_hearers, .ref q_a1_minutes, .int v_a1_cries, .int v_a1_notes])), (q_a1_debts, .inl (cI, 36, .inl v_a1_debts)), (q_a1_criers, .inl (cI, 20, .inl v_a1_criers)), (q_a1_louds, .inl (cI, 20, .inl v_a1_louds)), (q_a1_highs, .inl (cZ, 20, .inl v_a1_highs)), (q_a1_hours, .inl (cI, 20, .inl v_a1_hours)), (q_a1_hearers, .inl (cI, 12, .inl v_a1_hearers)), (q_a1_minutes, .inl (cI, 12, .inl v_a1_minutes))] := hD
                    refine lv_aload_n hx hb dX1_copyFrom_108 rfl (lv_at hl 0 rfl) ?_
                    refine va_get (D := D) (ci := 1) (v := .ref q_t_minutes) (C := RX1) (T := TX1) (N := 9) hx hb hts inX1 hown hK hP 0 rfl rfl 6 (by decide) (hts _ w_184) (fun _ h9 => h9) rfl dX1_copyFrom_109 ?_
                    refine lv_iload_n hx hb dX1_copyFrom_112 rfl (lv_at hl 2 rfl) ?_
                    refine lv_aload_n hx hb dX1_copyFrom_113 rfl (lv_at hl 1 rfl) ?_
                    refine va_get (D := D) (ci := 1) (v := .ref q_a1_minutes) (C := RX1) (T := TX1) (N := 9) hx hb hts inX1 hown hK hP 8 rfl rfl 6 (by decide) (hts _ w_184) (fun _ h9 => h9) rfl dX1_copyFrom_114 ?_
                    refine lv_iload_n hx hb dX1_copyFrom_117 rfl (lv_at hl 2 rfl) ?_
                    obtain ⟨hin, hf⟩ := gd_some hf
                    refine va_iald hx hb hK hP 15 0 rfl rfl hin dX1_copyFrom_118 ?_
                    obtain ⟨hin, hf⟩ := gd_some hf
                    refine va_iast hx hb hK hP hD hS 7 0 rfl rfl hin dX1_copyFrom_119 (fun H locs hP hD hS => ?_)
                    have hP : va_P D vwCl [(q_t, .inr (1, [.ref q_t_debts, .ref q_t_criers, .ref q_t_louds, .ref q_t_highs, .ref q_t_hours, .ref q_t_hearers, .ref q_t_minutes, .int v_t_cries, .int v_t_notes])), (q_t_debts, .inl (cI, 36, .inl v_t_debts_2)), (q_t_criers, .inl (cI, 20, .inl v_t_criers_7)), (q_t_louds, .inl (cI, 20, .inl v_t_louds_8)), (q_t_highs, .inl (cZ, 20, .inl v_t_highs_9)), (q_t_hours, .inl (cI, 20, .inl v_t_hours_10)), (q_t_hearers, .inl (cI, 12, .inl (upd v_t_hearers_15 (Int32.toNatClampNeg x2_14) (v_a1_hearers (Int32.toNatClampNeg x2_14))))), (q_t_minutes, .inl (cI, 12, .inl (upd v_t_minutes_16 (Int32.toNatClampNeg x2_14) (v_a1_minutes (Int32.toNatClampNeg x2_14))))), (q_a1, .inr (1, [.ref q_a1_debts, .ref q_a1_criers, .ref q_a1_louds, .ref q_a1_highs, .ref q_a1_hours, .ref q_a1_hearers, .ref q_a1_minutes, .int v_a1_cries, .int v_a1_notes])), (q_a1_debts, .inl (cI, 36, .inl v_a1_debts)), (q_a1_criers, .inl (cI, 20, .inl v_a1_criers)), (q_a1_louds, .inl (cI, 20, .inl v_a1_louds)), (q_a1_highs, .inl (cZ, 20, .inl v_a1_highs)), (q_a1_hours, .inl (cI, 20, .inl v_a1_hours)), (q_a1_hearers, .inl (cI, 12, .inl v_a1_hearers)), (q_a1_minutes, .inl (cI, 12, .inl v_a1_minutes))] H := hP
                    have hD : va_D A [(q_t, .inr (1, [.ref q_t_debts, .ref q_t_criers, .ref q_t_louds, .ref q_t_highs, .ref q_t_hours, .ref q_t_hearers, .ref q_t_minutes, .int v_t_cries, .int v_t_notes])), (q_t_debts, .inl (cI, 36, .inl v_t_debts_2)), (q_t_criers, .inl (cI, 20, .inl v_t_criers_7)), (q_t_louds, .inl (cI, 20, .inl v_t_louds_8)), (q_t_highs, .inl (cZ, 20, .inl v_t_highs_9)), (q_t_hours, .inl (cI, 20, .inl v_t_hours_10)), (q_t_hearers, .inl (cI, 12, .inl (upd v_t_hearers_15 (Int32.toNatClampNeg x2_14) (v_a1_hearers (Int32.toNatClampNeg x2_14))))), (q_t_minutes, .inl (cI, 12, .inl (upd v_t_minutes_16 (Int32.toNatClampNeg x2_14) (v_a1_minutes (Int32.toNatClampNeg x2_14))))), (q_a1, .inr (1, [.ref q_a1_debts, .ref q_a1_criers, .ref q_a1_louds, .ref q_a1_highs, .ref q_a1_hours, .ref q_a1_hearers, .ref q_a1_minutes, .int v_a1_cries, .int v_a1_notes])), (q_a1_debts, .inl (cI, 36, .inl v_a1_debts)), (q_a1_criers, .inl (cI, 20, .inl v_a1_criers)), (q_a1_louds, .inl (cI, 20, .inl v_a1_louds)), (q_a1_highs, .inl (cZ, 20, .inl v_a1_highs)), (q_a1_hours, .inl (cI, 20, .inl v_a1_hours)), (q_a1_hearers, .inl (cI, 12, .inl v_a1_hearers)), (q_a1_minutes, .inl (cI, 12, .inl v_a1_minutes))] := hD
                    refine lv_iinc (v := (x2_14 + 1)) (lv' := [(2, .int (x2_14 + 1)), (0, .ref q_t), (1, .ref q_a1)]) hx hb dX1_copyFrom_120 hl (k := 2) rfl rfl (by decide) rfl (fun ls hl => ?_)
                    refine lv_goto (tgt := 90) hx hb dX1_copyFrom_123 (by decide) ?_
                    exact ih_18 (x2_14 + 1) (upd v_t_hearers_15 (Int32.toNatClampNeg x2_14) (v_a1_hearers (Int32.toNatClampNeg x2_14))) (upd v_t_minutes_16 (Int32.toNatClampNeg x2_14) (v_a1_minutes (Int32.toNatClampNeg x2_14))) hf _ _ _ hP hD hS (lv_sub hl [1, 2, 0] rfl)
              exact L90_17 FU 0 v_t_hearers v_t_minutes hf _ _ _ hP hD hS (lv_sub hl [1, 2, 0] rfl)
            · have hf := (if_neg h_13).symm.trans hf
              refine lv_aload_n hx hb dX1_copyFrom_34 rfl (lv_at hl 0 rfl) ?_
              refine va_get (D := D) (ci := 1) (v := .ref q_t_criers) (C := RX1) (T := TX1) (N := 9) hx hb hts inX1 hown hK hP 0 rfl rfl 1 (by decide) (hts _ w_179) (fun _ h9 => h9) rfl dX1_copyFrom_35 ?_
              refine lv_iload_n hx hb dX1_copyFrom_38 rfl (lv_at hl 2 rfl) ?_
              refine lv_aload_n hx hb dX1_copyFrom_39 rfl (lv_at hl 1 rfl) ?_
              refine va_get (D := D) (ci := 1) (v := .ref q_a1_criers) (C := RX1) (T := TX1) (N := 9) hx hb hts inX1 hown hK hP 8 rfl rfl 1 (by decide) (hts _ w_179) (fun _ h9 => h9) rfl dX1_copyFrom_40 ?_
              refine lv_iload_n hx hb dX1_copyFrom_43 rfl (lv_at hl 2 rfl) ?_
              obtain ⟨hin, hf⟩ := gd_some hf
              refine va_iald hx hb hK hP 10 0 rfl rfl hin dX1_copyFrom_44 ?_
              obtain ⟨hin, hf⟩ := gd_some hf
              refine va_iast hx hb hK hP hD hS 2 0 rfl rfl hin dX1_copyFrom_45 (fun H locs hP hD hS => ?_)
              have hP : va_P D vwCl [(q_t, .inr (1, [.ref q_t_debts, .ref q_t_criers, .ref q_t_louds, .ref q_t_highs, .ref q_t_hours, .ref q_t_hearers, .ref q_t_minutes, .int v_t_cries, .int v_t_notes])), (q_t_debts, .inl (cI, 36, .inl v_t_debts_2)), (q_t_criers, .inl (cI, 20, .inl (upd v_t_criers_7 (Int32.toNatClampNeg x2_6) (v_a1_criers (Int32.toNatClampNeg x2_6))))), (q_t_louds, .inl (cI, 20, .inl v_t_louds_8)), (q_t_highs, .inl (cZ, 20, .inl v_t_highs_9)), (q_t_hours, .inl (cI, 20, .inl v_t_hours_10)), (q_t_hearers, .inl (cI, 12, .inl v_t_hearers)), (q_t_minutes, .inl (cI, 12, .inl v_t_minutes)), (q_a1, .inr (1, [.ref q_a1_debts, .ref q_a1_criers, .ref q_a1_louds, .ref q_a1_highs, .ref q_a1_hours, .ref q_a1_hearers, .ref q_a1_minutes, .int v_a1_cries, .int v_a1_notes])), (q_a1_debts, .inl (cI, 36, .inl v_a1_debts)), (q_a1_criers, .inl (cI, 20, .inl v_a1_criers)), (q_a1_louds, .inl (cI, 20, .inl v_a1_louds)), (q_a1_highs, .inl (cZ, 20, .inl v_a1_highs)), (q_a1_hours, .inl (cI, 20, .inl v_a1_hours)), (q_a1_hearers, .inl (cI, 12, .inl v_a1_hearers)), (q_a1_minutes, .inl (cI, 12, .inl v_a1_minutes))] H := hP
              have hD : va_D A [(q_t, .inr (1, [.ref q_t_debts, .ref q_t_criers, .ref q_t_louds, .ref q_t_highs, .ref q_t_hours, .ref q_t_hearers, .ref q_t_minutes, .int v_t_cries, .int v_t_notes])), (q_t_debts, .inl (cI, 36, .inl v_t_debts_2)), (q_t_criers, .inl (cI, 20, .inl (upd v_t_criers_7 (Int32.toNatClampNeg x2_6) (v_a1_criers (Int32.toNatClampNeg x2_6))))), (q_t_louds, .inl (cI, 20, .inl v_t_louds_8)), (q_t_highs, .inl (cZ, 20, .inl v_t_highs_9)), (q_t_hours, .inl (cI, 20, .inl v_t_hours_10)), (q_t_hearers, .inl (cI, 12, .inl v_t_hearers)), (q_t_minutes, .inl (cI, 12, .inl v_t_minutes)), (q_a1, .inr (1, [.ref q_a1_debts, .ref q_a1_criers, .ref q_a1_louds, .ref q_a1_highs, .ref q_a1_hours, .ref q_a1_hearers, .ref q_a1_minutes, .int v_a1_cries, .int v_a1_notes])), (q_a1_debts, .inl (cI, 36, .inl v_a1_debts)), (q_a1_criers, .inl (cI, 20, .inl v_a1_criers)), (q_a1_louds, .inl (cI, 20, .inl v_a1_louds)), (q_a1_highs, .inl (cZ, 20, .inl v_a1_highs)), (q_a1_hours, .inl (cI, 20, .inl v_a1_hours)), (q_a1_hearers, .inl (cI, 12, .inl v_a1_hearers)), (q_a1_minutes, .inl (cI, 12, .inl v_a1_minutes))] := hD
              refine lv_aload_n hx hb dX1_copyFrom_46 rfl (lv_at hl 0 rfl) ?_
              refine va_get (D := D) (ci := 1) (v := .ref q_t_louds) (C := RX1) (T := TX1) (N := 9) hx hb hts inX1 hown hK hP 0 rfl rfl 2 (by decide) (hts _ w_180) (fun _ h9 => h9) rfl dX1_copyFrom_47 ?_
              refine lv_iload_n hx hb dX1_copyFrom_50 rfl (lv_at hl 2 rfl) ?_
              refine lv_aload_n hx hb dX1_copyFrom_51 rfl (lv_at hl 1 rfl) ?_
              refine va_get (D := D) (ci := 1) (v := .ref q_a1_louds) (C := RX1) (T := TX1) (N := 9) hx hb hts inX1 hown hK hP 8 rfl rfl 2 (by decide) (hts _ w_180) (fun _ h9 => h9) rfl dX1_copyFrom_52 ?_
              refine lv_iload_n hx hb dX1_copyFrom_55 rfl (lv_at hl 2 rfl) ?_
              obtain ⟨hin, hf⟩ := gd_some hf
              refine va_iald hx hb hK hP 11 0 rfl rfl hin dX1_copyFrom_56 ?_
              obtain ⟨hin, hf⟩ := gd_some hf
              refine va_iast hx hb hK hP hD hS 3 0 rfl rfl hin dX1_copyFrom_57 (fun H locs hP hD hS => ?_)
              have hP : va_P D vwCl [(q_t, .inr (1, [.ref q_t_debts, .ref q_t_criers, .ref q_t_louds, .ref q_t_highs, .ref q_t_hours, .ref q_t_hearers, .ref q_t_minutes, .int v_t_cries, .int v_t_notes])), (q_t_debts, .inl (cI, 36, .inl v_t_debts_2)), (q_t_criers, .inl (cI, 20, .inl (upd v_t_criers_7 (Int32.toNatClampNeg x2_6) (v_a1_criers (Int32.toNatClampNeg x2_6))))), (q_t_louds, .inl (cI, 20, .inl (upd v_t_louds_8 (Int32.toNatClampNeg x2_6) (v_a1_louds (Int32.toNatClampNeg x2_6))))), (q_t_highs, .inl (cZ, 20, .inl v_t_highs_9)), (q_t_hours, .inl (cI, 20, .inl v_t_hours_10)), (q_t_hearers, .inl (cI, 12, .inl v_t_hearers)), (q_t_minutes, .inl (cI, 12, .inl v_t_minutes)), (q_a1, .inr (1, [.ref q_a1_debts, .ref q_a1_criers, .ref q_a1_louds, .ref q_a1_highs, .ref q_a1_hours, .ref q_a1_hearers, .ref q_a1_minutes, .int v_a1_cries, .int v_a1_notes])), (q_a1_debts, .inl (cI, 36, .inl v_a1_debts)), (q_a1_criers, .inl (cI, 20, .inl v_a1_criers)), (q_a1_louds, .inl (cI, 20, .inl v_a1_louds)), (q_a1_highs, .inl (cZ, 20, .inl v_a1_highs)), (q_a1_hours, .inl (cI, 20, .inl v_a1_hours)), (q_a1_hearers, .inl (cI, 12, .inl v_a1_hearers)), (q_a1_minutes, .inl (cI, 12, .inl v_a1_minutes))] H := hP
              have hD : va_D A [(q_t, .inr (1, [.ref q_t_debts, .ref q_t_criers, .ref q_t_louds, .ref q_t_highs, .ref q_t_hours, .ref q_t_hearers, .ref q_t_minutes, .int v_t_cries, .int v_t_notes])), (q_t_debts, .inl (cI, 36, .inl v_t_debts_2)), (q_t_criers, .inl (cI, 20, .inl (upd v_t_criers_7 (Int32.toNatClampNeg x2_6) (v_a1_criers (Int32.toNatClampNeg x2_6))))), (q_t_louds, .inl (cI, 20, .inl (upd v_t_louds_8 (Int32.toNatClampNeg x2_6) (v_a1_louds (Int32.toNatClampNeg x2_6))))), (q_t_highs, .inl (cZ, 20, .inl v_t_highs_9)), (q_t_hours, .inl (cI, 20, .inl v_t_hours_10)), (q_t_hearers, .inl (cI, 12, .inl v_t_hearers)), (q_t_minutes, .inl (cI, 12, .inl v_t_minutes)), (q_a1, .inr (1, [.ref q_a1_debts, .ref q_a1_criers, .ref q_a1_louds, .ref q_a1_highs, .ref q_a1_hours, .ref q_a1_hearers, .ref q_a1_minutes, .int v_a1_cries, .int v_a1_notes])), (q_a1_debts, .inl (cI, 36, .inl v_a1_debts)), (q_a1_criers, .inl (cI, 20, .inl v_a1_criers)), (q_a1_louds, .inl (cI, 20, .inl v_a1_louds)), (q_a1_highs, .inl (cZ, 20, .inl v_a1_highs)), (q_a1_hours, .inl (cI, 20, .inl v_a1_hours)), (q_a1_hearers, .inl (cI, 12, .inl v_a1_hearers)), (q_a1_minutes, .inl (cI, 12, .inl v_a1_minutes))] := hD
              refine lv_aload_n hx hb dX1_copyFrom_58 rfl (lv_at hl 0 rfl) ?_
              refine va_get (D := D) (ci := 1) (v := .ref q_t_highs) (C := RX1) (T := TX1) (N := 9) hx hb hts inX1 hown hK hP 0 rfl rfl 3 (by decide) (hts _ w_181) (fun _ h9 => h9) rfl dX1_copyFrom_59 ?_
              refine lv_iload_n hx hb dX1_copyFrom_62 rfl (lv_at hl 2 rfl) ?_
              refine lv_aload_n hx hb dX1_copyFrom_63 rfl (lv_at hl 1 rfl) ?_
              refine va_get (D := D) (ci := 1) (v := .ref q_a1_highs) (C := RX1) (T := TX1) (N := 9) hx hb hts inX1 hown hK hP 8 rfl rfl 3 (by decide) (hts _ w_181) (fun _ h9 => h9) rfl dX1_copyFrom_64 ?_
              refine lv_iload_n hx hb dX1_copyFrom_67 rfl (lv_at hl 2 rfl) ?_
              obtain ⟨hin, hf⟩ := gd_some hf
              refine va_zald hx hb hK hP 12 2 rfl rfl hin dX1_copyFrom_68 ?_
              obtain ⟨hin, hf⟩ := gd_some hf
              refine va_zast hx hb hK hP hD hS 4 2 rfl rfl hin dX1_copyFrom_69 (fun H locs hP hD hS => ?_)
              have hP : va_P D vwCl [(q_t, .inr (1, [.ref q_t_debts, .ref q_t_criers, .ref q_t_louds, .ref q_t_highs, .ref q_t_hours, .ref q_t_hearers, .ref q_t_minutes, .int v_t_cries, .int v_t_notes])), (q_t_debts, .inl (cI, 36, .inl v_t_debts_2)), (q_t_criers, .inl (cI, 20, .inl (upd v_t_criers_7 (Int32.toNatClampNeg x2_6) (v_a1_criers (Int32.toNatClampNeg x2_6))))), (q_t_louds, .inl (cI, 20, .inl (upd v_t_louds_8 (Int32.toNatClampNeg x2_6) (v_a1_louds (Int32.toNatClampNeg x2_6))))), (q_t_highs, .inl (cZ, 20, .inl (upd v_t_highs_9 (Int32.toNatClampNeg x2_6) (vp_nar .boolean (v_a1_highs (Int32.toNatClampNeg x2_6)))))), (q_t_hours, .inl (cI, 20, .inl v_t_hours_10)), (q_t_hearers, .inl (cI, 12, .inl v_t_hearers)), (q_t_minutes, .inl (cI, 12, .inl v_t_minutes)), (q_a1, .inr (1, [.ref q_a1_debts, .ref q_a1_criers, .ref q_a1_louds, .ref q_a1_highs, .ref q_a1_hours, .ref q_a1_hearers, .ref q_a1_minutes, .int v_a1_cries, .int v_a1_notes])), (q_a1_debts, .inl (cI, 36, .inl v_a1_debts)), (q_a1_criers, .inl (cI, 20, .inl v_a1_criers)), (q_a1_louds, .inl (cI, 20, .inl v_a1_louds)), (q_a1_highs, .inl (cZ, 20, .inl v_a1_highs)), (q_a1_hours, .inl (cI, 20, .inl v_a1_hours)), (q_a1_hearers, .inl (cI, 12, .inl v_a1_hearers)), (q_a1_minutes, .inl (cI, 12, .inl v_a1_minutes))] H := hP
              have hD : va_D A [(q_t, .inr (1, [.ref q_t_debts, .ref q_t_criers, .ref q_t_louds, .ref q_t_highs, .ref q_t_hours, .ref q_t_hearers, .ref q_t_minutes, .int v_t_cries, .int v_t_notes])), (q_t_debts, .inl (cI, 36, .inl v_t_debts_2)), (q_t_criers, .inl (cI, 20, .inl (upd v_t_criers_7 (Int32.toNatClampNeg x2_6) (v_a1_criers (Int32.toNatClampNeg x2_6))))), (q_t_louds, .inl (cI, 20, .inl (upd v_t_louds_8 (Int32.toNatClampNeg x2_6) (v_a1_louds (Int32.toNatClampNeg x2_6))))), (q_t_highs, .inl (cZ, 20, .inl (upd v_t_highs_9 (Int32.toNatClampNeg x2_6) (vp_nar .boolean (v_a1_highs (Int32.toNatClampNeg x2_6)))))), (q_t_hours, .inl (cI, 20, .inl v_t_hours_10)), (q_t_hearers, .inl (cI, 12, .inl v_t_hearers)), (q_t_minutes, .inl (cI, 12, .inl v_t_minutes)), (q_a1, .inr (1, [.ref q_a1_debts, .ref q_a1_criers, .ref q_a1_louds, .ref q_a1_highs, .ref q_a1_hours, .ref q_a1_hearers, .ref q_a1_minutes, .int v_a1_cries, .int v_a1_notes])), (q_a1_debts, .inl (cI, 36, .inl v_a1_debts)), (q_a1_criers, .inl (cI, 20, .inl v_a1_criers)), (q_a1_louds, .inl (cI, 20, .inl v_a1_louds)), (q_a1_highs, .inl (cZ, 20, .inl v_a1_highs)), (q_a1_hours, .inl (cI, 20, .inl v_a1_hours)), (q_a1_hearers, .inl (cI, 12, .inl v_a1_hearers)), (q_a1_minutes, .inl (cI, 12, .inl v_a1_minutes))] := hD
              refine lv_aload_n hx hb dX1_copyFrom_70 rfl (lv_at hl 0 rfl) ?_
              refine va_get (D := D) (ci := 1) (v := .ref q_t_hours) (C := RX1) (T := TX1) (N := 9) hx hb hts inX1 hown hK hP 0 rfl rfl 4 (by decide) (hts _ w_182) (fun _ h9 => h9) rfl dX1_copyFrom_71 ?_
              refine lv_iload_n hx hb dX1_copyFrom_74 rfl (lv_at hl 2 rfl) ?_
              refine lv_aload_n hx hb dX1_copyFrom_75 rfl (lv_at hl 1 rfl) ?_
              refine va_get (D := D) (ci := 1) (v := .ref q_a1_hours) (C := RX1) (T := TX1) (N := 9) hx hb hts inX1 hown hK hP 8 rfl rfl 4 (by decide) (hts _ w_182) (fun _ h9 => h9) rfl dX1_copyFrom_76 ?_
              refine lv_iload_n hx hb dX1_copyFrom_79 rfl (lv_at hl 2 rfl) ?_
              obtain ⟨hin, hf⟩ := gd_some hf
              refine va_iald hx hb hK hP 13 0 rfl rfl hin dX1_copyFrom_80 ?_
              obtain ⟨hin, hf⟩ := gd_some hf
              refine va_iast hx hb hK hP hD hS 5 0 rfl rfl hin dX1_copyFrom_81 (fun H locs hP hD hS => ?_)
              have hP : va_P D vwCl [(q_t, .inr (1, [.ref q_t_debts, .ref q_t_criers, .ref q_t_louds, .ref q_t_highs, .ref q_t_hours, .ref q_t_hearers, .ref q_t_minutes, .int v_t_cries, .int v_t_notes])), (q_t_debts, .inl (cI, 36, .inl v_t_debts_2)), (q_t_criers, .inl (cI, 20, .inl (upd v_t_criers_7 (Int32.toNatClampNeg x2_6) (v_a1_criers (Int32.toNatClampNeg x2_6))))), (q_t_louds, .inl (cI, 20, .inl (upd v_t_louds_8 (Int32.toNatClampNeg x2_6) (v_a1_louds (Int32.toNatClampNeg x2_6))))), (q_t_highs, .inl (cZ, 20, .inl (upd v_t_highs_9 (Int32.toNatClampNeg x2_6) (vp_nar .boolean (v_a1_highs (Int32.toNatClampNeg x2_6)))))), (q_t_hours, .inl (cI, 20, .inl (upd v_t_hours_10 (Int32.toNatClampNeg x2_6) (v_a1_hours (Int32.toNatClampNeg x2_6))))), (q_t_hearers, .inl (cI, 12, .inl v_t_hearers)), (q_t_minutes, .inl (cI, 12, .inl v_t_minutes)), (q_a1, .inr (1, [.ref q_a1_debts, .ref q_a1_criers, .ref q_a1_louds, .ref q_a1_highs, .ref q_a1_hours, .ref q_a1_hearers, .ref q_a1_minutes, .int v_a1_cries, .int v_a1_notes])), (q_a1_debts, .inl (cI, 36, .inl v_a1_debts)), (q_a1_criers, .inl (cI, 20, .inl v_a1_criers)), (q_a1_louds, .inl (cI, 20, .inl v_a1_louds)), (q_a1_highs, .inl (cZ, 20, .inl v_a1_highs)), (q_a1_hours, .inl (cI, 20, .inl v_a1_hours)), (q_a1_hearers, .inl (cI, 12, .inl v_a1_hearers)), (q_a1_minutes, .inl (cI, 12, .inl v_a1_minutes))] H := hP
              have hD : va_D A [(q_t, .inr (1, [.ref q_t_debts, .ref q_t_criers, .ref q_t_louds, .ref q_t_highs, .ref q_t_hours, .ref q_t_hearers, .ref q_t_minutes, .int v_t_cries, .int v_t_notes])), (q_t_debts, .inl (cI, 36, .inl v_t_debts_2)), (q_t_criers, .inl (cI, 20, .inl (upd v_t_criers_7 (Int32.toNatClampNeg x2_6) (v_a1_criers (Int32.toNatClampNeg x2_6))))), (q_t_louds, .inl (cI, 20, .inl (upd v_t_louds_8 (Int32.toNatClampNeg x2_6) (v_a1_louds (Int32.toNatClampNeg x2_6))))), (q_t_highs, .inl (cZ, 20, .inl (upd v_t_highs_9 (Int32.toNatClampNeg x2_6) (vp_nar .boolean (v_a1_highs (Int32.toNatClampNeg x2_6)))))), (q_t_hours, .inl (cI, 20, .inl (upd v_t_hours_10 (Int32.toNatClampNeg x2_6) (v_a1_hours (Int32.toNatClampNeg x2_6))))), (q_t_hearers, .inl (cI, 12, .inl v_t_hearers)), (q_t_minutes, .inl (cI, 12, .inl v_t_minutes)), (q_a1, .inr (1, [.ref q_a1_debts, .ref q_a1_criers, .ref q_a1_louds, .ref q_a1_highs, .ref q_a1_hours, .ref q_a1_hearers, .ref q_a1_minutes, .int v_a1_cries, .int v_a1_notes])), (q_a1_debts, .inl (cI, 36, .inl v_a1_debts)), (q_a1_criers, .inl (cI, 20, .inl v_a1_criers)), (q_a1_louds, .inl (cI, 20, .inl v_a1_louds)), (q_a1_highs, .inl (cZ, 20, .inl v_a1_highs)), (q_a1_hours, .inl (cI, 20, .inl v_a1_hours)), (q_a1_hearers, .inl (cI, 12, .inl v_a1_hearers)), (q_a1_minutes, .inl (cI, 12, .inl v_a1_minutes))] := hD
              refine lv_iinc (v := (x2_6 + 1)) (lv' := [(2, .int (x2_6 + 1)), (0, .ref q_t), (1, .ref q_a1)]) hx hb dX1_copyFrom_82 hl (k := 2) rfl rfl (by decide) rfl (fun ls hl => ?_)
              refine lv_goto (tgt := 28) hx hb dX1_copyFrom_85 (by decide) ?_
              exact ih_12 (x2_6 + 1) (upd v_t_criers_7 (Int32.toNatClampNeg x2_6) (v_a1_criers (Int32.toNatClampNeg x2_6))) (upd v_t_louds_8 (Int32.toNatClampNeg x2_6) (v_a1_louds (Int32.toNatClampNeg x2_6))) (upd v_t_highs_9 (Int32.toNatClampNeg x2_6) (vp_nar .boolean (v_a1_highs (Int32.toNatClampNeg x2_6)))) (upd v_t_hours_10 (Int32.toNatClampNeg x2_6) (v_a1_hours (Int32.toNatClampNeg x2_6))) hf _ _ _ hP hD hS (lv_sub hl [1, 2, 0] rfl)
        exact L28_11 FU 0 v_t_criers v_t_louds v_t_highs v_t_hours hf _ _ _ hP hD hS (lv_sub hl [1, 2, 0] rfl)
      · have hf := (if_neg h_5).symm.trans hf
        refine lv_aload_n hx hb dX1_copyFrom_8 rfl (lv_at hl 0 rfl) ?_
        refine va_get (D := D) (ci := 1) (v := .ref q_t_debts) (C := RX1) (T := TX1) (N := 9) hx hb hts inX1 hown hK hP 0 rfl rfl 0 (by decide) (hts _ w_178) (fun _ h9 => h9) rfl dX1_copyFrom_9 ?_
        refine lv_iload_n hx hb dX1_copyFrom_12 rfl (lv_at hl 2 rfl) ?_
        refine lv_aload_n hx hb dX1_copyFrom_13 rfl (lv_at hl 1 rfl) ?_
        refine va_get (D := D) (ci := 1) (v := .ref q_a1_debts) (C := RX1) (T := TX1) (N := 9) hx hb hts inX1 hown hK hP 8 rfl rfl 0 (by decide) (hts _ w_178) (fun _ h9 => h9) rfl dX1_copyFrom_14 ?_
        refine lv_iload_n hx hb dX1_copyFrom_17 rfl (lv_at hl 2 rfl) ?_
        obtain ⟨hin, hf⟩ := gd_some hf
        refine va_iald hx hb hK hP 9 0 rfl rfl hin dX1_copyFrom_18 ?_
        obtain ⟨hin, hf⟩ := gd_some hf
        refine va_iast hx hb hK hP hD hS 1 0 rfl rfl hin dX1_copyFrom_19 (fun H locs hP hD hS => ?_)
        have hP : va_P D vwCl [(q_t, .inr (1, [.ref q_t_debts, .ref q_t_criers, .ref q_t_louds, .ref q_t_highs, .ref q_t_hours, .ref q_t_hearers, .ref q_t_minutes, .int v_t_cries, .int v_t_notes])), (q_t_debts, .inl (cI, 36, .inl (upd v_t_debts_2 (Int32.toNatClampNeg x2_1) (v_a1_debts (Int32.toNatClampNeg x2_1))))), (q_t_criers, .inl (cI, 20, .inl v_t_criers)), (q_t_louds, .inl (cI, 20, .inl v_t_louds)), (q_t_highs, .inl (cZ, 20, .inl v_t_highs)), (q_t_hours, .inl (cI, 20, .inl v_t_hours)), (q_t_hearers, .inl (cI, 12, .inl v_t_hearers)), (q_t_minutes, .inl (cI, 12, .inl v_t_minutes)), (q_a1, .inr (1, [.ref q_a1_debts, .ref q_a1_criers, .ref q_a1_louds, .ref q_a1_highs, .ref q_a1_hours, .ref q_a1_hearers, .ref q_a1_minutes, .int v_a1_cries, .int v_a1_notes])), (q_a1_debts, .inl (cI, 36, .inl v_a1_debts)), (q_a1_criers, .inl (cI, 20, .inl v_a1_criers)), (q_a1_louds, .inl (cI, 20, .inl v_a1_louds)), (q_a1_highs, .inl (cZ, 20, .inl v_a1_highs)), (q_a1_hours, .inl (cI, 20, .inl v_a1_hours)), (q_a1_hearers, .inl (cI, 12, .inl v_a1_hearers)), (q_a1_minutes, .inl (cI, 12, .inl v_a1_minutes))] H := hP
        have hD : va_D A [(q_t, .inr (1, [.ref q_t_debts, .ref q_t_criers, .ref q_t_louds, .ref q_t_highs, .ref q_t_hours, .ref q_t_hearers, .ref q_t_minutes, .int v_t_cries, .int v_t_notes])), (q_t_debts, .inl (cI, 36, .inl (upd v_t_debts_2 (Int32.toNatClampNeg x2_1) (v_a1_debts (Int32.toNatClampNeg x2_1))))), (q_t_criers, .inl (cI, 20, .inl v_t_criers)), (q_t_louds, .inl (cI, 20, .inl v_t_louds)), (q_t_highs, .inl (cZ, 20, .inl v_t_highs)), (q_t_hours, .inl (cI, 20, .inl v_t_hours)), (q_t_hearers, .inl (cI, 12, .inl v_t_hearers)), (q_t_minutes, .inl (cI, 12, .inl v_t_minutes)), (q_a1, .inr (1, [.ref q_a1_debts, .ref q_a1_criers, .ref q_a1_louds, .ref q_a1_highs, .ref q_a1_hours, .ref q_a1_hearers, .ref q_a1_minutes, .int v_a1_cries, .int v_a1_notes])), (q_a1_debts, .inl (cI, 36, .inl v_a1_debts)), (q_a1_criers, .inl (cI, 20, .inl v_a1_criers)), (q_a1_louds, .inl (cI, 20, .inl v_a1_louds)), (q_a1_highs, .inl (cZ, 20, .inl v_a1_highs)), (q_a1_hours, .inl (cI, 20, .inl v_a1_hours)), (q_a1_hearers, .inl (cI, 12, .inl v_a1_hearers)), (q_a1_minutes, .inl (cI, 12, .inl v_a1_minutes))] := hD
        refine lv_iinc (v := (x2_1 + 1)) (lv' := [(2, .int (x2_1 + 1)), (0, .ref q_t), (1, .ref q_a1)]) hx hb dX1_copyFrom_20 hl (k := 2) rfl rfl (by decide) rfl (fun ls hl => ?_)
        refine lv_goto (tgt := 2) hx hb dX1_copyFrom_23 (by decide) ?_
        exact ih_4 (x2_1 + 1) (upd v_t_debts_2 (Int32.toNatClampNeg x2_1) (v_a1_debts (Int32.toNatClampNeg x2_1))) hf _ _ _ hP hD hS (lv_sub hl [1, 2, 0] rfl)
  exact L2_3 FU 0 v_t_debts hf _ _ _ hP hD hS (lv_sub hl [1, 2, 0] rfl)

def f_X9_isPerson (x0 : Int32) : Option (Int32) :=
  (if x0 < 0 then (some 0) else (if 6 ≤ x0 then (some 0) else (some 1)))
theorem gs_X9_isPerson {own : String} {idx : Nat} (h : Cond.methodLink own idx yX9_isPerson ∈ lw_g) : GoodIn lw_g (va_wsS own idx yX9_isPerson (Cond.code yX9_isPerson cX9_isPerson 1 (some .boolean) :: lw_g)) := gS h w_489 w_57 w_490
theorem hd_X9_isPerson : yX9_isPerson.cls ≠ "java/lang/invoke/MethodHandle" ∧ yX9_isPerson.cls ≠ "java/lang/invoke/VarHandle" ∧ (parseMethodDescriptor yX9_isPerson.desc).map (fun d => d.parameters.length) = some 1 := by decide +kernel
set_option maxHeartbeats 4000000 in
set_option maxRecDepth 100000 in
theorem c_X9_isPerson (l : Launch) (D : va_G) (cI cJ cZ : ClassId) (en : EnT) (sz : Nat) (x0 : Int32) {z : Int32} (hf : f_X9_isPerson x0 = some z) : Met l yX9_isPerson (Cond.code yX9_isPerson cX9_isPerson 1 (some .boolean) :: lw_g) ({ frames := 0, cells := 0, slots := 0, locals := 0 } : Room) (PC D cI cJ cZ en ([.int x0] : List Value) [] sz) (QI D cI cJ cZ [] z (va_A [] sz)) 0 0 (va_A [] sz) := by
  refine mk_met (Qc := fun A => (QI D cI cJ cZ [] z A)) RX9 (by decide) rfl (Nat.le_of_ble_eq_true rfl) ?_
  intro p e s m below meth c ls A hx hb hr hml hown hts hlocks hA hK hE hl hD H locs hP hS
  have hl : lv_has ls 1 [(0, .int x0)] := hl
  unfold f_X9_isPerson at hf
  refine lv_iload_n hx hb dX9_isPerson_0 rfl (lv_at hl 0 rfl) ?_
  refine lv_if_lt (tgt := 14) hx hb dX9_isPerson_1 (by decide) (fun h_1 => ?_) (fun h_1 => ?_)
  · have hf := (if_pos h_1).symm.trans hf
    refine lv_iconst (v := 0) hx hb dX9_isPerson_14 (by decide) ?_
    cases hf
    exact rt_z hx hb hr hlocks hK hP hS (Or.inl rfl) dX9_isPerson_15
  · have hf := (if_neg h_1).symm.trans hf
    refine lv_iload_n hx hb dX9_isPerson_4 rfl (lv_at hl 0 rfl) ?_
    refine lv_bipush (v := 6) hx hb dX9_isPerson_5 (by decide) ?_
    refine lv_icmp_ge (tgt := 14) hx hb dX9_isPerson_7 (by decide) (fun h_2 => ?_) (fun h_2 => ?_)
    · have hf := (if_pos h_2).symm.trans hf
      refine lv_iconst (v := 0) hx hb dX9_isPerson_14 (by decide) ?_
      cases hf
      exact rt_z hx hb hr hlocks hK hP hS (Or.inl rfl) dX9_isPerson_15
    · have hf := (if_neg h_2).symm.trans hf
      refine lv_iconst (v := 1) hx hb dX9_isPerson_10 (by decide) ?_
      refine lv_goto (tgt := 15) hx hb dX9_isPerson_11 (by decide) ?_
      cases hf
      exact rt_z hx hb hr hlocks hK hP hS (Or.inr rfl) dX9_isPerson_15

def f_X1_debt (v_t_debts : Nat → Int32) (x1 : Int32) (x2 : Int32) : Option (Int32) :=
  (f_X9_isPerson x1).bind (fun z1 => (if z1 = 0 then (some 0) else (f_X9_isPerson x2).bind (fun z8 => (if z8 = 0 then (some 0) else gd (ib ((x1 * 6) + x2) 36) ((some (v_t_debts (Int32.toNatClampNeg ((x1 * 6) + x2)))))))))
theorem gv_X1_debt {own : String} {idx : Nat} (h : Cond.methodLink own idx yX1_debt ∈ lw_g) : GoodIn lw_g (wsV own idx RX1 yX1_debt (Cond.code yX1_debt cX1_debt 3 (some .int) :: lw_g)) := gV h w_544 w_545 w_62 w_546
theorem hd_X1_debt : yX1_debt.cls = RX1 ∧ yX1_debt.cls ≠ "java/lang/invoke/MethodHandle" ∧ yX1_debt.cls ≠ "java/lang/invoke/VarHandle" ∧ (parseMethodDescriptor yX1_debt.desc).map (fun d => d.parameters.length) = some 2 := by decide +kernel
set_option maxHeartbeats 4000000 in
set_option maxRecDepth 100000 in
theorem c_X1_debt (l : Launch) (D : va_G) (cI cJ cZ : ClassId) (en : EnT) (q_t q_t_debts q_t_criers q_t_louds q_t_highs q_t_hours q_t_hearers q_t_minutes : Nat) (sz : Nat) (v_t_cries : Int32) (v_t_notes : Int32) (v_t_debts : Nat → Int32) (v_t_criers : Nat → Int32) (v_t_louds : Nat → Int32) (v_t_highs : Nat → Int32) (v_t_hours : Nat → Int32) (v_t_hearers : Nat → Int32) (v_t_minutes : Nat → Int32) (x1 : Int32) (x2 : Int32) {z : Int32} (hf : f_X1_debt v_t_debts x1 x2 = some z) : Met l yX1_debt (Cond.code yX1_debt cX1_debt 3 (some .int) :: lw_g) ({ frames := 1, cells := 0, slots := 0, locals := 20 } : Room) (PC D cI cJ cZ en ([.ref q_t, .int x1, .int x2] : List Value) [(q_t, .inr (1, [.ref q_t_debts, .ref q_t_criers, .ref q_t_louds, .ref q_t_highs, .ref q_t_hours, .ref q_t_hearers, .ref q_t_minutes, .int v_t_cries, .int v_t_notes])), (q_t_debts, .inl (cI, 36, .inl v_t_debts)), (q_t_criers, .inl (cI, 20, .inl v_t_criers)), (q_t_louds, .inl (cI, 20, .inl v_t_louds)), (q_t_highs, .inl (cZ, 20, .inl v_t_highs)), (q_t_hours, .inl (cI, 20, .inl v_t_hours)), (q_t_hearers, .inl (cI, 12, .inl v_t_hearers)), (q_t_minutes, .inl (cI, 12, .inl v_t_minutes))] sz) (QI D cI cJ cZ [(q_t, .inr (1, [.ref q_t_debts, .ref q_t_criers, .ref q_t_louds, .ref q_t_highs, .ref q_t_hours, .ref q_t_hearers, .ref q_t_minutes, .int v_t_cries, .int v_t_notes])), (q_t_debts, .inl (cI, 36, .inl v_t_debts)), (q_t_criers, .inl (cI, 20, .inl v_t_criers)), (q_t_louds, .inl (cI, 20, .inl v_t_louds)), (q_t_highs, .inl (cZ, 20, .inl v_t_highs)), (q_t_hours, .inl (cI, 20, .inl v_t_hours)), (q_t_hearers, .inl (cI, 12, .inl v_t_hearers)), (q_t_minutes, .inl (cI, 12, .inl v_t_minutes))] z (va_A [(q_t, .inr (1, [.ref q_t_debts, .ref q_t_criers, .ref q_t_louds, .ref q_t_highs, .ref q_t_hours, .ref q_t_hearers, .ref q_t_minutes, .int v_t_cries, .int v_t_notes])), (q_t_debts, .inl (cI, 36, .inl v_t_debts)), (q_t_criers, .inl (cI, 20, .inl v_t_criers)), (q_t_louds, .inl (cI, 20, .inl v_t_louds)), (q_t_highs, .inl (cZ, 20, .inl v_t_highs)), (q_t_hours, .inl (cI, 20, .inl v_t_hours)), (q_t_hearers, .inl (cI, 12, .inl v_t_hearers)), (q_t_minutes, .inl (cI, 12, .inl v_t_minutes))] sz)) 0 0 (va_A [(q_t, .inr (1, [.ref q_t_debts, .ref q_t_criers, .ref q_t_louds, .ref q_t_highs, .ref q_t_hours, .ref q_t_hearers, .ref q_t_minutes, .int v_t_cries, .int v_t_notes])), (q_t_debts, .inl (cI, 36, .inl v_t_debts)), (q_t_criers, .inl (cI, 20, .inl v_t_criers)), (q_t_louds, .inl (cI, 20, .inl v_t_louds)), (q_t_highs, .inl (cZ, 20, .inl v_t_highs)), (q_t_hours, .inl (cI, 20, .inl v_t_hours)), (q_t_hearers, .inl (cI, 12, .inl v_t_hearers)), (q_t_minutes, .inl (cI, 12, .inl v_t_minutes))] sz) := by
  refine mk_met (Qc := fun A => (QI D cI cJ cZ [(q_t, .inr (1, [.ref q_t_debts, .ref q_t_criers, .ref q_t_louds, .ref q_t_highs, .ref q_t_hours, .ref q_t_hearers, .ref q_t_minutes, .int v_t_cries, .int v_t_notes])), (q_t_debts, .inl (cI, 36, .inl v_t_debts)), (q_t_criers, .inl (cI, 20, .inl v_t_criers)), (q_t_louds, .inl (cI, 20, .inl v_t_louds)), (q_t_highs, .inl (cZ, 20, .inl v_t_highs)), (q_t_hours, .inl (cI, 20, .inl v_t_hours)), (q_t_hearers, .inl (cI, 12, .inl v_t_hearers)), (q_t_minutes, .inl (cI, 12, .inl v_t_minutes))] z A)) RX1 (by decide) rfl (Nat.le_of_ble_eq_true rfl) ?_
  intro p e s m below meth c ls A hx hb hr hml hown hts hlocks hA hK hE hl hD H locs hP hS
  have hl : lv_has ls 3 [(0, .ref q_t), (1, .int x1), (2, .int x2)] := hl
  unfold f_X1_debt at hf
  refine lv_iload_n hx hb dX1_debt_0 rfl (lv_at hl 1 rfl) ?_
  obtain ⟨z1_1, hz1_1, hf⟩ := bd_some hf
  refine cNi (host := RX9) (rest := []) ⟨hx, hb, hml, hown, hts⟩ hE hK hP hD hS hA (c_X9_isPerson l D cI cJ cZ en  H.size x1 hz1_1) w_490 (by decide +kernel) w_57 w_489 hd_X9_isPerson ⟨rfl, rfl⟩ ⟨by decide, by decide⟩ [] rfl rfl rfl  hl rfl (Nat.le_of_ble_eq_true rfl) ⟨Nat.zero_le _, Nat.zero_le _⟩ dX1_debt_1 (fun H locs hP hD hS => ?_)
  have hP : va_P D vwCl [(q_t, .inr (1, [.ref q_t_debts, .ref q_t_criers, .ref q_t_louds, .ref q_t_highs, .ref q_t_hours, .ref q_t_hearers, .ref q_t_minutes, .int v_t_cries, .int v_t_notes])), (q_t_debts, .inl (cI, 36, .inl v_t_debts)), (q_t_criers, .inl (cI, 20, .inl v_t_criers)), (q_t_louds, .inl (cI, 20, .inl v_t_louds)), (q_t_highs, .inl (cZ, 20, .inl v_t_highs)), (q_t_hours, .inl (cI, 20, .inl v_t_hours)), (q_t_hearers, .inl (cI, 12, .inl v_t_hearers)), (q_t_minutes, .inl (cI, 12, .inl v_t_minutes))] H := hP
  have hD : va_D A [(q_t, .inr (1, [.ref q_t_debts, .ref q_t_criers, .ref q_t_louds, .ref q_t_highs, .ref q_t_hours, .ref q_t_hearers, .ref q_t_minutes, .int v_t_cries, .int v_t_notes])), (q_t_debts, .inl (cI, 36, .inl v_t_debts)), (q_t_criers, .inl (cI, 20, .inl v_t_criers)), (q_t_louds, .inl (cI, 20, .inl v_t_louds)), (q_t_highs, .inl (cZ, 20, .inl v_t_highs)), (q_t_hours, .inl (cI, 20, .inl v_t_hours)), (q_t_hearers, .inl (cI, 12, .inl v_t_hearers)), (q_t_minutes, .inl (cI, 12, .inl v_t_minutes))] := hD
  refine lv_if_eq (tgt := 28) hx hb dX1_debt_4 (by decide) (fun h_2 => ?_) (fun h_2 => ?_)
  · have hf := (if_pos h_2).symm.trans hf
    refine lv_iconst (v := 0) hx hb dX1_debt_28 (by decide) ?_
    cases hf
    exact rt_i hx hb hr hlocks hK hP hS dX1_debt_29
  · have hf := (if_neg h_2).symm.trans hf
    refine lv_iload_n hx hb dX1_debt_7 rfl (lv_at hl 2 rfl) ?_
    obtain ⟨z8_3, hz8_3, hf⟩ := bd_some hf
    refine cNi (host := RX9) (rest := []) ⟨hx, hb, hml, hown, hts⟩ hE hK hP hD hS hA (c_X9_isPerson l D cI cJ cZ en  H.size x2 hz8_3) w_490 (by decide +kernel) w_57 w_489 hd_X9_isPerson ⟨rfl, rfl⟩ ⟨by decide, by decide⟩ [] rfl rfl rfl  hl rfl (Nat.le_of_ble_eq_true rfl) ⟨Nat.zero_le _, Nat.zero_le _⟩ dX1_debt_8 (fun H locs hP hD hS => ?_)
    have hP : va_P D vwCl [(q_t, .inr (1, [.ref q_t_debts, .ref q_t_criers, .ref q_t_louds, .ref q_t_highs, .ref q_t_hours, .ref q_t_hearers, .ref q_t_minutes, .int v_t_cries, .int v_t_notes])), (q_t_debts, .inl (cI, 36, .inl v_t_debts)), (q_t_criers, .inl (cI, 20, .inl v_t_criers)), (q_t_louds, .inl (cI, 20, .inl v_t_louds)), (q_t_highs, .inl (cZ, 20, .inl v_t_highs)), (q_t_hours, .inl (cI, 20, .inl v_t_hours)), (q_t_hearers, .inl (cI, 12, .inl v_t_hearers)), (q_t_minutes, .inl (cI, 12, .inl v_t_minutes))] H := hP
    have hD : va_D A [(q_t, .inr (1, [.ref q_t_debts, .ref q_t_criers, .ref q_t_louds, .ref q_t_highs, .ref q_t_hours, .ref q_t_hearers, .ref q_t_minutes, .int v_t_cries, .int v_t_notes])), (q_t_debts, .inl (cI, 36, .inl v_t_debts)), (q_t_criers, .inl (cI, 20, .inl v_t_criers)), (q_t_louds, .inl (cI, 20, .inl v_t_louds)), (q_t_highs, .inl (cZ, 20, .inl v_t_highs)), (q_t_hours, .inl (cI, 20, .inl v_t_hours)), (q_t_hearers, .inl (cI, 12, .inl v_t_hearers)), (q_t_minutes, .inl (cI, 12, .inl v_t_minutes))] := hD
    refine lv_if_eq (tgt := 28) hx hb dX1_debt_11 (by decide) (fun h_4 => ?_) (fun h_4 => ?_)
    · have hf := (if_pos h_4).symm.trans hf
      refine lv_iconst (v := 0) hx hb dX1_debt_28 (by decide) ?_
      cases hf
      exact rt_i hx hb hr hlocks hK hP hS dX1_debt_29
    · have hf := (if_neg h_4).symm.trans hf
      refine lv_aload_n hx hb dX1_debt_14 rfl (lv_at hl 0 rfl) ?_
      refine va_get (D := D) (ci := 1) (v := .ref q_t_debts) (C := RX1) (T := TX1) (N := 9) hx hb hts inX1 hown hK hP 0 rfl rfl 0 (by decide) (hts _ w_178) (fun _ h9 => h9) rfl dX1_debt_15 ?_
      refine lv_iload_n hx hb dX1_debt_18 rfl (lv_at hl 1 rfl) ?_
      refine lv_bipush (v := 6) hx hb dX1_debt_19 (by decide) ?_
      refine lv_imul hx hb dX1_debt_21 ?_
      refine lv_iload_n hx hb dX1_debt_22 rfl (lv_at hl 2 rfl) ?_
      refine lv_iadd hx hb dX1_debt_23 ?_
      obtain ⟨hin, hf⟩ := gd_some hf
      refine va_iald hx hb hK hP 1 0 rfl rfl hin dX1_debt_24 ?_
      refine lv_goto (tgt := 29) hx hb dX1_debt_25 (by decide) ?_
      cases hf
      exact rt_i hx hb hr hlocks hK hP hS dX1_debt_29

def f_X1_owe (v_t_debts : Nat → Int32) (x1 : Int32) (x2 : Int32) (x3 : Int32) : Option ((Nat → Int32)) :=
  (f_X9_isPerson x1).bind (fun z1 => (if z1 = 0 then (some v_t_debts) else (f_X9_isPerson x2).bind (fun z8 => (if z8 = 0 then (some v_t_debts) else gd (ib ((x1 * 6) + x2) 36) (gd (ib ((x1 * 6) + x2) 36) (gd (ib ((x2 * 6) + x1) 36) (gd (ib ((x2 * 6) + x1) 36) ((some (upd (upd v_t_debts (Int32.toNatClampNeg ((x1 * 6) + x2)) ((v_t_debts (Int32.toNatClampNeg ((x1 * 6) + x2))) + x3)) (Int32.toNatClampNeg ((x2 * 6) + x1)) (((upd v_t_debts (Int32.toNatClampNeg ((x1 * 6) + x2)) ((v_t_debts (Int32.toNatClampNeg ((x1 * 6) + x2))) + x3)) (Int32.toNatClampNeg ((x2 * 6) + x1))) - x3)))))))))))
theorem gv_X1_owe {own : String} {idx : Nat} (h : Cond.methodLink own idx yX1_owe ∈ lw_g) : GoodIn lw_g (wsV own idx RX1 yX1_owe (Cond.code yX1_owe cX1_owe 4 none :: lw_g)) := gV h w_663 w_664 w_62 w_665
theorem hd_X1_owe : yX1_owe.cls = RX1 ∧ yX1_owe.cls ≠ "java/lang/invoke/MethodHandle" ∧ yX1_owe.cls ≠ "java/lang/invoke/VarHandle" ∧ (parseMethodDescriptor yX1_owe.desc).map (fun d => d.parameters.length) = some 3 := by decide +kernel
set_option maxHeartbeats 4000000 in
set_option maxRecDepth 100000 in
theorem c_X1_owe (l : Launch) (D : va_G) (cI cJ cZ : ClassId) (en : EnT) (q_t q_t_debts q_t_criers q_t_louds q_t_highs q_t_hours q_t_hearers q_t_minutes : Nat) (sz : Nat) (v_t_cries : Int32) (v_t_notes : Int32) (v_t_debts : Nat → Int32) (v_t_criers : Nat → Int32) (v_t_louds : Nat → Int32) (v_t_highs : Nat → Int32) (v_t_hours : Nat → Int32) (v_t_hearers : Nat → Int32) (v_t_minutes : Nat → Int32) (x1 : Int32) (x2 : Int32) (x3 : Int32) {z : (Nat → Int32)} (hf : f_X1_owe v_t_debts x1 x2 x3 = some z) : Met l yX1_owe (Cond.code yX1_owe cX1_owe 4 none :: lw_g) ({ frames := 1, cells := 0, slots := 0, locals := 20 } : Room) (PC D cI cJ cZ en ([.ref q_t, .int x1, .int x2, .int x3] : List Value) [(q_t, .inr (1, [.ref q_t_debts, .ref q_t_criers, .ref q_t_louds, .ref q_t_highs, .ref q_t_hours, .ref q_t_hearers, .ref q_t_minutes, .int v_t_cries, .int v_t_notes])), (q_t_debts, .inl (cI, 36, .inl v_t_debts)), (q_t_criers, .inl (cI, 20, .inl v_t_criers)), (q_t_louds, .inl (cI, 20, .inl v_t_louds)), (q_t_highs, .inl (cZ, 20, .inl v_t_highs)), (q_t_hours, .inl (cI, 20, .inl v_t_hours)), (q_t_hearers, .inl (cI, 12, .inl v_t_hearers)), (q_t_minutes, .inl (cI, 12, .inl v_t_minutes))] sz) (QV D cI cJ cZ [(q_t, .inr (1, [.ref q_t_debts, .ref q_t_criers, .ref q_t_louds, .ref q_t_highs, .ref q_t_hours, .ref q_t_hearers, .ref q_t_minutes, .int v_t_cries, .int v_t_notes])), (q_t_debts, .inl (cI, 36, .inl z)), (q_t_criers, .inl (cI, 20, .inl v_t_criers)), (q_t_louds, .inl (cI, 20, .inl v_t_louds)), (q_t_highs, .inl (cZ, 20, .inl v_t_highs)), (q_t_hours, .inl (cI, 20, .inl v_t_hours)), (q_t_hearers, .inl (cI, 12, .inl v_t_hearers)), (q_t_minutes, .inl (cI, 12, .inl v_t_minutes))] (va_A [(q_t, .inr (1, [.ref q_t_debts, .ref q_t_criers, .ref q_t_louds, .ref q_t_highs, .ref q_t_hours, .ref q_t_hearers, .ref q_t_minutes, .int v_t_cries, .int v_t_notes])), (q_t_debts, .inl (cI, 36, .inl v_t_debts)), (q_t_criers, .inl (cI, 20, .inl v_t_criers)), (q_t_louds, .inl (cI, 20, .inl v_t_louds)), (q_t_highs, .inl (cZ, 20, .inl v_t_highs)), (q_t_hours, .inl (cI, 20, .inl v_t_hours)), (q_t_hearers, .inl (cI, 12, .inl v_t_hearers)), (q_t_minutes, .inl (cI, 12, .inl v_t_minutes))] sz)) 0 0 (va_A [(q_t, .inr (1, [.ref q_t_debts, .ref q_t_criers, .ref q_t_louds, .ref q_t_highs, .ref q_t_hours, .ref q_t_hearers, .ref q_t_minutes, .int v_t_cries, .int v_t_notes])), (q_t_debts, .inl (cI, 36, .inl v_t_debts)), (q_t_criers, .inl (cI, 20, .inl v_t_criers)), (q_t_louds, .inl (cI, 20, .inl v_t_louds)), (q_t_highs, .inl (cZ, 20, .inl v_t_highs)), (q_t_hours, .inl (cI, 20, .inl v_t_hours)), (q_t_hearers, .inl (cI, 12, .inl v_t_hearers)), (q_t_minutes, .inl (cI, 12, .inl v_t_minutes))] sz) := by
  refine mk_met (Qc := fun A => (QV D cI cJ cZ [(q_t, .inr (1, [.ref q_t_debts, .ref q_t_criers, .ref q_t_louds, .ref q_t_highs, .ref q_t_hours, .ref q_t_hearers, .ref q_t_minutes, .int v_t_cries, .int v_t_notes])), (q_t_debts, .inl (cI, 36, .inl z)), (q_t_criers, .inl (cI, 20, .inl v_t_criers)), (q_t_louds, .inl (cI, 20, .inl v_t_louds)), (q_t_highs, .inl (cZ, 20, .inl v_t_highs)), (q_t_hours, .inl (cI, 20, .inl v_t_hours)), (q_t_hearers, .inl (cI, 12, .inl v_t_hearers)), (q_t_minutes, .inl (cI, 12, .inl v_t_minutes))] A)) RX1 (by decide) rfl (Nat.le_of_ble_eq_true rfl) ?_
  intro p e s m below meth c ls A hx hb hr hml hown hts hlocks hA hK hE hl hD H locs hP hS
  have hl : lv_has ls 4 [(0, .ref q_t), (1, .int x1), (2, .int x2), (3, .int x3)] := hl
  unfold f_X1_owe at hf
  refine lv_iload_n hx hb dX1_owe_0 rfl (lv_at hl 1 rfl) ?_
  obtain ⟨z1_1, hz1_1, hf⟩ := bd_some hf
  refine cNi (host := RX9) (rest := []) ⟨hx, hb, hml, hown, hts⟩ hE hK hP hD hS hA (c_X9_isPerson l D cI cJ cZ en  H.size x1 hz1_1) w_490 (by decide +kernel) w_57 w_489 hd_X9_isPerson ⟨rfl, rfl⟩ ⟨by decide, by decide⟩ [] rfl rfl rfl  hl rfl (Nat.le_of_ble_eq_true rfl) ⟨Nat.zero_le _, Nat.zero_le _⟩ dX1_owe_1 (fun H locs hP hD hS => ?_)
  have hP : va_P D vwCl [(q_t, .inr (1, [.ref q_t_debts, .ref q_t_criers, .ref q_t_louds, .ref q_t_highs, .ref q_t_hours, .ref q_t_hearers, .ref q_t_minutes, .int v_t_cries, .int v_t_notes])), (q_t_debts, .inl (cI, 36, .inl v_t_debts)), (q_t_criers, .inl (cI, 20, .inl v_t_criers)), (q_t_louds, .inl (cI, 20, .inl v_t_louds)), (q_t_highs, .inl (cZ, 20, .inl v_t_highs)), (q_t_hours, .inl (cI, 20, .inl v_t_hours)), (q_t_hearers, .inl (cI, 12, .inl v_t_hearers)), (q_t_minutes, .inl (cI, 12, .inl v_t_minutes))] H := hP
  have hD : va_D A [(q_t, .inr (1, [.ref q_t_debts, .ref q_t_criers, .ref q_t_louds, .ref q_t_highs, .ref q_t_hours, .ref q_t_hearers, .ref q_t_minutes, .int v_t_cries, .int v_t_notes])), (q_t_debts, .inl (cI, 36, .inl v_t_debts)), (q_t_criers, .inl (cI, 20, .inl v_t_criers)), (q_t_louds, .inl (cI, 20, .inl v_t_louds)), (q_t_highs, .inl (cZ, 20, .inl v_t_highs)), (q_t_hours, .inl (cI, 20, .inl v_t_hours)), (q_t_hearers, .inl (cI, 12, .inl v_t_hearers)), (q_t_minutes, .inl (cI, 12, .inl v_t_minutes))] := hD
  refine lv_if_eq (tgt := 14) hx hb dX1_owe_4 (by decide) (fun h_2 => ?_) (fun h_2 => ?_)
  · have hf := (if_pos h_2).symm.trans hf
    cases hf
    exact rt_v hx hb hr hlocks hK hP hS dX1_owe_14
  · have hf := (if_neg h_2).symm.trans hf
    refine lv_iload_n hx hb dX1_owe_7 rfl (lv_at hl 2 rfl) ?_
    obtain ⟨z8_3, hz8_3, hf⟩ := bd_some hf
    refine cNi (host := RX9) (rest := []) ⟨hx, hb, hml, hown, hts⟩ hE hK hP hD hS hA (c_X9_isPerson l D cI cJ cZ en  H.size x2 hz8_3) w_490 (by decide +kernel) w_57 w_489 hd_X9_isPerson ⟨rfl, rfl⟩ ⟨by decide, by decide⟩ [] rfl rfl rfl  hl rfl (Nat.le_of_ble_eq_true rfl) ⟨Nat.zero_le _, Nat.zero_le _⟩ dX1_owe_8 (fun H locs hP hD hS => ?_)
    have hP : va_P D vwCl [(q_t, .inr (1, [.ref q_t_debts, .ref q_t_criers, .ref q_t_louds, .ref q_t_highs, .ref q_t_hours, .ref q_t_hearers, .ref q_t_minutes, .int v_t_cries, .int v_t_notes])), (q_t_debts, .inl (cI, 36, .inl v_t_debts)), (q_t_criers, .inl (cI, 20, .inl v_t_criers)), (q_t_louds, .inl (cI, 20, .inl v_t_louds)), (q_t_highs, .inl (cZ, 20, .inl v_t_highs)), (q_t_hours, .inl (cI, 20, .inl v_t_hours)), (q_t_hearers, .inl (cI, 12, .inl v_t_hearers)), (q_t_minutes, .inl (cI, 12, .inl v_t_minutes))] H := hP
    have hD : va_D A [(q_t, .inr (1, [.ref q_t_debts, .ref q_t_criers, .ref q_t_louds, .ref q_t_highs, .ref q_t_hours, .ref q_t_hearers, .ref q_t_minutes, .int v_t_cries, .int v_t_notes])), (q_t_debts, .inl (cI, 36, .inl v_t_debts)), (q_t_criers, .inl (cI, 20, .inl v_t_criers)), (q_t_louds, .inl (cI, 20, .inl v_t_louds)), (q_t_highs, .inl (cZ, 20, .inl v_t_highs)), (q_t_hours, .inl (cI, 20, .inl v_t_hours)), (q_t_hearers, .inl (cI, 12, .inl v_t_hearers)), (q_t_minutes, .inl (cI, 12, .inl v_t_minutes))] := hD
    refine lv_if_ne (tgt := 15) hx hb dX1_owe_11 (by decide) (fun h_4 => ?_) (fun h_4 => ?_)
    · have hf := (if_neg h_4).symm.trans hf
      refine lv_aload_n hx hb dX1_owe_15 rfl (lv_at hl 0 rfl) ?_
      refine va_get (D := D) (ci := 1) (v := .ref q_t_debts) (C := RX1) (T := TX1) (N := 9) hx hb hts inX1 hown hK hP 0 rfl rfl 0 (by decide) (hts _ w_178) (fun _ h9 => h9) rfl dX1_owe_16 ?_
      refine lv_iload_n hx hb dX1_owe_19 rfl (lv_at hl 1 rfl) ?_
      refine lv_bipush (v := 6) hx hb dX1_owe_20 (by decide) ?_
      refine lv_imul hx hb dX1_owe_22 ?_
      refine lv_iload_n hx hb dX1_owe_23 rfl (lv_at hl 2 rfl) ?_
      refine lv_iadd hx hb dX1_owe_24 ?_
      refine lv_dup2_11 hx hb dX1_owe_25 rfl rfl ?_
      obtain ⟨hin, hf⟩ := gd_some hf
      refine va_iald hx hb hK hP 1 0 rfl rfl hin dX1_owe_26 ?_
      refine lv_iload_n hx hb dX1_owe_27 rfl (lv_at hl 3 rfl) ?_
      refine lv_iadd hx hb dX1_owe_28 ?_
      obtain ⟨hin, hf⟩ := gd_some hf
      refine va_iast hx hb hK hP hD hS 1 0 rfl rfl hin dX1_owe_29 (fun H locs hP hD hS => ?_)
      have hP : va_P D vwCl [(q_t, .inr (1, [.ref q_t_debts, .ref q_t_criers, .ref q_t_louds, .ref q_t_highs, .ref q_t_hours, .ref q_t_hearers, .ref q_t_minutes, .int v_t_cries, .int v_t_notes])), (q_t_debts, .inl (cI, 36, .inl (upd v_t_debts (Int32.toNatClampNeg ((x1 * 6) + x2)) ((v_t_debts (Int32.toNatClampNeg ((x1 * 6) + x2))) + x3)))), (q_t_criers, .inl (cI, 20, .inl v_t_criers)), (q_t_louds, .inl (cI, 20, .inl v_t_louds)), (q_t_highs, .inl (cZ, 20, .inl v_t_highs)), (q_t_hours, .inl (cI, 20, .inl v_t_hours)), (q_t_hearers, .inl (cI, 12, .inl v_t_hearers)), (q_t_minutes, .inl (cI, 12, .inl v_t_minutes))] H := hP
      have hD : va_D A [(q_t, .inr (1, [.ref q_t_debts, .ref q_t_criers, .ref q_t_louds, .ref q_t_highs, .ref q_t_hours, .ref q_t_hearers, .ref q_t_minutes, .int v_t_cries, .int v_t_notes])), (q_t_debts, .inl (cI, 36, .inl (upd v_t_debts (Int32.toNatClampNeg ((x1 * 6) + x2)) ((v_t_debts (Int32.toNatClampNeg ((x1 * 6) + x2))) + x3)))), (q_t_criers, .inl (cI, 20, .inl v_t_criers)), (q_t_louds, .inl (cI, 20, .inl v_t_louds)), (q_t_highs, .inl (cZ, 20, .inl v_t_highs)), (q_t_hours, .inl (cI, 20, .inl v_t_hours)), (q_t_hearers, .inl (cI, 12, .inl v_t_hearers)), (q_t_minutes, .inl (cI, 12, .inl v_t_minutes))] := hD
      refine lv_aload_n hx hb dX1_owe_30 rfl (lv_at hl 0 rfl) ?_
      refine va_get (D := D) (ci := 1) (v := .ref q_t_debts) (C := RX1) (T := TX1) (N := 9) hx hb hts inX1 hown hK hP 0 rfl rfl 0 (by decide) (hts _ w_178) (fun _ h9 => h9) rfl dX1_owe_31 ?_
      refine lv_iload_n hx hb dX1_owe_34 rfl (lv_at hl 2 rfl) ?_
      refine lv_bipush (v := 6) hx hb dX1_owe_35 (by decide) ?_
      refine lv_imul hx hb dX1_owe_37 ?_
      refine lv_iload_n hx hb dX1_owe_38 rfl (lv_at hl 1 rfl) ?_
      refine lv_iadd hx hb dX1_owe_39 ?_
      refine lv_dup2_11 hx hb dX1_owe_40 rfl rfl ?_
      obtain ⟨hin, hf⟩ := gd_some hf
      refine va_iald hx hb hK hP 1 0 rfl rfl hin dX1_owe_41 ?_
      refine lv_iload_n hx hb dX1_owe_42 rfl (lv_at hl 3 rfl) ?_
      refine lv_isub hx hb dX1_owe_43 ?_
      obtain ⟨hin, hf⟩ := gd_some hf
      refine va_iast hx hb hK hP hD hS 1 0 rfl rfl hin dX1_owe_44 (fun H locs hP hD hS => ?_)
      have hP : va_P D vwCl [(q_t, .inr (1, [.ref q_t_debts, .ref q_t_criers, .ref q_t_louds, .ref q_t_highs, .ref q_t_hours, .ref q_t_hearers, .ref q_t_minutes, .int v_t_cries, .int v_t_notes])), (q_t_debts, .inl (cI, 36, .inl (upd (upd v_t_debts (Int32.toNatClampNeg ((x1 * 6) + x2)) ((v_t_debts (Int32.toNatClampNeg ((x1 * 6) + x2))) + x3)) (Int32.toNatClampNeg ((x2 * 6) + x1)) (((upd v_t_debts (Int32.toNatClampNeg ((x1 * 6) + x2)) ((v_t_debts (Int32.toNatClampNeg ((x1 * 6) + x2))) + x3)) (Int32.toNatClampNeg ((x2 * 6) + x1))) - x3)))), (q_t_criers, .inl (cI, 20, .inl v_t_criers)), (q_t_louds, .inl (cI, 20, .inl v_t_louds)), (q_t_highs, .inl (cZ, 20, .inl v_t_highs)), (q_t_hours, .inl (cI, 20, .inl v_t_hours)), (q_t_hearers, .inl (cI, 12, .inl v_t_hearers)), (q_t_minutes, .inl (cI, 12, .inl v_t_minutes))] H := hP
      have hD : va_D A [(q_t, .inr (1, [.ref q_t_debts, .ref q_t_criers, .ref q_t_louds, .ref q_t_highs, .ref q_t_hours, .ref q_t_hearers, .ref q_t_minutes, .int v_t_cries, .int v_t_notes])), (q_t_debts, .inl (cI, 36, .inl (upd (upd v_t_debts (Int32.toNatClampNeg ((x1 * 6) + x2)) ((v_t_debts (Int32.toNatClampNeg ((x1 * 6) + x2))) + x3)) (Int32.toNatClampNeg ((x2 * 6) + x1)) (((upd v_t_debts (Int32.toNatClampNeg ((x1 * 6) + x2)) ((v_t_debts (Int32.toNatClampNeg ((x1 * 6) + x2))) + x3)) (Int32.toNatClampNeg ((x2 * 6) + x1))) - x3)))), (q_t_criers, .inl (cI, 20, .inl v_t_criers)), (q_t_louds, .inl (cI, 20, .inl v_t_louds)), (q_t_highs, .inl (cZ, 20, .inl v_t_highs)), (q_t_hours, .inl (cI, 20, .inl v_t_hours)), (q_t_hearers, .inl (cI, 12, .inl v_t_hearers)), (q_t_minutes, .inl (cI, 12, .inl v_t_minutes))] := hD
      cases hf
      exact rt_v hx hb hr hlocks hK hP hS dX1_owe_45
    · have hf := (if_pos h_4).symm.trans hf
      cases hf
      exact rt_v hx hb hr hlocks hK hP hS dX1_owe_14

def f_X1_netOf_L4 (v_t_debts : Nat → Int32) (x1 : Int32) : Nat → (Int32) → (Int32) → Option (Int32)
  | 0, _, _ => none
  | n + 1, x2, x3 => (if 6 ≤ x3 then (some x2) else (f_X1_debt v_t_debts x3 x1).bind (fun z14 => (f_X1_netOf_L4 v_t_debts x1 n (x2 + z14) (x3 + 1))))
def f_X1_netOf (v_t_debts : Nat → Int32) (x1 : Int32) : Option (Int32) :=
  (f_X1_netOf_L4 v_t_debts x1 FU 0 0)
theorem gv_X1_netOf {own : String} {idx : Nat} (h : Cond.methodLink own idx yX1_netOf ∈ lw_g) : GoodIn lw_g (wsV own idx RX1 yX1_netOf (Cond.code yX1_netOf cX1_netOf 4 (some .int) :: lw_g)) := gV h w_540 w_541 w_62 w_542
theorem hd_X1_netOf : yX1_netOf.cls = RX1 ∧ yX1_netOf.cls ≠ "java/lang/invoke/MethodHandle" ∧ yX1_netOf.cls ≠ "java/lang/invoke/VarHandle" ∧ (parseMethodDescriptor yX1_netOf.desc).map (fun d => d.parameters.length) = some 1 := by decide +kernel
set_option maxHeartbeats 4000000 in
set_option maxRecDepth 100000 in
theorem c_X1_netOf (l : Launch) (D : va_G) (cI cJ cZ : ClassId) (en : EnT) (q_t q_t_debts q_t_criers q_t_louds q_t_highs q_t_hours q_t_hearers q_t_minutes : Nat) (sz : Nat) (v_t_cries : Int32) (v_t_notes : Int32) (v_t_debts : Nat → Int32) (v_t_criers : Nat → Int32) (v_t_louds : Nat → Int32) (v_t_highs : Nat → Int32) (v_t_hours : Nat → Int32) (v_t_hearers : Nat → Int32) (v_t_minutes : Nat → Int32) (x1 : Int32) {z : Int32} (hf : f_X1_netOf v_t_debts x1 = some z) : Met l yX1_netOf (Cond.code yX1_netOf cX1_netOf 4 (some .int) :: lw_g) ({ frames := 2, cells := 0, slots := 0, locals := 42 } : Room) (PC D cI cJ cZ en ([.ref q_t, .int x1] : List Value) [(q_t, .inr (1, [.ref q_t_debts, .ref q_t_criers, .ref q_t_louds, .ref q_t_highs, .ref q_t_hours, .ref q_t_hearers, .ref q_t_minutes, .int v_t_cries, .int v_t_notes])), (q_t_debts, .inl (cI, 36, .inl v_t_debts)), (q_t_criers, .inl (cI, 20, .inl v_t_criers)), (q_t_louds, .inl (cI, 20, .inl v_t_louds)), (q_t_highs, .inl (cZ, 20, .inl v_t_highs)), (q_t_hours, .inl (cI, 20, .inl v_t_hours)), (q_t_hearers, .inl (cI, 12, .inl v_t_hearers)), (q_t_minutes, .inl (cI, 12, .inl v_t_minutes))] sz) (QI D cI cJ cZ [(q_t, .inr (1, [.ref q_t_debts, .ref q_t_criers, .ref q_t_louds, .ref q_t_highs, .ref q_t_hours, .ref q_t_hearers, .ref q_t_minutes, .int v_t_cries, .int v_t_notes])), (q_t_debts, .inl (cI, 36, .inl v_t_debts)), (q_t_criers, .inl (cI, 20, .inl v_t_criers)), (q_t_louds, .inl (cI, 20, .inl v_t_louds)), (q_t_highs, .inl (cZ, 20, .inl v_t_highs)), (q_t_hours, .inl (cI, 20, .inl v_t_hours)), (q_t_hearers, .inl (cI, 12, .inl v_t_hearers)), (q_t_minutes, .inl (cI, 12, .inl v_t_minutes))] z (va_A [(q_t, .inr (1, [.ref q_t_debts, .ref q_t_criers, .ref q_t_louds, .ref q_t_highs, .ref q_t_hours, .ref q_t_hearers, .ref q_t_minutes, .int v_t_cries, .int v_t_notes])), (q_t_debts, .inl (cI, 36, .inl v_t_debts)), (q_t_criers, .inl (cI, 20, .inl v_t_criers)), (q_t_louds, .inl (cI, 20, .inl v_t_louds)), (q_t_highs, .inl (cZ, 20, .inl v_t_highs)), (q_t_hours, .inl (cI, 20, .inl v_t_hours)), (q_t_hearers, .inl (cI, 12, .inl v_t_hearers)), (q_t_minutes, .inl (cI, 12, .inl v_t_minutes))] sz)) 0 0 (va_A [(q_t, .inr (1, [.ref q_t_debts, .ref q_t_criers, .ref q_t_louds, .ref q_t_highs, .ref q_t_hours, .ref q_t_hearers, .ref q_t_minutes, .int v_t_cries, .int v_t_notes])), (q_t_debts, .inl (cI, 36, .inl v_t_debts)), (q_t_criers, .inl (cI, 20, .inl v_t_criers)), (q_t_louds, .inl (cI, 20, .inl v_t_louds)), (q_t_highs, .inl (cZ, 20, .inl v_t_highs)), (q_t_hours, .inl (cI, 20, .inl v_t_hours)), (q_t_hearers, .inl (cI, 12, .inl v_t_hearers)), (q_t_minutes, .inl (cI, 12, .inl v_t_minutes))] sz) := by
  refine mk_met (Qc := fun A => (QI D cI cJ cZ [(q_t, .inr (1, [.ref q_t_debts, .ref q_t_criers, .ref q_t_louds, .ref q_t_highs, .ref q_t_hours, .ref q_t_hearers, .ref q_t_minutes, .int v_t_cries, .int v_t_notes])), (q_t_debts, .inl (cI, 36, .inl v_t_debts)), (q_t_criers, .inl (cI, 20, .inl v_t_criers)), (q_t_louds, .inl (cI, 20, .inl v_t_louds)), (q_t_highs, .inl (cZ, 20, .inl v_t_highs)), (q_t_hours, .inl (cI, 20, .inl v_t_hours)), (q_t_hearers, .inl (cI, 12, .inl v_t_hearers)), (q_t_minutes, .inl (cI, 12, .inl v_t_minutes))] z A)) RX1 (by decide) rfl (Nat.le_of_ble_eq_true rfl) ?_
  intro p e s m below meth c ls A hx hb hr hml hown hts hlocks hA hK hE hl hD H locs hP hS
  have hl : lv_has ls 4 [(0, .ref q_t), (1, .int x1)] := hl
  unfold f_X1_netOf at hf
  refine lv_iconst (v := 0) hx hb dX1_netOf_0 (by decide) ?_
  refine lv_istore_n (lv' := [(2, .int 0), (0, .ref q_t), (1, .int x1)]) hx hb dX1_netOf_1 rfl hl (by decide) rfl (fun ls hl => ?_)
  refine lv_iconst (v := 0) hx hb dX1_netOf_2 (by decide) ?_
  refine lv_istore_n (lv' := [(3, .int 0), (2, .int 0), (0, .ref q_t), (1, .int x1)]) hx hb dX1_netOf_3 rfl hl (by decide) rfl (fun ls hl => ?_)
  have L4_3 : ∀ (n : Nat) (x2_1 : Int32) (x3_2 : Int32), f_X1_netOf_L4 v_t_debts x1 n x2_1 x3_2 = some z → ∀ (H : Heap) (locs : List Loc) (ls : Array Slot), va_P D vwCl [(q_t, .inr (1, [.ref q_t_debts, .ref q_t_criers, .ref q_t_louds, .ref q_t_highs, .ref q_t_hours, .ref q_t_hearers, .ref q_t_minutes, .int v_t_cries, .int v_t_notes])), (q_t_debts, .inl (cI, 36, .inl v_t_debts)), (q_t_criers, .inl (cI, 20, .inl v_t_criers)), (q_t_louds, .inl (cI, 20, .inl v_t_louds)), (q_t_highs, .inl (cZ, 20, .inl v_t_highs)), (q_t_hours, .inl (cI, 20, .inl v_t_hours)), (q_t_hearers, .inl (cI, 12, .inl v_t_hearers)), (q_t_minutes, .inl (cI, 12, .inl v_t_minutes))] H → va_D A [(q_t, .inr (1, [.ref q_t_debts, .ref q_t_criers, .ref q_t_louds, .ref q_t_highs, .ref q_t_hours, .ref q_t_hearers, .ref q_t_minutes, .int v_t_cries, .int v_t_notes])), (q_t_debts, .inl (cI, 36, .inl v_t_debts)), (q_t_criers, .inl (cI, 20, .inl v_t_criers)), (q_t_louds, .inl (cI, 20, .inl v_t_louds)), (q_t_highs, .inl (cZ, 20, .inl v_t_highs)), (q_t_hours, .inl (cI, 20, .inl v_t_hours)), (q_t_hearers, .inl (cI, 12, .inl v_t_hearers)), (q_t_minutes, .inl (cI, 12, .inl v_t_minutes))] → va_S A s.heap H locs → lv_has ls 4 [(0, .ref q_t), (1, .int x1), (2, .int x2_1), (3, .int x3_2)] → W p l e ({ frames := 2, cells := 0, slots := 0, locals := 42 } : Room) s m ([.ref q_t, .int x1] : List Value).toArray below meth c H locs 0 0 (MQ below (QI D cI cJ cZ [(q_t, .inr (1, [.ref q_t_debts, .ref q_t_criers, .ref q_t_louds, .ref q_t_highs, .ref q_t_hours, .ref q_t_hearers, .ref q_t_minutes, .int v_t_cries, .int v_t_notes])), (q_t_debts, .inl (cI, 36, .inl v_t_debts)), (q_t_criers, .inl (cI, 20, .inl v_t_criers)), (q_t_louds, .inl (cI, 20, .inl v_t_louds)), (q_t_highs, .inl (cZ, 20, .inl v_t_highs)), (q_t_hours, .inl (cI, 20, .inl v_t_hours)), (q_t_hearers, .inl (cI, 12, .inl v_t_hearers)), (q_t_minutes, .inl (cI, 12, .inl v_t_minutes))] z A) ([.ref q_t, .int x1] : List Value).toArray s 0 0 A) (F0 m 4 ls []) := by
    intro n
    induction n with
    | zero =>
      intro x2_1 x3_2 hf
      cases hf
    | succ n ih_4 =>
      intro x2_1 x3_2 hf H locs ls hP hD hS hl
      rw [f_X1_netOf_L4] at hf
      refine lv_iload_n hx hb dX1_netOf_4 rfl (lv_at hl 3 rfl) ?_
      refine lv_bipush (v := 6) hx hb dX1_netOf_5 (by decide) ?_
      refine lv_icmp_ge (tgt := 25) hx hb dX1_netOf_7 (by decide) (fun h_5 => ?_) (fun h_5 => ?_)
      · have hf := (if_pos h_5).symm.trans hf
        refine lv_iload_n hx hb dX1_netOf_25 rfl (lv_at hl 2 rfl) ?_
        cases hf
        exact rt_i hx hb hr hlocks hK hP hS dX1_netOf_26
      · have hf := (if_neg h_5).symm.trans hf
        refine lv_iload_n hx hb dX1_netOf_10 rfl (lv_at hl 2 rfl) ?_
        refine lv_aload_n hx hb dX1_netOf_11 rfl (lv_at hl 0 rfl) ?_
        refine lv_iload_n hx hb dX1_netOf_12 rfl (lv_at hl 3 rfl) ?_
        refine lv_iload_n hx hb dX1_netOf_13 rfl (lv_at hl 1 rfl) ?_
        obtain ⟨z14_6, hz14_6, hf⟩ := bd_some hf
        refine cVi (rest := [.int x2_1]) ⟨hx, hb, hml, hown, hts⟩ hE hK hP hD hS hA (c_X1_debt l D cI cJ cZ en q_t q_t_debts q_t_criers q_t_louds q_t_highs q_t_hours q_t_hearers q_t_minutes H.size v_t_cries v_t_notes v_t_debts v_t_criers v_t_louds v_t_highs v_t_hours v_t_hearers v_t_minutes x3_2 x1 hz14_6) (gv_X1_debt w_543) hd_X1_debt ⟨rfl, rfl⟩ ⟨by decide, by decide⟩ [0, 1, 2, 3, 4, 5, 6, 7] rfl rfl rfl 1 rfl rfl 0 rfl  hl rfl (Nat.le_of_ble_eq_true rfl) ⟨Nat.zero_le _, Nat.zero_le _⟩ dX1_netOf_14 (fun H locs hP hD hS => ?_)
        have hP : va_P D vwCl [(q_t, .inr (1, [.ref q_t_debts, .ref q_t_criers, .ref q_t_louds, .ref q_t_highs, .ref q_t_hours, .ref q_t_hearers, .ref q_t_minutes, .int v_t_cries, .int v_t_notes])), (q_t_debts, .inl (cI, 36, .inl v_t_debts)), (q_t_criers, .inl (cI, 20, .inl v_t_criers)), (q_t_louds, .inl (cI, 20, .inl v_t_louds)), (q_t_highs, .inl (cZ, 20, .inl v_t_highs)), (q_t_hours, .inl (cI, 20, .inl v_t_hours)), (q_t_hearers, .inl (cI, 12, .inl v_t_hearers)), (q_t_minutes, .inl (cI, 12, .inl v_t_minutes))] H := hP
        have hD : va_D A [(q_t, .inr (1, [.ref q_t_debts, .ref q_t_criers, .ref q_t_louds, .ref q_t_highs, .ref q_t_hours, .ref q_t_hearers, .ref q_t_minutes, .int v_t_cries, .int v_t_notes])), (q_t_debts, .inl (cI, 36, .inl v_t_debts)), (q_t_criers, .inl (cI, 20, .inl v_t_criers)), (q_t_louds, .inl (cI, 20, .inl v_t_louds)), (q_t_highs, .inl (cZ, 20, .inl v_t_highs)), (q_t_hours, .inl (cI, 20, .inl v_t_hours)), (q_t_hearers, .inl (cI, 12, .inl v_t_hearers)), (q_t_minutes, .inl (cI, 12, .inl v_t_minutes))] := hD
        refine lv_iadd hx hb dX1_netOf_17 ?_
        refine lv_istore_n (lv' := [(2, .int (x2_1 + z14_6)), (0, .ref q_t), (1, .int x1), (3, .int x3_2)]) hx hb dX1_netOf_18 rfl hl (by decide) rfl (fun ls hl => ?_)
        refine lv_iinc (v := (x3_2 + 1)) (lv' := [(3, .int (x3_2 + 1)), (2, .int (x2_1 + z14_6)), (0, .ref q_t), (1, .int x1)]) hx hb dX1_netOf_19 hl (k := 3) rfl rfl (by decide) rfl (fun ls hl => ?_)
        refine lv_goto (tgt := 4) hx hb dX1_netOf_22 (by decide) ?_
        exact ih_4 (x2_1 + z14_6) (x3_2 + 1) hf _ _ _ hP hD hS (lv_sub hl [2, 3, 1, 0] rfl)
  exact L4_3 FU 0 0 hf _ _ _ hP hD hS (lv_sub hl [2, 3, 1, 0] rfl)

def f_X1_addCry (v_t_cries : Int32) (v_t_criers : Nat → Int32) (v_t_louds : Nat → Int32) (v_t_highs : Nat → Int32) (v_t_hours : Nat → Int32) (x1 : Int32) (x2 : Int32) (x3 : Int32) (x4 : Int32) : Option (Int32 × (Nat → Int32) × (Nat → Int32) × (Nat → Int32) × (Nat → Int32)) :=
  (if v_t_cries < 0 then (some (v_t_cries, v_t_criers, v_t_louds, v_t_highs, v_t_hours)) else (if v_t_cries < 20 then gd (ib v_t_cries 20) (gd (ib v_t_cries 20) (gd (ib v_t_cries 20) (gd (ib v_t_cries 20) ((some ((v_t_cries + 1), (upd v_t_criers (Int32.toNatClampNeg v_t_cries) x1), (upd v_t_louds (Int32.toNatClampNeg v_t_cries) x2), (upd v_t_highs (Int32.toNatClampNeg v_t_cries) (vp_nar .boolean x3)), (upd v_t_hours (Int32.toNatClampNeg v_t_cries) x4))))))) else (some (v_t_cries, v_t_criers, v_t_louds, v_t_highs, v_t_hours))))
theorem gv_X1_addCry {own : String} {idx : Nat} (h : Cond.methodLink own idx yX1_addCry ∈ lw_g) : GoodIn lw_g (wsV own idx RX1 yX1_addCry (Cond.code yX1_addCry cX1_addCry 5 none :: lw_g)) := gV h w_667 w_668 w_62 w_669
theorem hd_X1_addCry : yX1_addCry.cls = RX1 ∧ yX1_addCry.cls ≠ "java/lang/invoke/MethodHandle" ∧ yX1_addCry.cls ≠ "java/lang/invoke/VarHandle" ∧ (parseMethodDescriptor yX1_addCry.desc).map (fun d => d.parameters.length) = some 4 := by decide +kernel
set_option maxHeartbeats 4000000 in
set_option maxRecDepth 100000 in
theorem c_X1_addCry (l : Launch) (D : va_G) (cI cJ cZ : ClassId) (en : EnT) (q_t q_t_debts q_t_criers q_t_louds q_t_highs q_t_hours q_t_hearers q_t_minutes : Nat) (sz : Nat) (v_t_cries : Int32) (v_t_notes : Int32) (v_t_debts : Nat → Int32) (v_t_criers : Nat → Int32) (v_t_louds : Nat → Int32) (v_t_highs : Nat → Int32) (v_t_hours : Nat → Int32) (v_t_hearers : Nat → Int32) (v_t_minutes : Nat → Int32) (x1 : Int32) (x2 : Int32) (x3 : Int32) (x4 : Int32) {z : Int32 × (Nat → Int32) × (Nat → Int32) × (Nat → Int32) × (Nat → Int32)} (hf : f_X1_addCry v_t_cries v_t_criers v_t_louds v_t_highs v_t_hours x1 x2 x3 x4 = some z) : Met l yX1_addCry (Cond.code yX1_addCry cX1_addCry 5 none :: lw_g) ({ frames := 0, cells := 0, slots := 0, locals := 0 } : Room) (PC D cI cJ cZ en ([.ref q_t, .int x1, .int x2, .int x3, .int x4] : List Value) [(q_t, .inr (1, [.ref q_t_debts, .ref q_t_criers, .ref q_t_louds, .ref q_t_highs, .ref q_t_hours, .ref q_t_hearers, .ref q_t_minutes, .int v_t_cries, .int v_t_notes])), (q_t_debts, .inl (cI, 36, .inl v_t_debts)), (q_t_criers, .inl (cI, 20, .inl v_t_criers)), (q_t_louds, .inl (cI, 20, .inl v_t_louds)), (q_t_highs, .inl (cZ, 20, .inl v_t_highs)), (q_t_hours, .inl (cI, 20, .inl v_t_hours)), (q_t_hearers, .inl (cI, 12, .inl v_t_hearers)), (q_t_minutes, .inl (cI, 12, .inl v_t_minutes))] sz) (QV D cI cJ cZ [(q_t, .inr (1, [.ref q_t_debts, .ref q_t_criers, .ref q_t_louds, .ref q_t_highs, .ref q_t_hours, .ref q_t_hearers, .ref q_t_minutes, .int z.1, .int v_t_notes])), (q_t_debts, .inl (cI, 36, .inl v_t_debts)), (q_t_criers, .inl (cI, 20, .inl z.2.1)), (q_t_louds, .inl (cI, 20, .inl z.2.2.1)), (q_t_highs, .inl (cZ, 20, .inl z.2.2.2.1)), (q_t_hours, .inl (cI, 20, .inl z.2.2.2.2)), (q_t_hearers, .inl (cI, 12, .inl v_t_hearers)), (q_t_minutes, .inl (cI, 12, .inl v_t_minutes))] (va_A [(q_t, .inr (1, [.ref q_t_debts, .ref q_t_criers, .ref q_t_louds, .ref q_t_highs, .ref q_t_hours, .ref q_t_hearers, .ref q_t_minutes, .int v_t_cries, .int v_t_notes])), (q_t_debts, .inl (cI, 36, .inl v_t_debts)), (q_t_criers, .inl (cI, 20, .inl v_t_criers)), (q_t_louds, .inl (cI, 20, .inl v_t_louds)), (q_t_highs, .inl (cZ, 20, .inl v_t_highs)), (q_t_hours, .inl (cI, 20, .inl v_t_hours)), (q_t_hearers, .inl (cI, 12, .inl v_t_hearers)), (q_t_minutes, .inl (cI, 12, .inl v_t_minutes))] sz)) 0 0 (va_A [(q_t, .inr (1, [.ref q_t_debts, .ref q_t_criers, .ref q_t_louds, .ref q_t_highs, .ref q_t_hours, .ref q_t_hearers, .ref q_t_minutes, .int v_t_cries, .int v_t_notes])), (q_t_debts, .inl (cI, 36, .inl v_t_debts)), (q_t_criers, .inl (cI, 20, .inl v_t_criers)), (q_t_louds, .inl (cI, 20, .inl v_t_louds)), (q_t_highs, .inl (cZ, 20, .inl v_t_highs)), (q_t_hours, .inl (cI, 20, .inl v_t_hours)), (q_t_hearers, .inl (cI, 12, .inl v_t_hearers)), (q_t_minutes, .inl (cI, 12, .inl v_t_minutes))] sz) := by
  refine mk_met (Qc := fun A => (QV D cI cJ cZ [(q_t, .inr (1, [.ref q_t_debts, .ref q_t_criers, .ref q_t_louds, .ref q_t_highs, .ref q_t_hours, .ref q_t_hearers, .ref q_t_minutes, .int z.1, .int v_t_notes])), (q_t_debts, .inl (cI, 36, .inl v_t_debts)), (q_t_criers, .inl (cI, 20, .inl z.2.1)), (q_t_louds, .inl (cI, 20, .inl z.2.2.1)), (q_t_highs, .inl (cZ, 20, .inl z.2.2.2.1)), (q_t_hours, .inl (cI, 20, .inl z.2.2.2.2)), (q_t_hearers, .inl (cI, 12, .inl v_t_hearers)), (q_t_minutes, .inl (cI, 12, .inl v_t_minutes))] A)) RX1 (by decide) rfl (Nat.le_of_ble_eq_true rfl) ?_
  intro p e s m below meth c ls A hx hb hr hml hown hts hlocks hA hK hE hl hD H locs hP hS
  have hl : lv_has ls 5 [(0, .ref q_t), (1, .int x1), (2, .int x2), (3, .int x3), (4, .int x4)] := hl
  unfold f_X1_addCry at hf
  refine lv_aload_n hx hb dX1_addCry_0 rfl (lv_at hl 0 rfl) ?_
  refine va_get (D := D) (ci := 1) (v := .int v_t_cries) (C := RX1) (T := TX1) (N := 9) hx hb hts inX1 hown hK hP 0 rfl rfl 7 (by decide) (hts _ w_185) (fun _ h9 => h9) rfl dX1_addCry_1 ?_
  refine lv_if_lt (tgt := 16) hx hb dX1_addCry_4 (by decide) (fun h_1 => ?_) (fun h_1 => ?_)
  · have hf := (if_pos h_1).symm.trans hf
    cases hf
    exact rt_v hx hb hr hlocks hK hP hS dX1_addCry_16
  · have hf := (if_neg h_1).symm.trans hf
    refine lv_aload_n hx hb dX1_addCry_7 rfl (lv_at hl 0 rfl) ?_
    refine va_get (D := D) (ci := 1) (v := .int v_t_cries) (C := RX1) (T := TX1) (N := 9) hx hb hts inX1 hown hK hP 0 rfl rfl 7 (by decide) (hts _ w_185) (fun _ h9 => h9) rfl dX1_addCry_8 ?_
    refine lv_bipush (v := 20) hx hb dX1_addCry_11 (by decide) ?_
    refine lv_icmp_lt (tgt := 17) hx hb dX1_addCry_13 (by decide) (fun h_2 => ?_) (fun h_2 => ?_)
    · have hf := (if_pos h_2).symm.trans hf
      refine lv_aload_n hx hb dX1_addCry_17 rfl (lv_at hl 0 rfl) ?_
      refine va_get (D := D) (ci := 1) (v := .ref q_t_criers) (C := RX1) (T := TX1) (N := 9) hx hb hts inX1 hown hK hP 0 rfl rfl 1 (by decide) (hts _ w_179) (fun _ h9 => h9) rfl dX1_addCry_18 ?_
      refine lv_aload_n hx hb dX1_addCry_21 rfl (lv_at hl 0 rfl) ?_
      refine va_get (D := D) (ci := 1) (v := .int v_t_cries) (C := RX1) (T := TX1) (N := 9) hx hb hts inX1 hown hK hP 0 rfl rfl 7 (by decide) (hts _ w_185) (fun _ h9 => h9) rfl dX1_addCry_22 ?_
      refine lv_iload_n hx hb dX1_addCry_25 rfl (lv_at hl 1 rfl) ?_
      obtain ⟨hin, hf⟩ := gd_some hf
      refine va_iast hx hb hK hP hD hS 2 0 rfl rfl hin dX1_addCry_26 (fun H locs hP hD hS => ?_)
      have hP : va_P D vwCl [(q_t, .inr (1, [.ref q_t_debts, .ref q_t_criers, .ref q_t_louds, .ref q_t_highs, .ref q_t_hours, .ref q_t_hearers, .ref q_t_minutes, .int v_t_cries, .int v_t_notes])), (q_t_debts, .inl (cI, 36, .inl v_t_debts)), (q_t_criers, .inl (cI, 20, .inl (upd v_t_criers (Int32.toNatClampNeg v_t_cries) x1))), (q_t_louds, .inl (cI, 20, .inl v_t_louds)), (q_t_highs, .inl (cZ, 20, .inl v_t_highs)), (q_t_hours, .inl (cI, 20, .inl v_t_hours)), (q_t_hearers, .inl (cI, 12, .inl v_t_hearers)), (q_t_minutes, .inl (cI, 12, .inl v_t_minutes))] H := hP
      have hD : va_D A [(q_t, .inr (1, [.ref q_t_debts, .ref q_t_criers, .ref q_t_louds, .ref q_t_highs, .ref q_t_hours, .ref q_t_hearers, .ref q_t_minutes, .int v_t_cries, .int v_t_notes])), (q_t_debts, .inl (cI, 36, .inl v_t_debts)), (q_t_criers, .inl (cI, 20, .inl (upd v_t_criers (Int32.toNatClampNeg v_t_cries) x1))), (q_t_louds, .inl (cI, 20, .inl v_t_louds)), (q_t_highs, .inl (cZ, 20, .inl v_t_highs)), (q_t_hours, .inl (cI, 20, .inl v_t_hours)), (q_t_hearers, .inl (cI, 12, .inl v_t_hearers)), (q_t_minutes, .inl (cI, 12, .inl v_t_minutes))] := hD
      refine lv_aload_n hx hb dX1_addCry_27 rfl (lv_at hl 0 rfl) ?_
      refine va_get (D := D) (ci := 1) (v := .ref q_t_louds) (C := RX1) (T := TX1) (N := 9) hx hb hts inX1 hown hK hP 0 rfl rfl 2 (by decide) (hts _ w_180) (fun _ h9 => h9) rfl dX1_addCry_28 ?_
      refine lv_aload_n hx hb dX1_addCry_31 rfl (lv_at hl 0 rfl) ?_
      refine va_get (D := D) (ci := 1) (v := .int v_t_cries) (C := RX1) (T := TX1) (N := 9) hx hb hts inX1 hown hK hP 0 rfl rfl 7 (by decide) (hts _ w_185) (fun _ h9 => h9) rfl dX1_addCry_32 ?_
      refine lv_iload_n hx hb dX1_addCry_35 rfl (lv_at hl 2 rfl) ?_
      obtain ⟨hin, hf⟩ := gd_some hf
      refine va_iast hx hb hK hP hD hS 3 0 rfl rfl hin dX1_addCry_36 (fun H locs hP hD hS => ?_)
      have hP : va_P D vwCl [(q_t, .inr (1, [.ref q_t_debts, .ref q_t_criers, .ref q_t_louds, .ref q_t_highs, .ref q_t_hours, .ref q_t_hearers, .ref q_t_minutes, .int v_t_cries, .int v_t_notes])), (q_t_debts, .inl (cI, 36, .inl v_t_debts)), (q_t_criers, .inl (cI, 20, .inl (upd v_t_criers (Int32.toNatClampNeg v_t_cries) x1))), (q_t_louds, .inl (cI, 20, .inl (upd v_t_louds (Int32.toNatClampNeg v_t_cries) x2))), (q_t_highs, .inl (cZ, 20, .inl v_t_highs)), (q_t_hours, .inl (cI, 20, .inl v_t_hours)), (q_t_hearers, .inl (cI, 12, .inl v_t_hearers)), (q_t_minutes, .inl (cI, 12, .inl v_t_minutes))] H := hP
      have hD : va_D A [(q_t, .inr (1, [.ref q_t_debts, .ref q_t_criers, .ref q_t_louds, .ref q_t_highs, .ref q_t_hours, .ref q_t_hearers, .ref q_t_minutes, .int v_t_cries, .int v_t_notes])), (q_t_debts, .inl (cI, 36, .inl v_t_debts)), (q_t_criers, .inl (cI, 20, .inl (upd v_t_criers (Int32.toNatClampNeg v_t_cries) x1))), (q_t_louds, .inl (cI, 20, .inl (upd v_t_louds (Int32.toNatClampNeg v_t_cries) x2))), (q_t_highs, .inl (cZ, 20, .inl v_t_highs)), (q_t_hours, .inl (cI, 20, .inl v_t_hours)), (q_t_hearers, .inl (cI, 12, .inl v_t_hearers)), (q_t_minutes, .inl (cI, 12, .inl v_t_minutes))] := hD
      refine lv_aload_n hx hb dX1_addCry_37 rfl (lv_at hl 0 rfl) ?_
      refine va_get (D := D) (ci := 1) (v := .ref q_t_highs) (C := RX1) (T := TX1) (N := 9) hx hb hts inX1 hown hK hP 0 rfl rfl 3 (by decide) (hts _ w_181) (fun _ h9 => h9) rfl dX1_addCry_38 ?_
      refine lv_aload_n hx hb dX1_addCry_41 rfl (lv_at hl 0 rfl) ?_
      refine va_get (D := D) (ci := 1) (v := .int v_t_cries) (C := RX1) (T := TX1) (N := 9) hx hb hts inX1 hown hK hP 0 rfl rfl 7 (by decide) (hts _ w_185) (fun _ h9 => h9) rfl dX1_addCry_42 ?_
      refine lv_iload_n hx hb dX1_addCry_45 rfl (lv_at hl 3 rfl) ?_
      obtain ⟨hin, hf⟩ := gd_some hf
      refine va_zast hx hb hK hP hD hS 4 2 rfl rfl hin dX1_addCry_46 (fun H locs hP hD hS => ?_)
      have hP : va_P D vwCl [(q_t, .inr (1, [.ref q_t_debts, .ref q_t_criers, .ref q_t_louds, .ref q_t_highs, .ref q_t_hours, .ref q_t_hearers, .ref q_t_minutes, .int v_t_cries, .int v_t_notes])), (q_t_debts, .inl (cI, 36, .inl v_t_debts)), (q_t_criers, .inl (cI, 20, .inl (upd v_t_criers (Int32.toNatClampNeg v_t_cries) x1))), (q_t_louds, .inl (cI, 20, .inl (upd v_t_louds (Int32.toNatClampNeg v_t_cries) x2))), (q_t_highs, .inl (cZ, 20, .inl (upd v_t_highs (Int32.toNatClampNeg v_t_cries) (vp_nar .boolean x3)))), (q_t_hours, .inl (cI, 20, .inl v_t_hours)), (q_t_hearers, .inl (cI, 12, .inl v_t_hearers)), (q_t_minutes, .inl (cI, 12, .inl v_t_minutes))] H := hP
      have hD : va_D A [(q_t, .inr (1, [.ref q_t_debts, .ref q_t_criers, .ref q_t_louds, .ref q_t_highs, .ref q_t_hours, .ref q_t_hearers, .ref q_t_minutes, .int v_t_cries, .int v_t_notes])), (q_t_debts, .inl (cI, 36, .inl v_t_debts)), (q_t_criers, .inl (cI, 20, .inl (upd v_t_criers (Int32.toNatClampNeg v_t_cries) x1))), (q_t_louds, .inl (cI, 20, .inl (upd v_t_louds (Int32.toNatClampNeg v_t_cries) x2))), (q_t_highs, .inl (cZ, 20, .inl (upd v_t_highs (Int32.toNatClampNeg v_t_cries) (vp_nar .boolean x3)))), (q_t_hours, .inl (cI, 20, .inl v_t_hours)), (q_t_hearers, .inl (cI, 12, .inl v_t_hearers)), (q_t_minutes, .inl (cI, 12, .inl v_t_minutes))] := hD
      refine lv_aload_n hx hb dX1_addCry_47 rfl (lv_at hl 0 rfl) ?_
      refine va_get (D := D) (ci := 1) (v := .ref q_t_hours) (C := RX1) (T := TX1) (N := 9) hx hb hts inX1 hown hK hP 0 rfl rfl 4 (by decide) (hts _ w_182) (fun _ h9 => h9) rfl dX1_addCry_48 ?_
      refine lv_aload_n hx hb dX1_addCry_51 rfl (lv_at hl 0 rfl) ?_
      refine va_get (D := D) (ci := 1) (v := .int v_t_cries) (C := RX1) (T := TX1) (N := 9) hx hb hts inX1 hown hK hP 0 rfl rfl 7 (by decide) (hts _ w_185) (fun _ h9 => h9) rfl dX1_addCry_52 ?_
      refine lv_iload hx hb dX1_addCry_55 (lv_at hl 4 rfl) ?_
      obtain ⟨hin, hf⟩ := gd_some hf
      refine va_iast hx hb hK hP hD hS 5 0 rfl rfl hin dX1_addCry_57 (fun H locs hP hD hS => ?_)
      have hP : va_P D vwCl [(q_t, .inr (1, [.ref q_t_debts, .ref q_t_criers, .ref q_t_louds, .ref q_t_highs, .ref q_t_hours, .ref q_t_hearers, .ref q_t_minutes, .int v_t_cries, .int v_t_notes])), (q_t_debts, .inl (cI, 36, .inl v_t_debts)), (q_t_criers, .inl (cI, 20, .inl (upd v_t_criers (Int32.toNatClampNeg v_t_cries) x1))), (q_t_louds, .inl (cI, 20, .inl (upd v_t_louds (Int32.toNatClampNeg v_t_cries) x2))), (q_t_highs, .inl (cZ, 20, .inl (upd v_t_highs (Int32.toNatClampNeg v_t_cries) (vp_nar .boolean x3)))), (q_t_hours, .inl (cI, 20, .inl (upd v_t_hours (Int32.toNatClampNeg v_t_cries) x4))), (q_t_hearers, .inl (cI, 12, .inl v_t_hearers)), (q_t_minutes, .inl (cI, 12, .inl v_t_minutes))] H := hP
      have hD : va_D A [(q_t, .inr (1, [.ref q_t_debts, .ref q_t_criers, .ref q_t_louds, .ref q_t_highs, .ref q_t_hours, .ref q_t_hearers, .ref q_t_minutes, .int v_t_cries, .int v_t_notes])), (q_t_debts, .inl (cI, 36, .inl v_t_debts)), (q_t_criers, .inl (cI, 20, .inl (upd v_t_criers (Int32.toNatClampNeg v_t_cries) x1))), (q_t_louds, .inl (cI, 20, .inl (upd v_t_louds (Int32.toNatClampNeg v_t_cries) x2))), (q_t_highs, .inl (cZ, 20, .inl (upd v_t_highs (Int32.toNatClampNeg v_t_cries) (vp_nar .boolean x3)))), (q_t_hours, .inl (cI, 20, .inl (upd v_t_hours (Int32.toNatClampNeg v_t_cries) x4))), (q_t_hearers, .inl (cI, 12, .inl v_t_hearers)), (q_t_minutes, .inl (cI, 12, .inl v_t_minutes))] := hD
      refine lv_aload_n hx hb dX1_addCry_58 rfl (lv_at hl 0 rfl) ?_
      refine lv_dup hx hb dX1_addCry_59 rfl ?_
      refine va_get (D := D) (ci := 1) (v := .int v_t_cries) (C := RX1) (T := TX1) (N := 9) hx hb hts inX1 hown hK hP 0 rfl rfl 7 (by decide) (hts _ w_185) (fun _ h9 => h9) rfl dX1_addCry_60 ?_
      refine lv_iconst (v := 1) hx hb dX1_addCry_63 (by decide) ?_
      refine lv_iadd hx hb dX1_addCry_64 ?_
      refine va_put (D := D) (ci := 1) (v := .int (v_t_cries + 1)) (ty := .int) (C := RX1) (T := TX1) (N := 9) hx hb hts inX1 tyX1 tyX1_ok nmX1 hown hK hP hD hS 0 rfl rfl 7 (by decide) (hts _ w_185) (fun _ h9 => h9) rfl (by decide +kernel) rfl rfl (Nat.le_of_ble_eq_true rfl) dX1_addCry_65 (fun H locs hP hD hS => ?_)
      have hP : va_P D vwCl [(q_t, .inr (1, [.ref q_t_debts, .ref q_t_criers, .ref q_t_louds, .ref q_t_highs, .ref q_t_hours, .ref q_t_hearers, .ref q_t_minutes, .int (v_t_cries + 1), .int v_t_notes])), (q_t_debts, .inl (cI, 36, .inl v_t_debts)), (q_t_criers, .inl (cI, 20, .inl (upd v_t_criers (Int32.toNatClampNeg v_t_cries) x1))), (q_t_louds, .inl (cI, 20, .inl (upd v_t_louds (Int32.toNatClampNeg v_t_cries) x2))), (q_t_highs, .inl (cZ, 20, .inl (upd v_t_highs (Int32.toNatClampNeg v_t_cries) (vp_nar .boolean x3)))), (q_t_hours, .inl (cI, 20, .inl (upd v_t_hours (Int32.toNatClampNeg v_t_cries) x4))), (q_t_hearers, .inl (cI, 12, .inl v_t_hearers)), (q_t_minutes, .inl (cI, 12, .inl v_t_minutes))] H := hP
      have hD : va_D A [(q_t, .inr (1, [.ref q_t_debts, .ref q_t_criers, .ref q_t_louds, .ref q_t_highs, .ref q_t_hours, .ref q_t_hearers, .ref q_t_minutes, .int (v_t_cries + 1), .int v_t_notes])), (q_t_debts, .inl (cI, 36, .inl v_t_debts)), (q_t_criers, .inl (cI, 20, .inl (upd v_t_criers (Int32.toNatClampNeg v_t_cries) x1))), (q_t_louds, .inl (cI, 20, .inl (upd v_t_louds (Int32.toNatClampNeg v_t_cries) x2))), (q_t_highs, .inl (cZ, 20, .inl (upd v_t_highs (Int32.toNatClampNeg v_t_cries) (vp_nar .boolean x3)))), (q_t_hours, .inl (cI, 20, .inl (upd v_t_hours (Int32.toNatClampNeg v_t_cries) x4))), (q_t_hearers, .inl (cI, 12, .inl v_t_hearers)), (q_t_minutes, .inl (cI, 12, .inl v_t_minutes))] := hD
      cases hf
      exact rt_v hx hb hr hlocks hK hP hS dX1_addCry_68
    · have hf := (if_neg h_2).symm.trans hf
      cases hf
      exact rt_v hx hb hr hlocks hK hP hS dX1_addCry_16

def f_X1_isCry (x0 : Int32) : Option (Int32) :=
  (if x0 < 0 then (some 0) else (if 20 ≤ x0 then (some 0) else (some 1)))
theorem gs_X1_isCry {own : String} {idx : Nat} (h : Cond.methodLink own idx yX1_isCry ∈ lw_g) : GoodIn lw_g (va_wsS own idx yX1_isCry (Cond.code yX1_isCry cX1_isCry 1 (some .boolean) :: lw_g)) := gS h w_557 w_62 w_558
theorem hd_X1_isCry : yX1_isCry.cls ≠ "java/lang/invoke/MethodHandle" ∧ yX1_isCry.cls ≠ "java/lang/invoke/VarHandle" ∧ (parseMethodDescriptor yX1_isCry.desc).map (fun d => d.parameters.length) = some 1 := by decide +kernel
set_option maxHeartbeats 4000000 in
set_option maxRecDepth 100000 in
theorem c_X1_isCry (l : Launch) (D : va_G) (cI cJ cZ : ClassId) (en : EnT) (sz : Nat) (x0 : Int32) {z : Int32} (hf : f_X1_isCry x0 = some z) : Met l yX1_isCry (Cond.code yX1_isCry cX1_isCry 1 (some .boolean) :: lw_g) ({ frames := 0, cells := 0, slots := 0, locals := 0 } : Room) (PC D cI cJ cZ en ([.int x0] : List Value) [] sz) (QI D cI cJ cZ [] z (va_A [] sz)) 0 0 (va_A [] sz) := by
  refine mk_met (Qc := fun A => (QI D cI cJ cZ [] z A)) RX1 (by decide) rfl (Nat.le_of_ble_eq_true rfl) ?_
  intro p e s m below meth c ls A hx hb hr hml hown hts hlocks hA hK hE hl hD H locs hP hS
  have hl : lv_has ls 1 [(0, .int x0)] := hl
  unfold f_X1_isCry at hf
  refine lv_iload_n hx hb dX1_isCry_0 rfl (lv_at hl 0 rfl) ?_
  refine lv_if_lt (tgt := 14) hx hb dX1_isCry_1 (by decide) (fun h_1 => ?_) (fun h_1 => ?_)
  · have hf := (if_pos h_1).symm.trans hf
    refine lv_iconst (v := 0) hx hb dX1_isCry_14 (by decide) ?_
    cases hf
    exact rt_z hx hb hr hlocks hK hP hS (Or.inl rfl) dX1_isCry_15
  · have hf := (if_neg h_1).symm.trans hf
    refine lv_iload_n hx hb dX1_isCry_4 rfl (lv_at hl 0 rfl) ?_
    refine lv_bipush (v := 20) hx hb dX1_isCry_5 (by decide) ?_
    refine lv_icmp_ge (tgt := 14) hx hb dX1_isCry_7 (by decide) (fun h_2 => ?_) (fun h_2 => ?_)
    · have hf := (if_pos h_2).symm.trans hf
      refine lv_iconst (v := 0) hx hb dX1_isCry_14 (by decide) ?_
      cases hf
      exact rt_z hx hb hr hlocks hK hP hS (Or.inl rfl) dX1_isCry_15
    · have hf := (if_neg h_2).symm.trans hf
      refine lv_iconst (v := 1) hx hb dX1_isCry_10 (by decide) ?_
      refine lv_goto (tgt := 15) hx hb dX1_isCry_11 (by decide) ?_
      cases hf
      exact rt_z hx hb hr hlocks hK hP hS (Or.inr rfl) dX1_isCry_15

def f_X1_crierOf (v_t_criers : Nat → Int32) (x1 : Int32) : Option (Int32) :=
  (f_X1_isCry x1).bind (fun z1 => (if z1 = 0 then (some (-1)) else gd (ib x1 20) ((some (v_t_criers (Int32.toNatClampNeg x1))))))
theorem gv_X1_crierOf {own : String} {idx : Nat} (h : Cond.methodLink own idx yX1_crierOf ∈ lw_g) : GoodIn lw_g (wsV own idx RX1 yX1_crierOf (Cond.code yX1_crierOf cX1_crierOf 2 (some .int) :: lw_g)) := gV h w_553 w_554 w_62 w_555
theorem hd_X1_crierOf : yX1_crierOf.cls = RX1 ∧ yX1_crierOf.cls ≠ "java/lang/invoke/MethodHandle" ∧ yX1_crierOf.cls ≠ "java/lang/invoke/VarHandle" ∧ (parseMethodDescriptor yX1_crierOf.desc).map (fun d => d.parameters.length) = some 1 := by decide +kernel
set_option maxHeartbeats 4000000 in
set_option maxRecDepth 100000 in
theorem c_X1_crierOf (l : Launch) (D : va_G) (cI cJ cZ : ClassId) (en : EnT) (q_t q_t_debts q_t_criers q_t_louds q_t_highs q_t_hours q_t_hearers q_t_minutes : Nat) (sz : Nat) (v_t_cries : Int32) (v_t_notes : Int32) (v_t_debts : Nat → Int32) (v_t_criers : Nat → Int32) (v_t_louds : Nat → Int32) (v_t_highs : Nat → Int32) (v_t_hours : Nat → Int32) (v_t_hearers : Nat → Int32) (v_t_minutes : Nat → Int32) (x1 : Int32) {z : Int32} (hf : f_X1_crierOf v_t_criers x1 = some z) : Met l yX1_crierOf (Cond.code yX1_crierOf cX1_crierOf 2 (some .int) :: lw_g) ({ frames := 1, cells := 0, slots := 0, locals := 20 } : Room) (PC D cI cJ cZ en ([.ref q_t, .int x1] : List Value) [(q_t, .inr (1, [.ref q_t_debts, .ref q_t_criers, .ref q_t_louds, .ref q_t_highs, .ref q_t_hours, .ref q_t_hearers, .ref q_t_minutes, .int v_t_cries, .int v_t_notes])), (q_t_debts, .inl (cI, 36, .inl v_t_debts)), (q_t_criers, .inl (cI, 20, .inl v_t_criers)), (q_t_louds, .inl (cI, 20, .inl v_t_louds)), (q_t_highs, .inl (cZ, 20, .inl v_t_highs)), (q_t_hours, .inl (cI, 20, .inl v_t_hours)), (q_t_hearers, .inl (cI, 12, .inl v_t_hearers)), (q_t_minutes, .inl (cI, 12, .inl v_t_minutes))] sz) (QI D cI cJ cZ [(q_t, .inr (1, [.ref q_t_debts, .ref q_t_criers, .ref q_t_louds, .ref q_t_highs, .ref q_t_hours, .ref q_t_hearers, .ref q_t_minutes, .int v_t_cries, .int v_t_notes])), (q_t_debts, .inl (cI, 36, .inl v_t_debts)), (q_t_criers, .inl (cI, 20, .inl v_t_criers)), (q_t_louds, .inl (cI, 20, .inl v_t_louds)), (q_t_highs, .inl (cZ, 20, .inl v_t_highs)), (q_t_hours, .inl (cI, 20, .inl v_t_hours)), (q_t_hearers, .inl (cI, 12, .inl v_t_hearers)), (q_t_minutes, .inl (cI, 12, .inl v_t_minutes))] z (va_A [(q_t, .inr (1, [.ref q_t_debts, .ref q_t_criers, .ref q_t_louds, .ref q_t_highs, .ref q_t_hours, .ref q_t_hearers, .ref q_t_minutes, .int v_t_cries, .int v_t_notes])), (q_t_debts, .inl (cI, 36, .inl v_t_debts)), (q_t_criers, .inl (cI, 20, .inl v_t_criers)), (q_t_louds, .inl (cI, 20, .inl v_t_louds)), (q_t_highs, .inl (cZ, 20, .inl v_t_highs)), (q_t_hours, .inl (cI, 20, .inl v_t_hours)), (q_t_hearers, .inl (cI, 12, .inl v_t_hearers)), (q_t_minutes, .inl (cI, 12, .inl v_t_minutes))] sz)) 0 0 (va_A [(q_t, .inr (1, [.ref q_t_debts, .ref q_t_criers, .ref q_t_louds, .ref q_t_highs, .ref q_t_hours, .ref q_t_hearers, .ref q_t_minutes, .int v_t_cries, .int v_t_notes])), (q_t_debts, .inl (cI, 36, .inl v_t_debts)), (q_t_criers, .inl (cI, 20, .inl v_t_criers)), (q_t_louds, .inl (cI, 20, .inl v_t_louds)), (q_t_highs, .inl (cZ, 20, .inl v_t_highs)), (q_t_hours, .inl (cI, 20, .inl v_t_hours)), (q_t_hearers, .inl (cI, 12, .inl v_t_hearers)), (q_t_minutes, .inl (cI, 12, .inl v_t_minutes))] sz) := by
  refine mk_met (Qc := fun A => (QI D cI cJ cZ [(q_t, .inr (1, [.ref q_t_debts, .ref q_t_criers, .ref q_t_louds, .ref q_t_highs, .ref q_t_hours, .ref q_t_hearers, .ref q_t_minutes, .int v_t_cries, .int v_t_notes])), (q_t_debts, .inl (cI, 36, .inl v_t_debts)), (q_t_criers, .inl (cI, 20, .inl v_t_criers)), (q_t_louds, .inl (cI, 20, .inl v_t_louds)), (q_t_highs, .inl (cZ, 20, .inl v_t_highs)), (q_t_hours, .inl (cI, 20, .inl v_t_hours)), (q_t_hearers, .inl (cI, 12, .inl v_t_hearers)), (q_t_minutes, .inl (cI, 12, .inl v_t_minutes))] z A)) RX1 (by decide) rfl (Nat.le_of_ble_eq_true rfl) ?_
  intro p e s m below meth c ls A hx hb hr hml hown hts hlocks hA hK hE hl hD H locs hP hS
  have hl : lv_has ls 2 [(0, .ref q_t), (1, .int x1)] := hl
  unfold f_X1_crierOf at hf
  refine lv_iload_n hx hb dX1_crierOf_0 rfl (lv_at hl 1 rfl) ?_
  obtain ⟨z1_1, hz1_1, hf⟩ := bd_some hf
  refine cSi (rest := []) ⟨hx, hb, hml, hown, hts⟩ hE hK hP hD hS hA (c_X1_isCry l D cI cJ cZ en  H.size x1 hz1_1) (gs_X1_isCry w_556) hd_X1_isCry ⟨rfl, rfl⟩ ⟨by decide, by decide⟩ [] rfl rfl rfl  hl rfl (Nat.le_of_ble_eq_true rfl) ⟨Nat.zero_le _, Nat.zero_le _⟩ dX1_crierOf_1 (fun H locs hP hD hS => ?_)
  have hP : va_P D vwCl [(q_t, .inr (1, [.ref q_t_debts, .ref q_t_criers, .ref q_t_louds, .ref q_t_highs, .ref q_t_hours, .ref q_t_hearers, .ref q_t_minutes, .int v_t_cries, .int v_t_notes])), (q_t_debts, .inl (cI, 36, .inl v_t_debts)), (q_t_criers, .inl (cI, 20, .inl v_t_criers)), (q_t_louds, .inl (cI, 20, .inl v_t_louds)), (q_t_highs, .inl (cZ, 20, .inl v_t_highs)), (q_t_hours, .inl (cI, 20, .inl v_t_hours)), (q_t_hearers, .inl (cI, 12, .inl v_t_hearers)), (q_t_minutes, .inl (cI, 12, .inl v_t_minutes))] H := hP
  have hD : va_D A [(q_t, .inr (1, [.ref q_t_debts, .ref q_t_criers, .ref q_t_louds, .ref q_t_highs, .ref q_t_hours, .ref q_t_hearers, .ref q_t_minutes, .int v_t_cries, .int v_t_notes])), (q_t_debts, .inl (cI, 36, .inl v_t_debts)), (q_t_criers, .inl (cI, 20, .inl v_t_criers)), (q_t_louds, .inl (cI, 20, .inl v_t_louds)), (q_t_highs, .inl (cZ, 20, .inl v_t_highs)), (q_t_hours, .inl (cI, 20, .inl v_t_hours)), (q_t_hearers, .inl (cI, 12, .inl v_t_hearers)), (q_t_minutes, .inl (cI, 12, .inl v_t_minutes))] := hD
  refine lv_if_eq (tgt := 16) hx hb dX1_crierOf_4 (by decide) (fun h_2 => ?_) (fun h_2 => ?_)
  · have hf := (if_pos h_2).symm.trans hf
    refine lv_iconst (v := (-1)) hx hb dX1_crierOf_16 (by decide) ?_
    cases hf
    exact rt_i hx hb hr hlocks hK hP hS dX1_crierOf_17
  · have hf := (if_neg h_2).symm.trans hf
    refine lv_aload_n hx hb dX1_crierOf_7 rfl (lv_at hl 0 rfl) ?_
    refine va_get (D := D) (ci := 1) (v := .ref q_t_criers) (C := RX1) (T := TX1) (N := 9) hx hb hts inX1 hown hK hP 0 rfl rfl 1 (by decide) (hts _ w_179) (fun _ h9 => h9) rfl dX1_crierOf_8 ?_
    refine lv_iload_n hx hb dX1_crierOf_11 rfl (lv_at hl 1 rfl) ?_
    obtain ⟨hin, hf⟩ := gd_some hf
    refine va_iald hx hb hK hP 2 0 rfl rfl hin dX1_crierOf_12 ?_
    refine lv_goto (tgt := 17) hx hb dX1_crierOf_13 (by decide) ?_
    cases hf
    exact rt_i hx hb hr hlocks hK hP hS dX1_crierOf_17

def f_X1_loudOf (v_t_louds : Nat → Int32) (x1 : Int32) : Option (Int32) :=
  (f_X1_isCry x1).bind (fun z1 => (if z1 = 0 then (some 0) else gd (ib x1 20) ((some (v_t_louds (Int32.toNatClampNeg x1))))))
theorem gv_X1_loudOf {own : String} {idx : Nat} (h : Cond.methodLink own idx yX1_loudOf ∈ lw_g) : GoodIn lw_g (wsV own idx RX1 yX1_loudOf (Cond.code yX1_loudOf cX1_loudOf 2 (some .int) :: lw_g)) := gV h w_847 w_848 w_62 w_849
theorem hd_X1_loudOf : yX1_loudOf.cls = RX1 ∧ yX1_loudOf.cls ≠ "java/lang/invoke/MethodHandle" ∧ yX1_loudOf.cls ≠ "java/lang/invoke/VarHandle" ∧ (parseMethodDescriptor yX1_loudOf.desc).map (fun d => d.parameters.length) = some 1 := by decide +kernel
set_option maxHeartbeats 4000000 in
set_option maxRecDepth 100000 in
theorem c_X1_loudOf (l : Launch) (D : va_G) (cI cJ cZ : ClassId) (en : EnT) (q_t q_t_debts q_t_criers q_t_louds q_t_highs q_t_hours q_t_hearers q_t_minutes : Nat) (sz : Nat) (v_t_cries : Int32) (v_t_notes : Int32) (v_t_debts : Nat → Int32) (v_t_criers : Nat → Int32) (v_t_louds : Nat → Int32) (v_t_highs : Nat → Int32) (v_t_hours : Nat → Int32) (v_t_hearers : Nat → Int32) (v_t_minutes : Nat → Int32) (x1 : Int32) {z : Int32} (hf : f_X1_loudOf v_t_louds x1 = some z) : Met l yX1_loudOf (Cond.code yX1_loudOf cX1_loudOf 2 (some .int) :: lw_g) ({ frames := 1, cells := 0, slots := 0, locals := 20 } : Room) (PC D cI cJ cZ en ([.ref q_t, .int x1] : List Value) [(q_t, .inr (1, [.ref q_t_debts, .ref q_t_criers, .ref q_t_louds, .ref q_t_highs, .ref q_t_hours, .ref q_t_hearers, .ref q_t_minutes, .int v_t_cries, .int v_t_notes])), (q_t_debts, .inl (cI, 36, .inl v_t_debts)), (q_t_criers, .inl (cI, 20, .inl v_t_criers)), (q_t_louds, .inl (cI, 20, .inl v_t_louds)), (q_t_highs, .inl (cZ, 20, .inl v_t_highs)), (q_t_hours, .inl (cI, 20, .inl v_t_hours)), (q_t_hearers, .inl (cI, 12, .inl v_t_hearers)), (q_t_minutes, .inl (cI, 12, .inl v_t_minutes))] sz) (QI D cI cJ cZ [(q_t, .inr (1, [.ref q_t_debts, .ref q_t_criers, .ref q_t_louds, .ref q_t_highs, .ref q_t_hours, .ref q_t_hearers, .ref q_t_minutes, .int v_t_cries, .int v_t_notes])), (q_t_debts, .inl (cI, 36, .inl v_t_debts)), (q_t_criers, .inl (cI, 20, .inl v_t_criers)), (q_t_louds, .inl (cI, 20, .inl v_t_louds)), (q_t_highs, .inl (cZ, 20, .inl v_t_highs)), (q_t_hours, .inl (cI, 20, .inl v_t_hours)), (q_t_hearers, .inl (cI, 12, .inl v_t_hearers)), (q_t_minutes, .inl (cI, 12, .inl v_t_minutes))] z (va_A [(q_t, .inr (1, [.ref q_t_debts, .ref q_t_criers, .ref q_t_louds, .ref q_t_highs, .ref q_t_hours, .ref q_t_hearers, .ref q_t_minutes, .int v_t_cries, .int v_t_notes])), (q_t_debts, .inl (cI, 36, .inl v_t_debts)), (q_t_criers, .inl (cI, 20, .inl v_t_criers)), (q_t_louds, .inl (cI, 20, .inl v_t_louds)), (q_t_highs, .inl (cZ, 20, .inl v_t_highs)), (q_t_hours, .inl (cI, 20, .inl v_t_hours)), (q_t_hearers, .inl (cI, 12, .inl v_t_hearers)), (q_t_minutes, .inl (cI, 12, .inl v_t_minutes))] sz)) 0 0 (va_A [(q_t, .inr (1, [.ref q_t_debts, .ref q_t_criers, .ref q_t_louds, .ref q_t_highs, .ref q_t_hours, .ref q_t_hearers, .ref q_t_minutes, .int v_t_cries, .int v_t_notes])), (q_t_debts, .inl (cI, 36, .inl v_t_debts)), (q_t_criers, .inl (cI, 20, .inl v_t_criers)), (q_t_louds, .inl (cI, 20, .inl v_t_louds)), (q_t_highs, .inl (cZ, 20, .inl v_t_highs)), (q_t_hours, .inl (cI, 20, .inl v_t_hours)), (q_t_hearers, .inl (cI, 12, .inl v_t_hearers)), (q_t_minutes, .inl (cI, 12, .inl v_t_minutes))] sz) := by
  refine mk_met (Qc := fun A => (QI D cI cJ cZ [(q_t, .inr (1, [.ref q_t_debts, .ref q_t_criers, .ref q_t_louds, .ref q_t_highs, .ref q_t_hours, .ref q_t_hearers, .ref q_t_minutes, .int v_t_cries, .int v_t_notes])), (q_t_debts, .inl (cI, 36, .inl v_t_debts)), (q_t_criers, .inl (cI, 20, .inl v_t_criers)), (q_t_louds, .inl (cI, 20, .inl v_t_louds)), (q_t_highs, .inl (cZ, 20, .inl v_t_highs)), (q_t_hours, .inl (cI, 20, .inl v_t_hours)), (q_t_hearers, .inl (cI, 12, .inl v_t_hearers)), (q_t_minutes, .inl (cI, 12, .inl v_t_minutes))] z A)) RX1 (by decide) rfl (Nat.le_of_ble_eq_true rfl) ?_
  intro p e s m below meth c ls A hx hb hr hml hown hts hlocks hA hK hE hl hD H locs hP hS
  have hl : lv_has ls 2 [(0, .ref q_t), (1, .int x1)] := hl
  unfold f_X1_loudOf at hf
  refine lv_iload_n hx hb dX1_loudOf_0 rfl (lv_at hl 1 rfl) ?_
  obtain ⟨z1_1, hz1_1, hf⟩ := bd_some hf
  refine cSi (rest := []) ⟨hx, hb, hml, hown, hts⟩ hE hK hP hD hS hA (c_X1_isCry l D cI cJ cZ en  H.size x1 hz1_1) (gs_X1_isCry w_556) hd_X1_isCry ⟨rfl, rfl⟩ ⟨by decide, by decide⟩ [] rfl rfl rfl  hl rfl (Nat.le_of_ble_eq_true rfl) ⟨Nat.zero_le _, Nat.zero_le _⟩ dX1_loudOf_1 (fun H locs hP hD hS => ?_)
  have hP : va_P D vwCl [(q_t, .inr (1, [.ref q_t_debts, .ref q_t_criers, .ref q_t_louds, .ref q_t_highs, .ref q_t_hours, .ref q_t_hearers, .ref q_t_minutes, .int v_t_cries, .int v_t_notes])), (q_t_debts, .inl (cI, 36, .inl v_t_debts)), (q_t_criers, .inl (cI, 20, .inl v_t_criers)), (q_t_louds, .inl (cI, 20, .inl v_t_louds)), (q_t_highs, .inl (cZ, 20, .inl v_t_highs)), (q_t_hours, .inl (cI, 20, .inl v_t_hours)), (q_t_hearers, .inl (cI, 12, .inl v_t_hearers)), (q_t_minutes, .inl (cI, 12, .inl v_t_minutes))] H := hP
  have hD : va_D A [(q_t, .inr (1, [.ref q_t_debts, .ref q_t_criers, .ref q_t_louds, .ref q_t_highs, .ref q_t_hours, .ref q_t_hearers, .ref q_t_minutes, .int v_t_cries, .int v_t_notes])), (q_t_debts, .inl (cI, 36, .inl v_t_debts)), (q_t_criers, .inl (cI, 20, .inl v_t_criers)), (q_t_louds, .inl (cI, 20, .inl v_t_louds)), (q_t_highs, .inl (cZ, 20, .inl v_t_highs)), (q_t_hours, .inl (cI, 20, .inl v_t_hours)), (q_t_hearers, .inl (cI, 12, .inl v_t_hearers)), (q_t_minutes, .inl (cI, 12, .inl v_t_minutes))] := hD
  refine lv_if_eq (tgt := 16) hx hb dX1_loudOf_4 (by decide) (fun h_2 => ?_) (fun h_2 => ?_)
  · have hf := (if_pos h_2).symm.trans hf
    refine lv_iconst (v := 0) hx hb dX1_loudOf_16 (by decide) ?_
    cases hf
    exact rt_i hx hb hr hlocks hK hP hS dX1_loudOf_17
  · have hf := (if_neg h_2).symm.trans hf
    refine lv_aload_n hx hb dX1_loudOf_7 rfl (lv_at hl 0 rfl) ?_
    refine va_get (D := D) (ci := 1) (v := .ref q_t_louds) (C := RX1) (T := TX1) (N := 9) hx hb hts inX1 hown hK hP 0 rfl rfl 2 (by decide) (hts _ w_180) (fun _ h9 => h9) rfl dX1_loudOf_8 ?_
    refine lv_iload_n hx hb dX1_loudOf_11 rfl (lv_at hl 1 rfl) ?_
    obtain ⟨hin, hf⟩ := gd_some hf
    refine va_iald hx hb hK hP 3 0 rfl rfl hin dX1_loudOf_12 ?_
    refine lv_goto (tgt := 17) hx hb dX1_loudOf_13 (by decide) ?_
    cases hf
    exact rt_i hx hb hr hlocks hK hP hS dX1_loudOf_17

def f_X1_isHigh (v_t_highs : Nat → Int32) (x1 : Int32) : Option (Int32) :=
  (f_X1_isCry x1).bind (fun z1 => (if z1 = 0 then (some 0) else gd (ib x1 20) ((if (v_t_highs (Int32.toNatClampNeg x1)) = 0 then (some 0) else (some 1)))))
theorem gv_X1_isHigh {own : String} {idx : Nat} (h : Cond.methodLink own idx yX1_isHigh ∈ lw_g) : GoodIn lw_g (wsV own idx RX1 yX1_isHigh (Cond.code yX1_isHigh cX1_isHigh 2 (some .boolean) :: lw_g)) := gV h w_851 w_852 w_62 w_853
theorem hd_X1_isHigh : yX1_isHigh.cls = RX1 ∧ yX1_isHigh.cls ≠ "java/lang/invoke/MethodHandle" ∧ yX1_isHigh.cls ≠ "java/lang/invoke/VarHandle" ∧ (parseMethodDescriptor yX1_isHigh.desc).map (fun d => d.parameters.length) = some 1 := by decide +kernel
set_option maxHeartbeats 4000000 in
set_option maxRecDepth 100000 in
theorem c_X1_isHigh (l : Launch) (D : va_G) (cI cJ cZ : ClassId) (en : EnT) (q_t q_t_debts q_t_criers q_t_louds q_t_highs q_t_hours q_t_hearers q_t_minutes : Nat) (sz : Nat) (v_t_cries : Int32) (v_t_notes : Int32) (v_t_debts : Nat → Int32) (v_t_criers : Nat → Int32) (v_t_louds : Nat → Int32) (v_t_highs : Nat → Int32) (v_t_hours : Nat → Int32) (v_t_hearers : Nat → Int32) (v_t_minutes : Nat → Int32) (x1 : Int32) {z : Int32} (hf : f_X1_isHigh v_t_highs x1 = some z) : Met l yX1_isHigh (Cond.code yX1_isHigh cX1_isHigh 2 (some .boolean) :: lw_g) ({ frames := 1, cells := 0, slots := 0, locals := 20 } : Room) (PC D cI cJ cZ en ([.ref q_t, .int x1] : List Value) [(q_t, .inr (1, [.ref q_t_debts, .ref q_t_criers, .ref q_t_louds, .ref q_t_highs, .ref q_t_hours, .ref q_t_hearers, .ref q_t_minutes, .int v_t_cries, .int v_t_notes])), (q_t_debts, .inl (cI, 36, .inl v_t_debts)), (q_t_criers, .inl (cI, 20, .inl v_t_criers)), (q_t_louds, .inl (cI, 20, .inl v_t_louds)), (q_t_highs, .inl (cZ, 20, .inl v_t_highs)), (q_t_hours, .inl (cI, 20, .inl v_t_hours)), (q_t_hearers, .inl (cI, 12, .inl v_t_hearers)), (q_t_minutes, .inl (cI, 12, .inl v_t_minutes))] sz) (QI D cI cJ cZ [(q_t, .inr (1, [.ref q_t_debts, .ref q_t_criers, .ref q_t_louds, .ref q_t_highs, .ref q_t_hours, .ref q_t_hearers, .ref q_t_minutes, .int v_t_cries, .int v_t_notes])), (q_t_debts, .inl (cI, 36, .inl v_t_debts)), (q_t_criers, .inl (cI, 20, .inl v_t_criers)), (q_t_louds, .inl (cI, 20, .inl v_t_louds)), (q_t_highs, .inl (cZ, 20, .inl v_t_highs)), (q_t_hours, .inl (cI, 20, .inl v_t_hours)), (q_t_hearers, .inl (cI, 12, .inl v_t_hearers)), (q_t_minutes, .inl (cI, 12, .inl v_t_minutes))] z (va_A [(q_t, .inr (1, [.ref q_t_debts, .ref q_t_criers, .ref q_t_louds, .ref q_t_highs, .ref q_t_hours, .ref q_t_hearers, .ref q_t_minutes, .int v_t_cries, .int v_t_notes])), (q_t_debts, .inl (cI, 36, .inl v_t_debts)), (q_t_criers, .inl (cI, 20, .inl v_t_criers)), (q_t_louds, .inl (cI, 20, .inl v_t_louds)), (q_t_highs, .inl (cZ, 20, .inl v_t_highs)), (q_t_hours, .inl (cI, 20, .inl v_t_hours)), (q_t_hearers, .inl (cI, 12, .inl v_t_hearers)), (q_t_minutes, .inl (cI, 12, .inl v_t_minutes))] sz)) 0 0 (va_A [(q_t, .inr (1, [.ref q_t_debts, .ref q_t_criers, .ref q_t_louds, .ref q_t_highs, .ref q_t_hours, .ref q_t_hearers, .ref q_t_minutes, .int v_t_cries, .int v_t_notes])), (q_t_debts, .inl (cI, 36, .inl v_t_debts)), (q_t_criers, .inl (cI, 20, .inl v_t_criers)), (q_t_louds, .inl (cI, 20, .inl v_t_louds)), (q_t_highs, .inl (cZ, 20, .inl v_t_highs)), (q_t_hours, .inl (cI, 20, .inl v_t_hours)), (q_t_hearers, .inl (cI, 12, .inl v_t_hearers)), (q_t_minutes, .inl (cI, 12, .inl v_t_minutes))] sz) := by
  refine mk_met (Qc := fun A => (QI D cI cJ cZ [(q_t, .inr (1, [.ref q_t_debts, .ref q_t_criers, .ref q_t_louds, .ref q_t_highs, .ref q_t_hours, .ref q_t_hearers, .ref q_t_minutes, .int v_t_cries, .int v_t_notes])), (q_t_debts, .inl (cI, 36, .inl v_t_debts)), (q_t_criers, .inl (cI, 20, .inl v_t_criers)), (q_t_louds, .inl (cI, 20, .inl v_t_louds)), (q_t_highs, .inl (cZ, 20, .inl v_t_highs)), (q_t_hours, .inl (cI, 20, .inl v_t_hours)), (q_t_hearers, .inl (cI, 12, .inl v_t_hearers)), (q_t_minutes, .inl (cI, 12, .inl v_t_minutes))] z A)) RX1 (by decide) rfl (Nat.le_of_ble_eq_true rfl) ?_
  intro p e s m below meth c ls A hx hb hr hml hown hts hlocks hA hK hE hl hD H locs hP hS
  have hl : lv_has ls 2 [(0, .ref q_t), (1, .int x1)] := hl
  unfold f_X1_isHigh at hf
  refine lv_iload_n hx hb dX1_isHigh_0 rfl (lv_at hl 1 rfl) ?_
  obtain ⟨z1_1, hz1_1, hf⟩ := bd_some hf
  refine cSi (rest := []) ⟨hx, hb, hml, hown, hts⟩ hE hK hP hD hS hA (c_X1_isCry l D cI cJ cZ en  H.size x1 hz1_1) (gs_X1_isCry w_556) hd_X1_isCry ⟨rfl, rfl⟩ ⟨by decide, by decide⟩ [] rfl rfl rfl  hl rfl (Nat.le_of_ble_eq_true rfl) ⟨Nat.zero_le _, Nat.zero_le _⟩ dX1_isHigh_1 (fun H locs hP hD hS => ?_)
  have hP : va_P D vwCl [(q_t, .inr (1, [.ref q_t_debts, .ref q_t_criers, .ref q_t_louds, .ref q_t_highs, .ref q_t_hours, .ref q_t_hearers, .ref q_t_minutes, .int v_t_cries, .int v_t_notes])), (q_t_debts, .inl (cI, 36, .inl v_t_debts)), (q_t_criers, .inl (cI, 20, .inl v_t_criers)), (q_t_louds, .inl (cI, 20, .inl v_t_louds)), (q_t_highs, .inl (cZ, 20, .inl v_t_highs)), (q_t_hours, .inl (cI, 20, .inl v_t_hours)), (q_t_hearers, .inl (cI, 12, .inl v_t_hearers)), (q_t_minutes, .inl (cI, 12, .inl v_t_minutes))] H := hP
  have hD : va_D A [(q_t, .inr (1, [.ref q_t_debts, .ref q_t_criers, .ref q_t_louds, .ref q_t_highs, .ref q_t_hours, .ref q_t_hearers, .ref q_t_minutes, .int v_t_cries, .int v_t_notes])), (q_t_debts, .inl (cI, 36, .inl v_t_debts)), (q_t_criers, .inl (cI, 20, .inl v_t_criers)), (q_t_louds, .inl (cI, 20, .inl v_t_louds)), (q_t_highs, .inl (cZ, 20, .inl v_t_highs)), (q_t_hours, .inl (cI, 20, .inl v_t_hours)), (q_t_hearers, .inl (cI, 12, .inl v_t_hearers)), (q_t_minutes, .inl (cI, 12, .inl v_t_minutes))] := hD
  refine lv_if_eq (tgt := 20) hx hb dX1_isHigh_4 (by decide) (fun h_2 => ?_) (fun h_2 => ?_)
  · have hf := (if_pos h_2).symm.trans hf
    refine lv_iconst (v := 0) hx hb dX1_isHigh_20 (by decide) ?_
    cases hf
    exact rt_z hx hb hr hlocks hK hP hS (Or.inl rfl) dX1_isHigh_21
  · have hf := (if_neg h_2).symm.trans hf
    refine lv_aload_n hx hb dX1_isHigh_7 rfl (lv_at hl 0 rfl) ?_
    refine va_get (D := D) (ci := 1) (v := .ref q_t_highs) (C := RX1) (T := TX1) (N := 9) hx hb hts inX1 hown hK hP 0 rfl rfl 3 (by decide) (hts _ w_181) (fun _ h9 => h9) rfl dX1_isHigh_8 ?_
    refine lv_iload_n hx hb dX1_isHigh_11 rfl (lv_at hl 1 rfl) ?_
    obtain ⟨hin, hf⟩ := gd_some hf
    refine va_zald hx hb hK hP 4 2 rfl rfl hin dX1_isHigh_12 ?_
    refine lv_if_eq (tgt := 20) hx hb dX1_isHigh_13 (by decide) (fun h_3 => ?_) (fun h_3 => ?_)
    · have hf := (if_pos h_3).symm.trans hf
      refine lv_iconst (v := 0) hx hb dX1_isHigh_20 (by decide) ?_
      cases hf
      exact rt_z hx hb hr hlocks hK hP hS (Or.inl rfl) dX1_isHigh_21
    · have hf := (if_neg h_3).symm.trans hf
      refine lv_iconst (v := 1) hx hb dX1_isHigh_16 (by decide) ?_
      refine lv_goto (tgt := 21) hx hb dX1_isHigh_17 (by decide) ?_
      cases hf
      exact rt_z hx hb hr hlocks hK hP hS (Or.inr rfl) dX1_isHigh_21

def f_X1_hourOf (v_t_hours : Nat → Int32) (x1 : Int32) : Option (Int32) :=
  (f_X1_isCry x1).bind (fun z1 => (if z1 = 0 then (some 0) else gd (ib x1 20) ((some (v_t_hours (Int32.toNatClampNeg x1))))))
theorem gv_X1_hourOf {own : String} {idx : Nat} (h : Cond.methodLink own idx yX1_hourOf ∈ lw_g) : GoodIn lw_g (wsV own idx RX1 yX1_hourOf (Cond.code yX1_hourOf cX1_hourOf 2 (some .int) :: lw_g)) := gV h w_855 w_856 w_62 w_857
theorem hd_X1_hourOf : yX1_hourOf.cls = RX1 ∧ yX1_hourOf.cls ≠ "java/lang/invoke/MethodHandle" ∧ yX1_hourOf.cls ≠ "java/lang/invoke/VarHandle" ∧ (parseMethodDescriptor yX1_hourOf.desc).map (fun d => d.parameters.length) = some 1 := by decide +kernel
set_option maxHeartbeats 4000000 in
set_option maxRecDepth 100000 in
theorem c_X1_hourOf (l : Launch) (D : va_G) (cI cJ cZ : ClassId) (en : EnT) (q_t q_t_debts q_t_criers q_t_louds q_t_highs q_t_hours q_t_hearers q_t_minutes : Nat) (sz : Nat) (v_t_cries : Int32) (v_t_notes : Int32) (v_t_debts : Nat → Int32) (v_t_criers : Nat → Int32) (v_t_louds : Nat → Int32) (v_t_highs : Nat → Int32) (v_t_hours : Nat → Int32) (v_t_hearers : Nat → Int32) (v_t_minutes : Nat → Int32) (x1 : Int32) {z : Int32} (hf : f_X1_hourOf v_t_hours x1 = some z) : Met l yX1_hourOf (Cond.code yX1_hourOf cX1_hourOf 2 (some .int) :: lw_g) ({ frames := 1, cells := 0, slots := 0, locals := 20 } : Room) (PC D cI cJ cZ en ([.ref q_t, .int x1] : List Value) [(q_t, .inr (1, [.ref q_t_debts, .ref q_t_criers, .ref q_t_louds, .ref q_t_highs, .ref q_t_hours, .ref q_t_hearers, .ref q_t_minutes, .int v_t_cries, .int v_t_notes])), (q_t_debts, .inl (cI, 36, .inl v_t_debts)), (q_t_criers, .inl (cI, 20, .inl v_t_criers)), (q_t_louds, .inl (cI, 20, .inl v_t_louds)), (q_t_highs, .inl (cZ, 20, .inl v_t_highs)), (q_t_hours, .inl (cI, 20, .inl v_t_hours)), (q_t_hearers, .inl (cI, 12, .inl v_t_hearers)), (q_t_minutes, .inl (cI, 12, .inl v_t_minutes))] sz) (QI D cI cJ cZ [(q_t, .inr (1, [.ref q_t_debts, .ref q_t_criers, .ref q_t_louds, .ref q_t_highs, .ref q_t_hours, .ref q_t_hearers, .ref q_t_minutes, .int v_t_cries, .int v_t_notes])), (q_t_debts, .inl (cI, 36, .inl v_t_debts)), (q_t_criers, .inl (cI, 20, .inl v_t_criers)), (q_t_louds, .inl (cI, 20, .inl v_t_louds)), (q_t_highs, .inl (cZ, 20, .inl v_t_highs)), (q_t_hours, .inl (cI, 20, .inl v_t_hours)), (q_t_hearers, .inl (cI, 12, .inl v_t_hearers)), (q_t_minutes, .inl (cI, 12, .inl v_t_minutes))] z (va_A [(q_t, .inr (1, [.ref q_t_debts, .ref q_t_criers, .ref q_t_louds, .ref q_t_highs, .ref q_t_hours, .ref q_t_hearers, .ref q_t_minutes, .int v_t_cries, .int v_t_notes])), (q_t_debts, .inl (cI, 36, .inl v_t_debts)), (q_t_criers, .inl (cI, 20, .inl v_t_criers)), (q_t_louds, .inl (cI, 20, .inl v_t_louds)), (q_t_highs, .inl (cZ, 20, .inl v_t_highs)), (q_t_hours, .inl (cI, 20, .inl v_t_hours)), (q_t_hearers, .inl (cI, 12, .inl v_t_hearers)), (q_t_minutes, .inl (cI, 12, .inl v_t_minutes))] sz)) 0 0 (va_A [(q_t, .inr (1, [.ref q_t_debts, .ref q_t_criers, .ref q_t_louds, .ref q_t_highs, .ref q_t_hours, .ref q_t_hearers, .ref q_t_minutes, .int v_t_cries, .int v_t_notes])), (q_t_debts, .inl (cI, 36, .inl v_t_debts)), (q_t_criers, .inl (cI, 20, .inl v_t_criers)), (q_t_louds, .inl (cI, 20, .inl v_t_louds)), (q_t_highs, .inl (cZ, 20, .inl v_t_highs)), (q_t_hours, .inl (cI, 20, .inl v_t_hours)), (q_t_hearers, .inl (cI, 12, .inl v_t_hearers)), (q_t_minutes, .inl (cI, 12, .inl v_t_minutes))] sz) := by
  refine mk_met (Qc := fun A => (QI D cI cJ cZ [(q_t, .inr (1, [.ref q_t_debts, .ref q_t_criers, .ref q_t_louds, .ref q_t_highs, .ref q_t_hours, .ref q_t_hearers, .ref q_t_minutes, .int v_t_cries, .int v_t_notes])), (q_t_debts, .inl (cI, 36, .inl v_t_debts)), (q_t_criers, .inl (cI, 20, .inl v_t_criers)), (q_t_louds, .inl (cI, 20, .inl v_t_louds)), (q_t_highs, .inl (cZ, 20, .inl v_t_highs)), (q_t_hours, .inl (cI, 20, .inl v_t_hours)), (q_t_hearers, .inl (cI, 12, .inl v_t_hearers)), (q_t_minutes, .inl (cI, 12, .inl v_t_minutes))] z A)) RX1 (by decide) rfl (Nat.le_of_ble_eq_true rfl) ?_
  intro p e s m below meth c ls A hx hb hr hml hown hts hlocks hA hK hE hl hD H locs hP hS
  have hl : lv_has ls 2 [(0, .ref q_t), (1, .int x1)] := hl
  unfold f_X1_hourOf at hf
  refine lv_iload_n hx hb dX1_hourOf_0 rfl (lv_at hl 1 rfl) ?_
  obtain ⟨z1_1, hz1_1, hf⟩ := bd_some hf
  refine cSi (rest := []) ⟨hx, hb, hml, hown, hts⟩ hE hK hP hD hS hA (c_X1_isCry l D cI cJ cZ en  H.size x1 hz1_1) (gs_X1_isCry w_556) hd_X1_isCry ⟨rfl, rfl⟩ ⟨by decide, by decide⟩ [] rfl rfl rfl  hl rfl (Nat.le_of_ble_eq_true rfl) ⟨Nat.zero_le _, Nat.zero_le _⟩ dX1_hourOf_1 (fun H locs hP hD hS => ?_)
  have hP : va_P D vwCl [(q_t, .inr (1, [.ref q_t_debts, .ref q_t_criers, .ref q_t_louds, .ref q_t_highs, .ref q_t_hours, .ref q_t_hearers, .ref q_t_minutes, .int v_t_cries, .int v_t_notes])), (q_t_debts, .inl (cI, 36, .inl v_t_debts)), (q_t_criers, .inl (cI, 20, .inl v_t_criers)), (q_t_louds, .inl (cI, 20, .inl v_t_louds)), (q_t_highs, .inl (cZ, 20, .inl v_t_highs)), (q_t_hours, .inl (cI, 20, .inl v_t_hours)), (q_t_hearers, .inl (cI, 12, .inl v_t_hearers)), (q_t_minutes, .inl (cI, 12, .inl v_t_minutes))] H := hP
  have hD : va_D A [(q_t, .inr (1, [.ref q_t_debts, .ref q_t_criers, .ref q_t_louds, .ref q_t_highs, .ref q_t_hours, .ref q_t_hearers, .ref q_t_minutes, .int v_t_cries, .int v_t_notes])), (q_t_debts, .inl (cI, 36, .inl v_t_debts)), (q_t_criers, .inl (cI, 20, .inl v_t_criers)), (q_t_louds, .inl (cI, 20, .inl v_t_louds)), (q_t_highs, .inl (cZ, 20, .inl v_t_highs)), (q_t_hours, .inl (cI, 20, .inl v_t_hours)), (q_t_hearers, .inl (cI, 12, .inl v_t_hearers)), (q_t_minutes, .inl (cI, 12, .inl v_t_minutes))] := hD
  refine lv_if_eq (tgt := 16) hx hb dX1_hourOf_4 (by decide) (fun h_2 => ?_) (fun h_2 => ?_)
  · have hf := (if_pos h_2).symm.trans hf
    refine lv_iconst (v := 0) hx hb dX1_hourOf_16 (by decide) ?_
    cases hf
    exact rt_i hx hb hr hlocks hK hP hS dX1_hourOf_17
  · have hf := (if_neg h_2).symm.trans hf
    refine lv_aload_n hx hb dX1_hourOf_7 rfl (lv_at hl 0 rfl) ?_
    refine va_get (D := D) (ci := 1) (v := .ref q_t_hours) (C := RX1) (T := TX1) (N := 9) hx hb hts inX1 hown hK hP 0 rfl rfl 4 (by decide) (hts _ w_182) (fun _ h9 => h9) rfl dX1_hourOf_8 ?_
    refine lv_iload_n hx hb dX1_hourOf_11 rfl (lv_at hl 1 rfl) ?_
    obtain ⟨hin, hf⟩ := gd_some hf
    refine va_iald hx hb hK hP 5 0 rfl rfl hin dX1_hourOf_12 ?_
    refine lv_goto (tgt := 17) hx hb dX1_hourOf_13 (by decide) ?_
    cases hf
    exact rt_i hx hb hr hlocks hK hP hS dX1_hourOf_17

def f_X1_criesOf_J24 (rc4 : (Int32) → (Int32) → Option (Int32)) (x2 : Int32) (x3 : Int32) : Option (Int32) :=
  (rc4 x2 (x3 + 1))
def f_X1_criesOf_L4 (v_t_cries : Int32) (v_t_criers : Nat → Int32) (x1 : Int32) : Nat → (Int32) → (Int32) → Option (Int32)
  | 0, _, _ => none
  | n + 1, x2, x3 => (if v_t_cries ≤ x3 then (some x2) else (f_X1_crierOf v_t_criers x3).bind (fun z14 => (if z14 = x1 then (f_X1_criesOf_J24 (f_X1_criesOf_L4 v_t_cries v_t_criers x1 n) (x2 + 1) x3) else (f_X1_criesOf_J24 (f_X1_criesOf_L4 v_t_cries v_t_criers x1 n) x2 x3))))
def f_X1_criesOf (v_t_cries : Int32) (v_t_criers : Nat → Int32) (x1 : Int32) : Option (Int32) :=
  (f_X1_criesOf_L4 v_t_cries v_t_criers x1 FU 0 0)
theorem gv_X1_criesOf {own : String} {idx : Nat} (h : Cond.methodLink own idx yX1_criesOf ∈ lw_g) : GoodIn lw_g (wsV own idx RX1 yX1_criesOf (Cond.code yX1_criesOf cX1_criesOf 4 (some .int) :: lw_g)) := gV h w_549 w_550 w_62 w_551
theorem hd_X1_criesOf : yX1_criesOf.cls = RX1 ∧ yX1_criesOf.cls ≠ "java/lang/invoke/MethodHandle" ∧ yX1_criesOf.cls ≠ "java/lang/invoke/VarHandle" ∧ (parseMethodDescriptor yX1_criesOf.desc).map (fun d => d.parameters.length) = some 1 := by decide +kernel
set_option maxHeartbeats 4000000 in
set_option maxRecDepth 100000 in
theorem c_X1_criesOf (l : Launch) (D : va_G) (cI cJ cZ : ClassId) (en : EnT) (q_t q_t_debts q_t_criers q_t_louds q_t_highs q_t_hours q_t_hearers q_t_minutes : Nat) (sz : Nat) (v_t_cries : Int32) (v_t_notes : Int32) (v_t_debts : Nat → Int32) (v_t_criers : Nat → Int32) (v_t_louds : Nat → Int32) (v_t_highs : Nat → Int32) (v_t_hours : Nat → Int32) (v_t_hearers : Nat → Int32) (v_t_minutes : Nat → Int32) (x1 : Int32) {z : Int32} (hf : f_X1_criesOf v_t_cries v_t_criers x1 = some z) : Met l yX1_criesOf (Cond.code yX1_criesOf cX1_criesOf 4 (some .int) :: lw_g) ({ frames := 2, cells := 0, slots := 0, locals := 41 } : Room) (PC D cI cJ cZ en ([.ref q_t, .int x1] : List Value) [(q_t, .inr (1, [.ref q_t_debts, .ref q_t_criers, .ref q_t_louds, .ref q_t_highs, .ref q_t_hours, .ref q_t_hearers, .ref q_t_minutes, .int v_t_cries, .int v_t_notes])), (q_t_debts, .inl (cI, 36, .inl v_t_debts)), (q_t_criers, .inl (cI, 20, .inl v_t_criers)), (q_t_louds, .inl (cI, 20, .inl v_t_louds)), (q_t_highs, .inl (cZ, 20, .inl v_t_highs)), (q_t_hours, .inl (cI, 20, .inl v_t_hours)), (q_t_hearers, .inl (cI, 12, .inl v_t_hearers)), (q_t_minutes, .inl (cI, 12, .inl v_t_minutes))] sz) (QI D cI cJ cZ [(q_t, .inr (1, [.ref q_t_debts, .ref q_t_criers, .ref q_t_louds, .ref q_t_highs, .ref q_t_hours, .ref q_t_hearers, .ref q_t_minutes, .int v_t_cries, .int v_t_notes])), (q_t_debts, .inl (cI, 36, .inl v_t_debts)), (q_t_criers, .inl (cI, 20, .inl v_t_criers)), (q_t_louds, .inl (cI, 20, .inl v_t_louds)), (q_t_highs, .inl (cZ, 20, .inl v_t_highs)), (q_t_hours, .inl (cI, 20, .inl v_t_hours)), (q_t_hearers, .inl (cI, 12, .inl v_t_hearers)), (q_t_minutes, .inl (cI, 12, .inl v_t_minutes))] z (va_A [(q_t, .inr (1, [.ref q_t_debts, .ref q_t_criers, .ref q_t_louds, .ref q_t_highs, .ref q_t_hours, .ref q_t_hearers, .ref q_t_minutes, .int v_t_cries, .int v_t_notes])), (q_t_debts, .inl (cI, 36, .inl v_t_debts)), (q_t_criers, .inl (cI, 20, .inl v_t_criers)), (q_t_louds, .inl (cI, 20, .inl v_t_louds)), (q_t_highs, .inl (cZ, 20, .inl v_t_highs)), (q_t_hours, .inl (cI, 20, .inl v_t_hours)), (q_t_hearers, .inl (cI, 12, .inl v_t_hearers)), (q_t_minutes, .inl (cI, 12, .inl v_t_minutes))] sz)) 0 0 (va_A [(q_t, .inr (1, [.ref q_t_debts, .ref q_t_criers, .ref q_t_louds, .ref q_t_highs, .ref q_t_hours, .ref q_t_hearers, .ref q_t_minutes, .int v_t_cries, .int v_t_notes])), (q_t_debts, .inl (cI, 36, .inl v_t_debts)), (q_t_criers, .inl (cI, 20, .inl v_t_criers)), (q_t_louds, .inl (cI, 20, .inl v_t_louds)), (q_t_highs, .inl (cZ, 20, .inl v_t_highs)), (q_t_hours, .inl (cI, 20, .inl v_t_hours)), (q_t_hearers, .inl (cI, 12, .inl v_t_hearers)), (q_t_minutes, .inl (cI, 12, .inl v_t_minutes))] sz) := by
  refine mk_met (Qc := fun A => (QI D cI cJ cZ [(q_t, .inr (1, [.ref q_t_debts, .ref q_t_criers, .ref q_t_louds, .ref q_t_highs, .ref q_t_hours, .ref q_t_hearers, .ref q_t_minutes, .int v_t_cries, .int v_t_notes])), (q_t_debts, .inl (cI, 36, .inl v_t_debts)), (q_t_criers, .inl (cI, 20, .inl v_t_criers)), (q_t_louds, .inl (cI, 20, .inl v_t_louds)), (q_t_highs, .inl (cZ, 20, .inl v_t_highs)), (q_t_hours, .inl (cI, 20, .inl v_t_hours)), (q_t_hearers, .inl (cI, 12, .inl v_t_hearers)), (q_t_minutes, .inl (cI, 12, .inl v_t_minutes))] z A)) RX1 (by decide) rfl (Nat.le_of_ble_eq_true rfl) ?_
  intro p e s m below meth c ls A hx hb hr hml hown hts hlocks hA hK hE hl hD H locs hP hS
  have hl : lv_has ls 4 [(0, .ref q_t), (1, .int x1)] := hl
  unfold f_X1_criesOf at hf
  refine lv_iconst (v := 0) hx hb dX1_criesOf_0 (by decide) ?_
  refine lv_istore_n (lv' := [(2, .int 0), (0, .ref q_t), (1, .int x1)]) hx hb dX1_criesOf_1 rfl hl (by decide) rfl (fun ls hl => ?_)
  refine lv_iconst (v := 0) hx hb dX1_criesOf_2 (by decide) ?_
  refine lv_istore_n (lv' := [(3, .int 0), (2, .int 0), (0, .ref q_t), (1, .int x1)]) hx hb dX1_criesOf_3 rfl hl (by decide) rfl (fun ls hl => ?_)
  have L4_3 : ∀ (n : Nat) (x2_1 : Int32) (x3_2 : Int32), f_X1_criesOf_L4 v_t_cries v_t_criers x1 n x2_1 x3_2 = some z → ∀ (H : Heap) (locs : List Loc) (ls : Array Slot), va_P D vwCl [(q_t, .inr (1, [.ref q_t_debts, .ref q_t_criers, .ref q_t_louds, .ref q_t_highs, .ref q_t_hours, .ref q_t_hearers, .ref q_t_minutes, .int v_t_cries, .int v_t_notes])), (q_t_debts, .inl (cI, 36, .inl v_t_debts)), (q_t_criers, .inl (cI, 20, .inl v_t_criers)), (q_t_louds, .inl (cI, 20, .inl v_t_louds)), (q_t_highs, .inl (cZ, 20, .inl v_t_highs)), (q_t_hours, .inl (cI, 20, .inl v_t_hours)), (q_t_hearers, .inl (cI, 12, .inl v_t_hearers)), (q_t_minutes, .inl (cI, 12, .inl v_t_minutes))] H → va_D A [(q_t, .inr (1, [.ref q_t_debts, .ref q_t_criers, .ref q_t_louds, .ref q_t_highs, .ref q_t_hours, .ref q_t_hearers, .ref q_t_minutes, .int v_t_cries, .int v_t_notes])), (q_t_debts, .inl (cI, 36, .inl v_t_debts)), (q_t_criers, .inl (cI, 20, .inl v_t_criers)), (q_t_louds, .inl (cI, 20, .inl v_t_louds)), (q_t_highs, .inl (cZ, 20, .inl v_t_highs)), (q_t_hours, .inl (cI, 20, .inl v_t_hours)), (q_t_hearers, .inl (cI, 12, .inl v_t_hearers)), (q_t_minutes, .inl (cI, 12, .inl v_t_minutes))] → va_S A s.heap H locs → lv_has ls 4 [(0, .ref q_t), (1, .int x1), (2, .int x2_1), (3, .int x3_2)] → W p l e ({ frames := 2, cells := 0, slots := 0, locals := 41 } : Room) s m ([.ref q_t, .int x1] : List Value).toArray below meth c H locs 0 0 (MQ below (QI D cI cJ cZ [(q_t, .inr (1, [.ref q_t_debts, .ref q_t_criers, .ref q_t_louds, .ref q_t_highs, .ref q_t_hours, .ref q_t_hearers, .ref q_t_minutes, .int v_t_cries, .int v_t_notes])), (q_t_debts, .inl (cI, 36, .inl v_t_debts)), (q_t_criers, .inl (cI, 20, .inl v_t_criers)), (q_t_louds, .inl (cI, 20, .inl v_t_louds)), (q_t_highs, .inl (cZ, 20, .inl v_t_highs)), (q_t_hours, .inl (cI, 20, .inl v_t_hours)), (q_t_hearers, .inl (cI, 12, .inl v_t_hearers)), (q_t_minutes, .inl (cI, 12, .inl v_t_minutes))] z A) ([.ref q_t, .int x1] : List Value).toArray s 0 0 A) (F0 m 4 ls []) := by
    intro n
    induction n with
    | zero =>
      intro x2_1 x3_2 hf
      cases hf
    | succ n ih_4 =>
      intro x2_1 x3_2 hf H locs ls hP hD hS hl
      rw [f_X1_criesOf_L4] at hf
      refine lv_iload_n hx hb dX1_criesOf_4 rfl (lv_at hl 3 rfl) ?_
      refine lv_aload_n hx hb dX1_criesOf_5 rfl (lv_at hl 0 rfl) ?_
      refine va_get (D := D) (ci := 1) (v := .int v_t_cries) (C := RX1) (T := TX1) (N := 9) hx hb hts inX1 hown hK hP 0 rfl rfl 7 (by decide) (hts _ w_185) (fun _ h9 => h9) rfl dX1_criesOf_6 ?_
      refine lv_icmp_ge (tgt := 30) hx hb dX1_criesOf_9 (by decide) (fun h_5 => ?_) (fun h_5 => ?_)
      · have hf := (if_pos h_5).symm.trans hf
        refine lv_iload_n hx hb dX1_criesOf_30 rfl (lv_at hl 2 rfl) ?_
        cases hf
        exact rt_i hx hb hr hlocks hK hP hS dX1_criesOf_31
      · have hf := (if_neg h_5).symm.trans hf
        refine lv_aload_n hx hb dX1_criesOf_12 rfl (lv_at hl 0 rfl) ?_
        refine lv_iload_n hx hb dX1_criesOf_13 rfl (lv_at hl 3 rfl) ?_
        obtain ⟨z14_6, hz14_6, hf⟩ := bd_some hf
        refine cVi (rest := []) ⟨hx, hb, hml, hown, hts⟩ hE hK hP hD hS hA (c_X1_crierOf l D cI cJ cZ en q_t q_t_debts q_t_criers q_t_louds q_t_highs q_t_hours q_t_hearers q_t_minutes H.size v_t_cries v_t_notes v_t_debts v_t_criers v_t_louds v_t_highs v_t_hours v_t_hearers v_t_minutes x3_2 hz14_6) (gv_X1_crierOf w_552) hd_X1_crierOf ⟨rfl, rfl⟩ ⟨by decide, by decide⟩ [0, 1, 2, 3, 4, 5, 6, 7] rfl rfl rfl 1 rfl rfl 0 rfl  hl rfl (Nat.le_of_ble_eq_true rfl) ⟨Nat.zero_le _, Nat.zero_le _⟩ dX1_criesOf_14 (fun H locs hP hD hS => ?_)
        have hP : va_P D vwCl [(q_t, .inr (1, [.ref q_t_debts, .ref q_t_criers, .ref q_t_louds, .ref q_t_highs, .ref q_t_hours, .ref q_t_hearers, .ref q_t_minutes, .int v_t_cries, .int v_t_notes])), (q_t_debts, .inl (cI, 36, .inl v_t_debts)), (q_t_criers, .inl (cI, 20, .inl v_t_criers)), (q_t_louds, .inl (cI, 20, .inl v_t_louds)), (q_t_highs, .inl (cZ, 20, .inl v_t_highs)), (q_t_hours, .inl (cI, 20, .inl v_t_hours)), (q_t_hearers, .inl (cI, 12, .inl v_t_hearers)), (q_t_minutes, .inl (cI, 12, .inl v_t_minutes))] H := hP
        have hD : va_D A [(q_t, .inr (1, [.ref q_t_debts, .ref q_t_criers, .ref q_t_louds, .ref q_t_highs, .ref q_t_hours, .ref q_t_hearers, .ref q_t_minutes, .int v_t_cries, .int v_t_notes])), (q_t_debts, .inl (cI, 36, .inl v_t_debts)), (q_t_criers, .inl (cI, 20, .inl v_t_criers)), (q_t_louds, .inl (cI, 20, .inl v_t_louds)), (q_t_highs, .inl (cZ, 20, .inl v_t_highs)), (q_t_hours, .inl (cI, 20, .inl v_t_hours)), (q_t_hearers, .inl (cI, 12, .inl v_t_hearers)), (q_t_minutes, .inl (cI, 12, .inl v_t_minutes))] := hD
        refine lv_iload_n hx hb dX1_criesOf_17 rfl (lv_at hl 1 rfl) ?_
        have J24_8 : ∀ (x2_7 : Int32), f_X1_criesOf_J24 (f_X1_criesOf_L4 v_t_cries v_t_criers x1 n) x2_7 x3_2 = some z → ∀ (H : Heap) (locs : List Loc) (ls : Array Slot), va_P D vwCl [(q_t, .inr (1, [.ref q_t_debts, .ref q_t_criers, .ref q_t_louds, .ref q_t_highs, .ref q_t_hours, .ref q_t_hearers, .ref q_t_minutes, .int v_t_cries, .int v_t_notes])), (q_t_debts, .inl (cI, 36, .inl v_t_debts)), (q_t_criers, .inl (cI, 20, .inl v_t_criers)), (q_t_louds, .inl (cI, 20, .inl v_t_louds)), (q_t_highs, .inl (cZ, 20, .inl v_t_highs)), (q_t_hours, .inl (cI, 20, .inl v_t_hours)), (q_t_hearers, .inl (cI, 12, .inl v_t_hearers)), (q_t_minutes, .inl (cI, 12, .inl v_t_minutes))] H → va_D A [(q_t, .inr (1, [.ref q_t_debts, .ref q_t_criers, .ref q_t_louds, .ref q_t_highs, .ref q_t_hours, .ref q_t_hearers, .ref q_t_minutes, .int v_t_cries, .int v_t_notes])), (q_t_debts, .inl (cI, 36, .inl v_t_debts)), (q_t_criers, .inl (cI, 20, .inl v_t_criers)), (q_t_louds, .inl (cI, 20, .inl v_t_louds)), (q_t_highs, .inl (cZ, 20, .inl v_t_highs)), (q_t_hours, .inl (cI, 20, .inl v_t_hours)), (q_t_hearers, .inl (cI, 12, .inl v_t_hearers)), (q_t_minutes, .inl (cI, 12, .inl v_t_minutes))] → va_S A s.heap H locs → lv_has ls 4 [(0, .ref q_t), (1, .int x1), (2, .int x2_7), (3, .int x3_2)] → W p l e ({ frames := 2, cells := 0, slots := 0, locals := 41 } : Room) s m ([.ref q_t, .int x1] : List Value).toArray below meth c H locs 0 0 (MQ below (QI D cI cJ cZ [(q_t, .inr (1, [.ref q_t_debts, .ref q_t_criers, .ref q_t_louds, .ref q_t_highs, .ref q_t_hours, .ref q_t_hearers, .ref q_t_minutes, .int v_t_cries, .int v_t_notes])), (q_t_debts, .inl (cI, 36, .inl v_t_debts)), (q_t_criers, .inl (cI, 20, .inl v_t_criers)), (q_t_louds, .inl (cI, 20, .inl v_t_louds)), (q_t_highs, .inl (cZ, 20, .inl v_t_highs)), (q_t_hours, .inl (cI, 20, .inl v_t_hours)), (q_t_hearers, .inl (cI, 12, .inl v_t_hearers)), (q_t_minutes, .inl (cI, 12, .inl v_t_minutes))] z A) ([.ref q_t, .int x1] : List Value).toArray s 0 0 A) (F0 m 24 ls []) := by
          intro x2_7 hf H locs ls hP hD hS hl
          unfold f_X1_criesOf_J24 at hf
          refine lv_iinc (v := (x3_2 + 1)) (lv' := [(3, .int (x3_2 + 1)), (0, .ref q_t), (1, .int x1), (2, .int x2_7)]) hx hb dX1_criesOf_24 hl (k := 3) rfl rfl (by decide) rfl (fun ls hl => ?_)
          refine lv_goto (tgt := 4) hx hb dX1_criesOf_27 (by decide) ?_
          exact ih_4 x2_7 (x3_2 + 1) hf _ _ _ hP hD hS (lv_sub hl [1, 2, 3, 0] rfl)
        refine lv_icmp_ne (tgt := 24) hx hb dX1_criesOf_18 (by decide) (fun h_9 => ?_) (fun h_9 => ?_)
        · have hf := (if_neg h_9).symm.trans hf
          exact J24_8 x2_1 hf _ _ _ hP hD hS (lv_sub hl [0, 1, 2, 3] rfl)
        · have hf := (if_pos h_9).symm.trans hf
          refine lv_iinc (v := (x2_1 + 1)) (lv' := [(2, .int (x2_1 + 1)), (0, .ref q_t), (1, .int x1), (3, .int x3_2)]) hx hb dX1_criesOf_21 hl (k := 2) rfl rfl (by decide) rfl (fun ls hl => ?_)
          exact J24_8 (x2_1 + 1) hf _ _ _ hP hD hS (lv_sub hl [1, 2, 0, 3] rfl)
  exact L4_3 FU 0 0 hf _ _ _ hP hD hS (lv_sub hl [2, 3, 1, 0] rfl)

def f_X1_addNote (v_t_notes : Int32) (v_t_hearers : Nat → Int32) (v_t_minutes : Nat → Int32) (x1 : Int32) (x2 : Int32) : Option (Int32 × (Nat → Int32) × (Nat → Int32)) :=
  (if v_t_notes < 0 then (some (v_t_notes, v_t_hearers, v_t_minutes)) else (if v_t_notes < 12 then gd (ib v_t_notes 12) (gd (ib v_t_notes 12) ((some ((v_t_notes + 1), (upd v_t_hearers (Int32.toNatClampNeg v_t_notes) x1), (upd v_t_minutes (Int32.toNatClampNeg v_t_notes) x2))))) else (some (v_t_notes, v_t_hearers, v_t_minutes))))
theorem gv_X1_addNote {own : String} {idx : Nat} (h : Cond.methodLink own idx yX1_addNote ∈ lw_g) : GoodIn lw_g (wsV own idx RX1 yX1_addNote (Cond.code yX1_addNote cX1_addNote 3 none :: lw_g)) := gV h w_784 w_785 w_62 w_786
theorem hd_X1_addNote : yX1_addNote.cls = RX1 ∧ yX1_addNote.cls ≠ "java/lang/invoke/MethodHandle" ∧ yX1_addNote.cls ≠ "java/lang/invoke/VarHandle" ∧ (parseMethodDescriptor yX1_addNote.desc).map (fun d => d.parameters.length) = some 2 := by decide +kernel
set_option maxHeartbeats 4000000 in
set_option maxRecDepth 100000 in
theorem c_X1_addNote (l : Launch) (D : va_G) (cI cJ cZ : ClassId) (en : EnT) (q_t q_t_debts q_t_criers q_t_louds q_t_highs q_t_hours q_t_hearers q_t_minutes : Nat) (sz : Nat) (v_t_cries : Int32) (v_t_notes : Int32) (v_t_debts : Nat → Int32) (v_t_criers : Nat → Int32) (v_t_louds : Nat → Int32) (v_t_highs : Nat → Int32) (v_t_hours : Nat → Int32) (v_t_hearers : Nat → Int32) (v_t_minutes : Nat → Int32) (x1 : Int32) (x2 : Int32) {z : Int32 × (Nat → Int32) × (Nat → Int32)} (hf : f_X1_addNote v_t_notes v_t_hearers v_t_minutes x1 x2 = some z) : Met l yX1_addNote (Cond.code yX1_addNote cX1_addNote 3 none :: lw_g) ({ frames := 0, cells := 0, slots := 0, locals := 0 } : Room) (PC D cI cJ cZ en ([.ref q_t, .int x1, .int x2] : List Value) [(q_t, .inr (1, [.ref q_t_debts, .ref q_t_criers, .ref q_t_louds, .ref q_t_highs, .ref q_t_hours, .ref q_t_hearers, .ref q_t_minutes, .int v_t_cries, .int v_t_notes])), (q_t_debts, .inl (cI, 36, .inl v_t_debts)), (q_t_criers, .inl (cI, 20, .inl v_t_criers)), (q_t_louds, .inl (cI, 20, .inl v_t_louds)), (q_t_highs, .inl (cZ, 20, .inl v_t_highs)), (q_t_hours, .inl (cI, 20, .inl v_t_hours)), (q_t_hearers, .inl (cI, 12, .inl v_t_hearers)), (q_t_minutes, .inl (cI, 12, .inl v_t_minutes))] sz) (QV D cI cJ cZ [(q_t, .inr (1, [.ref q_t_debts, .ref q_t_criers, .ref q_t_louds, .ref q_t_highs, .ref q_t_hours, .ref q_t_hearers, .ref q_t_minutes, .int v_t_cries, .int z.1])), (q_t_debts, .inl (cI, 36, .inl v_t_debts)), (q_t_criers, .inl (cI, 20, .inl v_t_criers)), (q_t_louds, .inl (cI, 20, .inl v_t_louds)), (q_t_highs, .inl (cZ, 20, .inl v_t_highs)), (q_t_hours, .inl (cI, 20, .inl v_t_hours)), (q_t_hearers, .inl (cI, 12, .inl z.2.1)), (q_t_minutes, .inl (cI, 12, .inl z.2.2))] (va_A [(q_t, .inr (1, [.ref q_t_debts, .ref q_t_criers, .ref q_t_louds, .ref q_t_highs, .ref q_t_hours, .ref q_t_hearers, .ref q_t_minutes, .int v_t_cries, .int v_t_notes])), (q_t_debts, .inl (cI, 36, .inl v_t_debts)), (q_t_criers, .inl (cI, 20, .inl v_t_criers)), (q_t_louds, .inl (cI, 20, .inl v_t_louds)), (q_t_highs, .inl (cZ, 20, .inl v_t_highs)), (q_t_hours, .inl (cI, 20, .inl v_t_hours)), (q_t_hearers, .inl (cI, 12, .inl v_t_hearers)), (q_t_minutes, .inl (cI, 12, .inl v_t_minutes))] sz)) 0 0 (va_A [(q_t, .inr (1, [.ref q_t_debts, .ref q_t_criers, .ref q_t_louds, .ref q_t_highs, .ref q_t_hours, .ref q_t_hearers, .ref q_t_minutes, .int v_t_cries, .int v_t_notes])), (q_t_debts, .inl (cI, 36, .inl v_t_debts)), (q_t_criers, .inl (cI, 20, .inl v_t_criers)), (q_t_louds, .inl (cI, 20, .inl v_t_louds)), (q_t_highs, .inl (cZ, 20, .inl v_t_highs)), (q_t_hours, .inl (cI, 20, .inl v_t_hours)), (q_t_hearers, .inl (cI, 12, .inl v_t_hearers)), (q_t_minutes, .inl (cI, 12, .inl v_t_minutes))] sz) := by
  refine mk_met (Qc := fun A => (QV D cI cJ cZ [(q_t, .inr (1, [.ref q_t_debts, .ref q_t_criers, .ref q_t_louds, .ref q_t_highs, .ref q_t_hours, .ref q_t_hearers, .ref q_t_minutes, .int v_t_cries, .int z.1])), (q_t_debts, .inl (cI, 36, .inl v_t_debts)), (q_t_criers, .inl (cI, 20, .inl v_t_criers)), (q_t_louds, .inl (cI, 20, .inl v_t_louds)), (q_t_highs, .inl (cZ, 20, .inl v_t_highs)), (q_t_hours, .inl (cI, 20, .inl v_t_hours)), (q_t_hearers, .inl (cI, 12, .inl z.2.1)), (q_t_minutes, .inl (cI, 12, .inl z.2.2))] A)) RX1 (by decide) rfl (Nat.le_of_ble_eq_true rfl) ?_
  intro p e s m below meth c ls A hx hb hr hml hown hts hlocks hA hK hE hl hD H locs hP hS
  have hl : lv_has ls 3 [(0, .ref q_t), (1, .int x1), (2, .int x2)] := hl
  unfold f_X1_addNote at hf
  refine lv_aload_n hx hb dX1_addNote_0 rfl (lv_at hl 0 rfl) ?_
  refine va_get (D := D) (ci := 1) (v := .int v_t_notes) (C := RX1) (T := TX1) (N := 9) hx hb hts inX1 hown hK hP 0 rfl rfl 8 (by decide) (hts _ w_187) (fun _ h9 => h9) rfl dX1_addNote_1 ?_
  refine lv_if_lt (tgt := 16) hx hb dX1_addNote_4 (by decide) (fun h_1 => ?_) (fun h_1 => ?_)
  · have hf := (if_pos h_1).symm.trans hf
    cases hf
    exact rt_v hx hb hr hlocks hK hP hS dX1_addNote_16
  · have hf := (if_neg h_1).symm.trans hf
    refine lv_aload_n hx hb dX1_addNote_7 rfl (lv_at hl 0 rfl) ?_
    refine va_get (D := D) (ci := 1) (v := .int v_t_notes) (C := RX1) (T := TX1) (N := 9) hx hb hts inX1 hown hK hP 0 rfl rfl 8 (by decide) (hts _ w_187) (fun _ h9 => h9) rfl dX1_addNote_8 ?_
    refine lv_bipush (v := 12) hx hb dX1_addNote_11 (by decide) ?_
    refine lv_icmp_lt (tgt := 17) hx hb dX1_addNote_13 (by decide) (fun h_2 => ?_) (fun h_2 => ?_)
    · have hf := (if_pos h_2).symm.trans hf
      refine lv_aload_n hx hb dX1_addNote_17 rfl (lv_at hl 0 rfl) ?_
      refine va_get (D := D) (ci := 1) (v := .ref q_t_hearers) (C := RX1) (T := TX1) (N := 9) hx hb hts inX1 hown hK hP 0 rfl rfl 5 (by decide) (hts _ w_183) (fun _ h9 => h9) rfl dX1_addNote_18 ?_
      refine lv_aload_n hx hb dX1_addNote_21 rfl (lv_at hl 0 rfl) ?_
      refine va_get (D := D) (ci := 1) (v := .int v_t_notes) (C := RX1) (T := TX1) (N := 9) hx hb hts inX1 hown hK hP 0 rfl rfl 8 (by decide) (hts _ w_187) (fun _ h9 => h9) rfl dX1_addNote_22 ?_
      refine lv_iload_n hx hb dX1_addNote_25 rfl (lv_at hl 1 rfl) ?_
      obtain ⟨hin, hf⟩ := gd_some hf
      refine va_iast hx hb hK hP hD hS 6 0 rfl rfl hin dX1_addNote_26 (fun H locs hP hD hS => ?_)
      have hP : va_P D vwCl [(q_t, .inr (1, [.ref q_t_debts, .ref q_t_criers, .ref q_t_louds, .ref q_t_highs, .ref q_t_hours, .ref q_t_hearers, .ref q_t_minutes, .int v_t_cries, .int v_t_notes])), (q_t_debts, .inl (cI, 36, .inl v_t_debts)), (q_t_criers, .inl (cI, 20, .inl v_t_criers)), (q_t_louds, .inl (cI, 20, .inl v_t_louds)), (q_t_highs, .inl (cZ, 20, .inl v_t_highs)), (q_t_hours, .inl (cI, 20, .inl v_t_hours)), (q_t_hearers, .inl (cI, 12, .inl (upd v_t_hearers (Int32.toNatClampNeg v_t_notes) x1))), (q_t_minutes, .inl (cI, 12, .inl v_t_minutes))] H := hP
      have hD : va_D A [(q_t, .inr (1, [.ref q_t_debts, .ref q_t_criers, .ref q_t_louds, .ref q_t_highs, .ref q_t_hours, .ref q_t_hearers, .ref q_t_minutes, .int v_t_cries, .int v_t_notes])), (q_t_debts, .inl (cI, 36, .inl v_t_debts)), (q_t_criers, .inl (cI, 20, .inl v_t_criers)), (q_t_louds, .inl (cI, 20, .inl v_t_louds)), (q_t_highs, .inl (cZ, 20, .inl v_t_highs)), (q_t_hours, .inl (cI, 20, .inl v_t_hours)), (q_t_hearers, .inl (cI, 12, .inl (upd v_t_hearers (Int32.toNatClampNeg v_t_notes) x1))), (q_t_minutes, .inl (cI, 12, .inl v_t_minutes))] := hD
      refine lv_aload_n hx hb dX1_addNote_27 rfl (lv_at hl 0 rfl) ?_
      refine va_get (D := D) (ci := 1) (v := .ref q_t_minutes) (C := RX1) (T := TX1) (N := 9) hx hb hts inX1 hown hK hP 0 rfl rfl 6 (by decide) (hts _ w_184) (fun _ h9 => h9) rfl dX1_addNote_28 ?_
      refine lv_aload_n hx hb dX1_addNote_31 rfl (lv_at hl 0 rfl) ?_
      refine va_get (D := D) (ci := 1) (v := .int v_t_notes) (C := RX1) (T := TX1) (N := 9) hx hb hts inX1 hown hK hP 0 rfl rfl 8 (by decide) (hts _ w_187) (fun _ h9 => h9) rfl dX1_addNote_32 ?_
      refine lv_iload_n hx hb dX1_addNote_35 rfl (lv_at hl 2 rfl) ?_
      obtain ⟨hin, hf⟩ := gd_some hf
      refine va_iast hx hb hK hP hD hS 7 0 rfl rfl hin dX1_addNote_36 (fun H locs hP hD hS => ?_)
      have hP : va_P D vwCl [(q_t, .inr (1, [.ref q_t_debts, .ref q_t_criers, .ref q_t_louds, .ref q_t_highs, .ref q_t_hours, .ref q_t_hearers, .ref q_t_minutes, .int v_t_cries, .int v_t_notes])), (q_t_debts, .inl (cI, 36, .inl v_t_debts)), (q_t_criers, .inl (cI, 20, .inl v_t_criers)), (q_t_louds, .inl (cI, 20, .inl v_t_louds)), (q_t_highs, .inl (cZ, 20, .inl v_t_highs)), (q_t_hours, .inl (cI, 20, .inl v_t_hours)), (q_t_hearers, .inl (cI, 12, .inl (upd v_t_hearers (Int32.toNatClampNeg v_t_notes) x1))), (q_t_minutes, .inl (cI, 12, .inl (upd v_t_minutes (Int32.toNatClampNeg v_t_notes) x2)))] H := hP
      have hD : va_D A [(q_t, .inr (1, [.ref q_t_debts, .ref q_t_criers, .ref q_t_louds, .ref q_t_highs, .ref q_t_hours, .ref q_t_hearers, .ref q_t_minutes, .int v_t_cries, .int v_t_notes])), (q_t_debts, .inl (cI, 36, .inl v_t_debts)), (q_t_criers, .inl (cI, 20, .inl v_t_criers)), (q_t_louds, .inl (cI, 20, .inl v_t_louds)), (q_t_highs, .inl (cZ, 20, .inl v_t_highs)), (q_t_hours, .inl (cI, 20, .inl v_t_hours)), (q_t_hearers, .inl (cI, 12, .inl (upd v_t_hearers (Int32.toNatClampNeg v_t_notes) x1))), (q_t_minutes, .inl (cI, 12, .inl (upd v_t_minutes (Int32.toNatClampNeg v_t_notes) x2)))] := hD
      refine lv_aload_n hx hb dX1_addNote_37 rfl (lv_at hl 0 rfl) ?_
      refine lv_dup hx hb dX1_addNote_38 rfl ?_
      refine va_get (D := D) (ci := 1) (v := .int v_t_notes) (C := RX1) (T := TX1) (N := 9) hx hb hts inX1 hown hK hP 0 rfl rfl 8 (by decide) (hts _ w_187) (fun _ h9 => h9) rfl dX1_addNote_39 ?_
      refine lv_iconst (v := 1) hx hb dX1_addNote_42 (by decide) ?_
      refine lv_iadd hx hb dX1_addNote_43 ?_
      refine va_put (D := D) (ci := 1) (v := .int (v_t_notes + 1)) (ty := .int) (C := RX1) (T := TX1) (N := 9) hx hb hts inX1 tyX1 tyX1_ok nmX1 hown hK hP hD hS 0 rfl rfl 8 (by decide) (hts _ w_187) (fun _ h9 => h9) rfl (by decide +kernel) rfl rfl (Nat.le_of_ble_eq_true rfl) dX1_addNote_44 (fun H locs hP hD hS => ?_)
      have hP : va_P D vwCl [(q_t, .inr (1, [.ref q_t_debts, .ref q_t_criers, .ref q_t_louds, .ref q_t_highs, .ref q_t_hours, .ref q_t_hearers, .ref q_t_minutes, .int v_t_cries, .int (v_t_notes + 1)])), (q_t_debts, .inl (cI, 36, .inl v_t_debts)), (q_t_criers, .inl (cI, 20, .inl v_t_criers)), (q_t_louds, .inl (cI, 20, .inl v_t_louds)), (q_t_highs, .inl (cZ, 20, .inl v_t_highs)), (q_t_hours, .inl (cI, 20, .inl v_t_hours)), (q_t_hearers, .inl (cI, 12, .inl (upd v_t_hearers (Int32.toNatClampNeg v_t_notes) x1))), (q_t_minutes, .inl (cI, 12, .inl (upd v_t_minutes (Int32.toNatClampNeg v_t_notes) x2)))] H := hP
      have hD : va_D A [(q_t, .inr (1, [.ref q_t_debts, .ref q_t_criers, .ref q_t_louds, .ref q_t_highs, .ref q_t_hours, .ref q_t_hearers, .ref q_t_minutes, .int v_t_cries, .int (v_t_notes + 1)])), (q_t_debts, .inl (cI, 36, .inl v_t_debts)), (q_t_criers, .inl (cI, 20, .inl v_t_criers)), (q_t_louds, .inl (cI, 20, .inl v_t_louds)), (q_t_highs, .inl (cZ, 20, .inl v_t_highs)), (q_t_hours, .inl (cI, 20, .inl v_t_hours)), (q_t_hearers, .inl (cI, 12, .inl (upd v_t_hearers (Int32.toNatClampNeg v_t_notes) x1))), (q_t_minutes, .inl (cI, 12, .inl (upd v_t_minutes (Int32.toNatClampNeg v_t_notes) x2)))] := hD
      cases hf
      exact rt_v hx hb hr hlocks hK hP hS dX1_addNote_47
    · have hf := (if_neg h_2).symm.trans hf
      cases hf
      exact rt_v hx hb hr hlocks hK hP hS dX1_addNote_16

def f_X1_isNote (x0 : Int32) : Option (Int32) :=
  (if x0 < 0 then (some 0) else (if 12 ≤ x0 then (some 0) else (some 1)))
theorem gs_X1_isNote {own : String} {idx : Nat} (h : Cond.methodLink own idx yX1_isNote ∈ lw_g) : GoodIn lw_g (va_wsS own idx yX1_isNote (Cond.code yX1_isNote cX1_isNote 1 (some .boolean) :: lw_g)) := gS h w_822 w_62 w_823
theorem hd_X1_isNote : yX1_isNote.cls ≠ "java/lang/invoke/MethodHandle" ∧ yX1_isNote.cls ≠ "java/lang/invoke/VarHandle" ∧ (parseMethodDescriptor yX1_isNote.desc).map (fun d => d.parameters.length) = some 1 := by decide +kernel
set_option maxHeartbeats 4000000 in
set_option maxRecDepth 100000 in
theorem c_X1_isNote (l : Launch) (D : va_G) (cI cJ cZ : ClassId) (en : EnT) (sz : Nat) (x0 : Int32) {z : Int32} (hf : f_X1_isNote x0 = some z) : Met l yX1_isNote (Cond.code yX1_isNote cX1_isNote 1 (some .boolean) :: lw_g) ({ frames := 0, cells := 0, slots := 0, locals := 0 } : Room) (PC D cI cJ cZ en ([.int x0] : List Value) [] sz) (QI D cI cJ cZ [] z (va_A [] sz)) 0 0 (va_A [] sz) := by
  refine mk_met (Qc := fun A => (QI D cI cJ cZ [] z A)) RX1 (by decide) rfl (Nat.le_of_ble_eq_true rfl) ?_
  intro p e s m below meth c ls A hx hb hr hml hown hts hlocks hA hK hE hl hD H locs hP hS
  have hl : lv_has ls 1 [(0, .int x0)] := hl
  unfold f_X1_isNote at hf
  refine lv_iload_n hx hb dX1_isNote_0 rfl (lv_at hl 0 rfl) ?_
  refine lv_if_lt (tgt := 14) hx hb dX1_isNote_1 (by decide) (fun h_1 => ?_) (fun h_1 => ?_)
  · have hf := (if_pos h_1).symm.trans hf
    refine lv_iconst (v := 0) hx hb dX1_isNote_14 (by decide) ?_
    cases hf
    exact rt_z hx hb hr hlocks hK hP hS (Or.inl rfl) dX1_isNote_15
  · have hf := (if_neg h_1).symm.trans hf
    refine lv_iload_n hx hb dX1_isNote_4 rfl (lv_at hl 0 rfl) ?_
    refine lv_bipush (v := 12) hx hb dX1_isNote_5 (by decide) ?_
    refine lv_icmp_ge (tgt := 14) hx hb dX1_isNote_7 (by decide) (fun h_2 => ?_) (fun h_2 => ?_)
    · have hf := (if_pos h_2).symm.trans hf
      refine lv_iconst (v := 0) hx hb dX1_isNote_14 (by decide) ?_
      cases hf
      exact rt_z hx hb hr hlocks hK hP hS (Or.inl rfl) dX1_isNote_15
    · have hf := (if_neg h_2).symm.trans hf
      refine lv_iconst (v := 1) hx hb dX1_isNote_10 (by decide) ?_
      refine lv_goto (tgt := 15) hx hb dX1_isNote_11 (by decide) ?_
      cases hf
      exact rt_z hx hb hr hlocks hK hP hS (Or.inr rfl) dX1_isNote_15

def f_X1_hearerOf (v_t_hearers : Nat → Int32) (x1 : Int32) : Option (Int32) :=
  (f_X1_isNote x1).bind (fun z1 => (if z1 = 0 then (some (-1)) else gd (ib x1 12) ((some (v_t_hearers (Int32.toNatClampNeg x1))))))
theorem gv_X1_hearerOf {own : String} {idx : Nat} (h : Cond.methodLink own idx yX1_hearerOf ∈ lw_g) : GoodIn lw_g (wsV own idx RX1 yX1_hearerOf (Cond.code yX1_hearerOf cX1_hearerOf 2 (some .int) :: lw_g)) := gV h w_818 w_819 w_62 w_820
theorem hd_X1_hearerOf : yX1_hearerOf.cls = RX1 ∧ yX1_hearerOf.cls ≠ "java/lang/invoke/MethodHandle" ∧ yX1_hearerOf.cls ≠ "java/lang/invoke/VarHandle" ∧ (parseMethodDescriptor yX1_hearerOf.desc).map (fun d => d.parameters.length) = some 1 := by decide +kernel
set_option maxHeartbeats 4000000 in
set_option maxRecDepth 100000 in
theorem c_X1_hearerOf (l : Launch) (D : va_G) (cI cJ cZ : ClassId) (en : EnT) (q_t q_t_debts q_t_criers q_t_louds q_t_highs q_t_hours q_t_hearers q_t_minutes : Nat) (sz : Nat) (v_t_cries : Int32) (v_t_notes : Int32) (v_t_debts : Nat → Int32) (v_t_criers : Nat → Int32) (v_t_louds : Nat → Int32) (v_t_highs : Nat → Int32) (v_t_hours : Nat → Int32) (v_t_hearers : Nat → Int32) (v_t_minutes : Nat → Int32) (x1 : Int32) {z : Int32} (hf : f_X1_hearerOf v_t_hearers x1 = some z) : Met l yX1_hearerOf (Cond.code yX1_hearerOf cX1_hearerOf 2 (some .int) :: lw_g) ({ frames := 1, cells := 0, slots := 0, locals := 20 } : Room) (PC D cI cJ cZ en ([.ref q_t, .int x1] : List Value) [(q_t, .inr (1, [.ref q_t_debts, .ref q_t_criers, .ref q_t_louds, .ref q_t_highs, .ref q_t_hours, .ref q_t_hearers, .ref q_t_minutes, .int v_t_cries, .int v_t_notes])), (q_t_debts, .inl (cI, 36, .inl v_t_debts)), (q_t_criers, .inl (cI, 20, .inl v_t_criers)), (q_t_louds, .inl (cI, 20, .inl v_t_louds)), (q_t_highs, .inl (cZ, 20, .inl v_t_highs)), (q_t_hours, .inl (cI, 20, .inl v_t_hours)), (q_t_hearers, .inl (cI, 12, .inl v_t_hearers)), (q_t_minutes, .inl (cI, 12, .inl v_t_minutes))] sz) (QI D cI cJ cZ [(q_t, .inr (1, [.ref q_t_debts, .ref q_t_criers, .ref q_t_louds, .ref q_t_highs, .ref q_t_hours, .ref q_t_hearers, .ref q_t_minutes, .int v_t_cries, .int v_t_notes])), (q_t_debts, .inl (cI, 36, .inl v_t_debts)), (q_t_criers, .inl (cI, 20, .inl v_t_criers)), (q_t_louds, .inl (cI, 20, .inl v_t_louds)), (q_t_highs, .inl (cZ, 20, .inl v_t_highs)), (q_t_hours, .inl (cI, 20, .inl v_t_hours)), (q_t_hearers, .inl (cI, 12, .inl v_t_hearers)), (q_t_minutes, .inl (cI, 12, .inl v_t_minutes))] z (va_A [(q_t, .inr (1, [.ref q_t_debts, .ref q_t_criers, .ref q_t_louds, .ref q_t_highs, .ref q_t_hours, .ref q_t_hearers, .ref q_t_minutes, .int v_t_cries, .int v_t_notes])), (q_t_debts, .inl (cI, 36, .inl v_t_debts)), (q_t_criers, .inl (cI, 20, .inl v_t_criers)), (q_t_louds, .inl (cI, 20, .inl v_t_louds)), (q_t_highs, .inl (cZ, 20, .inl v_t_highs)), (q_t_hours, .inl (cI, 20, .inl v_t_hours)), (q_t_hearers, .inl (cI, 12, .inl v_t_hearers)), (q_t_minutes, .inl (cI, 12, .inl v_t_minutes))] sz)) 0 0 (va_A [(q_t, .inr (1, [.ref q_t_debts, .ref q_t_criers, .ref q_t_louds, .ref q_t_highs, .ref q_t_hours, .ref q_t_hearers, .ref q_t_minutes, .int v_t_cries, .int v_t_notes])), (q_t_debts, .inl (cI, 36, .inl v_t_debts)), (q_t_criers, .inl (cI, 20, .inl v_t_criers)), (q_t_louds, .inl (cI, 20, .inl v_t_louds)), (q_t_highs, .inl (cZ, 20, .inl v_t_highs)), (q_t_hours, .inl (cI, 20, .inl v_t_hours)), (q_t_hearers, .inl (cI, 12, .inl v_t_hearers)), (q_t_minutes, .inl (cI, 12, .inl v_t_minutes))] sz) := by
  refine mk_met (Qc := fun A => (QI D cI cJ cZ [(q_t, .inr (1, [.ref q_t_debts, .ref q_t_criers, .ref q_t_louds, .ref q_t_highs, .ref q_t_hours, .ref q_t_hearers, .ref q_t_minutes, .int v_t_cries, .int v_t_notes])), (q_t_debts, .inl (cI, 36, .inl v_t_debts)), (q_t_criers, .inl (cI, 20, .inl v_t_criers)), (q_t_louds, .inl (cI, 20, .inl v_t_louds)), (q_t_highs, .inl (cZ, 20, .inl v_t_highs)), (q_t_hours, .inl (cI, 20, .inl v_t_hours)), (q_t_hearers, .inl (cI, 12, .inl v_t_hearers)), (q_t_minutes, .inl (cI, 12, .inl v_t_minutes))] z A)) RX1 (by decide) rfl (Nat.le_of_ble_eq_true rfl) ?_
  intro p e s m below meth c ls A hx hb hr hml hown hts hlocks hA hK hE hl hD H locs hP hS
  have hl : lv_has ls 2 [(0, .ref q_t), (1, .int x1)] := hl
  unfold f_X1_hearerOf at hf
  refine lv_iload_n hx hb dX1_hearerOf_0 rfl (lv_at hl 1 rfl) ?_
  obtain ⟨z1_1, hz1_1, hf⟩ := bd_some hf
  refine cSi (rest := []) ⟨hx, hb, hml, hown, hts⟩ hE hK hP hD hS hA (c_X1_isNote l D cI cJ cZ en  H.size x1 hz1_1) (gs_X1_isNote w_821) hd_X1_isNote ⟨rfl, rfl⟩ ⟨by decide, by decide⟩ [] rfl rfl rfl  hl rfl (Nat.le_of_ble_eq_true rfl) ⟨Nat.zero_le _, Nat.zero_le _⟩ dX1_hearerOf_1 (fun H locs hP hD hS => ?_)
  have hP : va_P D vwCl [(q_t, .inr (1, [.ref q_t_debts, .ref q_t_criers, .ref q_t_louds, .ref q_t_highs, .ref q_t_hours, .ref q_t_hearers, .ref q_t_minutes, .int v_t_cries, .int v_t_notes])), (q_t_debts, .inl (cI, 36, .inl v_t_debts)), (q_t_criers, .inl (cI, 20, .inl v_t_criers)), (q_t_louds, .inl (cI, 20, .inl v_t_louds)), (q_t_highs, .inl (cZ, 20, .inl v_t_highs)), (q_t_hours, .inl (cI, 20, .inl v_t_hours)), (q_t_hearers, .inl (cI, 12, .inl v_t_hearers)), (q_t_minutes, .inl (cI, 12, .inl v_t_minutes))] H := hP
  have hD : va_D A [(q_t, .inr (1, [.ref q_t_debts, .ref q_t_criers, .ref q_t_louds, .ref q_t_highs, .ref q_t_hours, .ref q_t_hearers, .ref q_t_minutes, .int v_t_cries, .int v_t_notes])), (q_t_debts, .inl (cI, 36, .inl v_t_debts)), (q_t_criers, .inl (cI, 20, .inl v_t_criers)), (q_t_louds, .inl (cI, 20, .inl v_t_louds)), (q_t_highs, .inl (cZ, 20, .inl v_t_highs)), (q_t_hours, .inl (cI, 20, .inl v_t_hours)), (q_t_hearers, .inl (cI, 12, .inl v_t_hearers)), (q_t_minutes, .inl (cI, 12, .inl v_t_minutes))] := hD
  refine lv_if_eq (tgt := 16) hx hb dX1_hearerOf_4 (by decide) (fun h_2 => ?_) (fun h_2 => ?_)
  · have hf := (if_pos h_2).symm.trans hf
    refine lv_iconst (v := (-1)) hx hb dX1_hearerOf_16 (by decide) ?_
    cases hf
    exact rt_i hx hb hr hlocks hK hP hS dX1_hearerOf_17
  · have hf := (if_neg h_2).symm.trans hf
    refine lv_aload_n hx hb dX1_hearerOf_7 rfl (lv_at hl 0 rfl) ?_
    refine va_get (D := D) (ci := 1) (v := .ref q_t_hearers) (C := RX1) (T := TX1) (N := 9) hx hb hts inX1 hown hK hP 0 rfl rfl 5 (by decide) (hts _ w_183) (fun _ h9 => h9) rfl dX1_hearerOf_8 ?_
    refine lv_iload_n hx hb dX1_hearerOf_11 rfl (lv_at hl 1 rfl) ?_
    obtain ⟨hin, hf⟩ := gd_some hf
    refine va_iald hx hb hK hP 6 0 rfl rfl hin dX1_hearerOf_12 ?_
    refine lv_goto (tgt := 17) hx hb dX1_hearerOf_13 (by decide) ?_
    cases hf
    exact rt_i hx hb hr hlocks hK hP hS dX1_hearerOf_17

def f_X1_minuteOf (v_t_minutes : Nat → Int32) (x1 : Int32) : Option (Int32) :=
  (f_X1_isNote x1).bind (fun z1 => (if z1 = 0 then (some 0) else gd (ib x1 12) ((some (v_t_minutes (Int32.toNatClampNeg x1))))))
theorem gv_X1_minuteOf {own : String} {idx : Nat} (h : Cond.methodLink own idx yX1_minuteOf ∈ lw_g) : GoodIn lw_g (wsV own idx RX1 yX1_minuteOf (Cond.code yX1_minuteOf cX1_minuteOf 2 (some .int) :: lw_g)) := gV h w_825 w_826 w_62 w_827
theorem hd_X1_minuteOf : yX1_minuteOf.cls = RX1 ∧ yX1_minuteOf.cls ≠ "java/lang/invoke/MethodHandle" ∧ yX1_minuteOf.cls ≠ "java/lang/invoke/VarHandle" ∧ (parseMethodDescriptor yX1_minuteOf.desc).map (fun d => d.parameters.length) = some 1 := by decide +kernel
set_option maxHeartbeats 4000000 in
set_option maxRecDepth 100000 in
theorem c_X1_minuteOf (l : Launch) (D : va_G) (cI cJ cZ : ClassId) (en : EnT) (q_t q_t_debts q_t_criers q_t_louds q_t_highs q_t_hours q_t_hearers q_t_minutes : Nat) (sz : Nat) (v_t_cries : Int32) (v_t_notes : Int32) (v_t_debts : Nat → Int32) (v_t_criers : Nat → Int32) (v_t_louds : Nat → Int32) (v_t_highs : Nat → Int32) (v_t_hours : Nat → Int32) (v_t_hearers : Nat → Int32) (v_t_minutes : Nat → Int32) (x1 : Int32) {z : Int32} (hf : f_X1_minuteOf v_t_minutes x1 = some z) : Met l yX1_minuteOf (Cond.code yX1_minuteOf cX1_minuteOf 2 (some .int) :: lw_g) ({ frames := 1, cells := 0, slots := 0, locals := 20 } : Room) (PC D cI cJ cZ en ([.ref q_t, .int x1] : List Value) [(q_t, .inr (1, [.ref q_t_debts, .ref q_t_criers, .ref q_t_louds, .ref q_t_highs, .ref q_t_hours, .ref q_t_hearers, .ref q_t_minutes, .int v_t_cries, .int v_t_notes])), (q_t_debts, .inl (cI, 36, .inl v_t_debts)), (q_t_criers, .inl (cI, 20, .inl v_t_criers)), (q_t_louds, .inl (cI, 20, .inl v_t_louds)), (q_t_highs, .inl (cZ, 20, .inl v_t_highs)), (q_t_hours, .inl (cI, 20, .inl v_t_hours)), (q_t_hearers, .inl (cI, 12, .inl v_t_hearers)), (q_t_minutes, .inl (cI, 12, .inl v_t_minutes))] sz) (QI D cI cJ cZ [(q_t, .inr (1, [.ref q_t_debts, .ref q_t_criers, .ref q_t_louds, .ref q_t_highs, .ref q_t_hours, .ref q_t_hearers, .ref q_t_minutes, .int v_t_cries, .int v_t_notes])), (q_t_debts, .inl (cI, 36, .inl v_t_debts)), (q_t_criers, .inl (cI, 20, .inl v_t_criers)), (q_t_louds, .inl (cI, 20, .inl v_t_louds)), (q_t_highs, .inl (cZ, 20, .inl v_t_highs)), (q_t_hours, .inl (cI, 20, .inl v_t_hours)), (q_t_hearers, .inl (cI, 12, .inl v_t_hearers)), (q_t_minutes, .inl (cI, 12, .inl v_t_minutes))] z (va_A [(q_t, .inr (1, [.ref q_t_debts, .ref q_t_criers, .ref q_t_louds, .ref q_t_highs, .ref q_t_hours, .ref q_t_hearers, .ref q_t_minutes, .int v_t_cries, .int v_t_notes])), (q_t_debts, .inl (cI, 36, .inl v_t_debts)), (q_t_criers, .inl (cI, 20, .inl v_t_criers)), (q_t_louds, .inl (cI, 20, .inl v_t_louds)), (q_t_highs, .inl (cZ, 20, .inl v_t_highs)), (q_t_hours, .inl (cI, 20, .inl v_t_hours)), (q_t_hearers, .inl (cI, 12, .inl v_t_hearers)), (q_t_minutes, .inl (cI, 12, .inl v_t_minutes))] sz)) 0 0 (va_A [(q_t, .inr (1, [.ref q_t_debts, .ref q_t_criers, .ref q_t_louds, .ref q_t_highs, .ref q_t_hours, .ref q_t_hearers, .ref q_t_minutes, .int v_t_cries, .int v_t_notes])), (q_t_debts, .inl (cI, 36, .inl v_t_debts)), (q_t_criers, .inl (cI, 20, .inl v_t_criers)), (q_t_louds, .inl (cI, 20, .inl v_t_louds)), (q_t_highs, .inl (cZ, 20, .inl v_t_highs)), (q_t_hours, .inl (cI, 20, .inl v_t_hours)), (q_t_hearers, .inl (cI, 12, .inl v_t_hearers)), (q_t_minutes, .inl (cI, 12, .inl v_t_minutes))] sz) := by
  refine mk_met (Qc := fun A => (QI D cI cJ cZ [(q_t, .inr (1, [.ref q_t_debts, .ref q_t_criers, .ref q_t_louds, .ref q_t_highs, .ref q_t_hours, .ref q_t_hearers, .ref q_t_minutes, .int v_t_cries, .int v_t_notes])), (q_t_debts, .inl (cI, 36, .inl v_t_debts)), (q_t_criers, .inl (cI, 20, .inl v_t_criers)), (q_t_louds, .inl (cI, 20, .inl v_t_louds)), (q_t_highs, .inl (cZ, 20, .inl v_t_highs)), (q_t_hours, .inl (cI, 20, .inl v_t_hours)), (q_t_hearers, .inl (cI, 12, .inl v_t_hearers)), (q_t_minutes, .inl (cI, 12, .inl v_t_minutes))] z A)) RX1 (by decide) rfl (Nat.le_of_ble_eq_true rfl) ?_
  intro p e s m below meth c ls A hx hb hr hml hown hts hlocks hA hK hE hl hD H locs hP hS
  have hl : lv_has ls 2 [(0, .ref q_t), (1, .int x1)] := hl
  unfold f_X1_minuteOf at hf
  refine lv_iload_n hx hb dX1_minuteOf_0 rfl (lv_at hl 1 rfl) ?_
  obtain ⟨z1_1, hz1_1, hf⟩ := bd_some hf
  refine cSi (rest := []) ⟨hx, hb, hml, hown, hts⟩ hE hK hP hD hS hA (c_X1_isNote l D cI cJ cZ en  H.size x1 hz1_1) (gs_X1_isNote w_821) hd_X1_isNote ⟨rfl, rfl⟩ ⟨by decide, by decide⟩ [] rfl rfl rfl  hl rfl (Nat.le_of_ble_eq_true rfl) ⟨Nat.zero_le _, Nat.zero_le _⟩ dX1_minuteOf_1 (fun H locs hP hD hS => ?_)
  have hP : va_P D vwCl [(q_t, .inr (1, [.ref q_t_debts, .ref q_t_criers, .ref q_t_louds, .ref q_t_highs, .ref q_t_hours, .ref q_t_hearers, .ref q_t_minutes, .int v_t_cries, .int v_t_notes])), (q_t_debts, .inl (cI, 36, .inl v_t_debts)), (q_t_criers, .inl (cI, 20, .inl v_t_criers)), (q_t_louds, .inl (cI, 20, .inl v_t_louds)), (q_t_highs, .inl (cZ, 20, .inl v_t_highs)), (q_t_hours, .inl (cI, 20, .inl v_t_hours)), (q_t_hearers, .inl (cI, 12, .inl v_t_hearers)), (q_t_minutes, .inl (cI, 12, .inl v_t_minutes))] H := hP
  have hD : va_D A [(q_t, .inr (1, [.ref q_t_debts, .ref q_t_criers, .ref q_t_louds, .ref q_t_highs, .ref q_t_hours, .ref q_t_hearers, .ref q_t_minutes, .int v_t_cries, .int v_t_notes])), (q_t_debts, .inl (cI, 36, .inl v_t_debts)), (q_t_criers, .inl (cI, 20, .inl v_t_criers)), (q_t_louds, .inl (cI, 20, .inl v_t_louds)), (q_t_highs, .inl (cZ, 20, .inl v_t_highs)), (q_t_hours, .inl (cI, 20, .inl v_t_hours)), (q_t_hearers, .inl (cI, 12, .inl v_t_hearers)), (q_t_minutes, .inl (cI, 12, .inl v_t_minutes))] := hD
  refine lv_if_eq (tgt := 16) hx hb dX1_minuteOf_4 (by decide) (fun h_2 => ?_) (fun h_2 => ?_)
  · have hf := (if_pos h_2).symm.trans hf
    refine lv_iconst (v := 0) hx hb dX1_minuteOf_16 (by decide) ?_
    cases hf
    exact rt_i hx hb hr hlocks hK hP hS dX1_minuteOf_17
  · have hf := (if_neg h_2).symm.trans hf
    refine lv_aload_n hx hb dX1_minuteOf_7 rfl (lv_at hl 0 rfl) ?_
    refine va_get (D := D) (ci := 1) (v := .ref q_t_minutes) (C := RX1) (T := TX1) (N := 9) hx hb hts inX1 hown hK hP 0 rfl rfl 6 (by decide) (hts _ w_184) (fun _ h9 => h9) rfl dX1_minuteOf_8 ?_
    refine lv_iload_n hx hb dX1_minuteOf_11 rfl (lv_at hl 1 rfl) ?_
    obtain ⟨hin, hf⟩ := gd_some hf
    refine va_iald hx hb hK hP 7 0 rfl rfl hin dX1_minuteOf_12 ?_
    refine lv_goto (tgt := 17) hx hb dX1_minuteOf_13 (by decide) ?_
    cases hf
    exact rt_i hx hb hr hlocks hK hP hS dX1_minuteOf_17

def f_X2_copyFrom_L102 (v_t_columns : Int32) (v_t_rows : Int32) (v_t_fade : Int32) (v_t_laws : Int32) (v_t_nightHours : Int32) (v_t_nightTimes : Int32) (v_t_ground : Nat → Int32) (v_t_windows : Nat → Int32) (v_a1_lawParts : Nat → Int32) : Nat → (Int32) → (Nat → Int32) → Option (Int32 × Int32 × Int32 × Int32 × Int32 × Int32 × (Nat → Int32) × (Nat → Int32) × (Nat → Int32))
  | 0, _, _ => none
  | n + 1, x2, v_t_lawParts => (if 18 ≤ x2 then (some (v_t_columns, v_t_rows, v_t_fade, v_t_laws, v_t_nightHours, v_t_nightTimes, v_t_ground, v_t_windows, v_t_lawParts)) else gd (ib x2 18) (gd (ib x2 18) ((f_X2_copyFrom_L102 v_t_columns v_t_rows v_t_fade v_t_laws v_t_nightHours v_t_nightTimes v_t_ground v_t_windows v_a1_lawParts n (x2 + 1) (upd v_t_lawParts (Int32.toNatClampNeg x2) (v_a1_lawParts (Int32.toNatClampNeg x2)))))))
def f_X2_copyFrom_J100 (v_t_columns : Int32) (v_t_rows : Int32) (v_t_fade : Int32) (v_t_laws : Int32) (v_t_nightHours : Int32) (v_t_nightTimes : Int32) (v_t_ground : Nat → Int32) (v_t_windows : Nat → Int32) (v_t_lawParts : Nat → Int32) (v_a1_lawParts : Nat → Int32) : Option (Int32 × Int32 × Int32 × Int32 × Int32 × Int32 × (Nat → Int32) × (Nat → Int32) × (Nat → Int32)) :=
  (f_X2_copyFrom_L102 v_t_columns v_t_rows v_t_fade v_t_laws v_t_nightHours v_t_nightTimes v_t_ground v_t_windows v_a1_lawParts FU 0 v_t_lawParts)
def f_X2_copyFrom_L76 (v_t_columns : Int32) (v_t_rows : Int32) (v_t_fade : Int32) (v_t_laws : Int32) (v_t_nightHours : Int32) (v_t_nightTimes : Int32) (v_t_ground : Nat → Int32) (v_t_lawParts : Nat → Int32) (v_a1_windows : Nat → Int32) (v_a1_lawParts : Nat → Int32) : Nat → (Int32) → (Nat → Int32) → Option (Int32 × Int32 × Int32 × Int32 × Int32 × Int32 × (Nat → Int32) × (Nat → Int32) × (Nat → Int32))
  | 0, _, _ => none
  | n + 1, x2, v_t_windows => (if 6 ≤ x2 then (f_X2_copyFrom_J100 v_t_columns v_t_rows v_t_fade v_t_laws v_t_nightHours v_t_nightTimes v_t_ground v_t_windows v_t_lawParts v_a1_lawParts) else gd (ib x2 6) (gd (ib x2 6) ((f_X2_copyFrom_L76 v_t_columns v_t_rows v_t_fade v_t_laws v_t_nightHours v_t_nightTimes v_t_ground v_t_lawParts v_a1_windows v_a1_lawParts n (x2 + 1) (upd v_t_windows (Int32.toNatClampNeg x2) (v_a1_windows (Int32.toNatClampNeg x2)))))))
def f_X2_copyFrom_J74 (v_t_columns : Int32) (v_t_rows : Int32) (v_t_fade : Int32) (v_t_laws : Int32) (v_t_nightHours : Int32) (v_t_nightTimes : Int32) (v_t_ground : Nat → Int32) (v_t_windows : Nat → Int32) (v_t_lawParts : Nat → Int32) (v_a1_windows : Nat → Int32) (v_a1_lawParts : Nat → Int32) : Option (Int32 × Int32 × Int32 × Int32 × Int32 × Int32 × (Nat → Int32) × (Nat → Int32) × (Nat → Int32)) :=
  (f_X2_copyFrom_L76 v_t_columns v_t_rows v_t_fade v_t_laws v_t_nightHours v_t_nightTimes v_t_ground v_t_lawParts v_a1_windows v_a1_lawParts FU 0 v_t_windows)
def f_X2_copyFrom_L50 (v_t_columns : Int32) (v_t_rows : Int32) (v_t_fade : Int32) (v_t_laws : Int32) (v_t_nightHours : Int32) (v_t_nightTimes : Int32) (v_t_windows : Nat → Int32) (v_t_lawParts : Nat → Int32) (v_a1_ground : Nat → Int32) (v_a1_windows : Nat → Int32) (v_a1_lawParts : Nat → Int32) : Nat → (Int32) → (Nat → Int32) → Option (Int32 × Int32 × Int32 × Int32 × Int32 × Int32 × (Nat → Int32) × (Nat → Int32) × (Nat → Int32))
  | 0, _, _ => none
  | n + 1, x2, v_t_ground => (if 36 ≤ x2 then (f_X2_copyFrom_J74 v_t_columns v_t_rows v_t_fade v_t_laws v_t_nightHours v_t_nightTimes v_t_ground v_t_windows v_t_lawParts v_a1_windows v_a1_lawParts) else gd (ib x2 36) (gd (ib x2 36) ((f_X2_copyFrom_L50 v_t_columns v_t_rows v_t_fade v_t_laws v_t_nightHours v_t_nightTimes v_t_windows v_t_lawParts v_a1_ground v_a1_windows v_a1_lawParts n (x2 + 1) (upd v_t_ground (Int32.toNatClampNeg x2) (v_a1_ground (Int32.toNatClampNeg x2)))))))
def f_X2_copyFrom (v_t_columns : Int32) (v_t_rows : Int32) (v_t_fade : Int32) (v_t_laws : Int32) (v_t_nightHours : Int32) (v_t_nightTimes : Int32) (v_t_ground : Nat → Int32) (v_t_windows : Nat → Int32) (v_t_lawParts : Nat → Int32) (v_a1_columns : Int32) (v_a1_rows : Int32) (v_a1_fade : Int32) (v_a1_laws : Int32) (v_a1_nightHours : Int32) (v_a1_nightTimes : Int32) (v_a1_ground : Nat → Int32) (v_a1_windows : Nat → Int32) (v_a1_lawParts : Nat → Int32) : Option (Int32 × Int32 × Int32 × Int32 × Int32 × Int32 × (Nat → Int32) × (Nat → Int32) × (Nat → Int32)) :=
  (f_X2_copyFrom_L50 v_a1_columns v_a1_rows v_a1_fade v_a1_laws v_a1_nightHours v_a1_nightTimes v_t_windows v_t_lawParts v_a1_ground v_a1_windows v_a1_lawParts FU 0 v_t_ground)
theorem gv_X2_copyFrom {own : String} {idx : Nat} (h : Cond.methodLink own idx yX2_copyFrom ∈ lw_g) : GoodIn lw_g (wsV own idx RX2 yX2_copyFrom (Cond.code yX2_copyFrom cX2_copyFrom 3 none :: lw_g)) := gV h w_341 w_342 w_60 w_343
theorem hd_X2_copyFrom : yX2_copyFrom.cls = RX2 ∧ yX2_copyFrom.cls ≠ "java/lang/invoke/MethodHandle" ∧ yX2_copyFrom.cls ≠ "java/lang/invoke/VarHandle" ∧ (parseMethodDescriptor yX2_copyFrom.desc).map (fun d => d.parameters.length) = some 1 := by decide +kernel
set_option maxHeartbeats 4000000 in
set_option maxRecDepth 100000 in
theorem c_X2_copyFrom (l : Launch) (D : va_G) (cI cJ cZ : ClassId) (en : EnT) (q_t q_t_ground q_t_windows q_t_lawParts q_a1 q_a1_ground q_a1_windows q_a1_lawParts : Nat) (sz : Nat) (v_t_columns : Int32) (v_t_rows : Int32) (v_t_fade : Int32) (v_t_laws : Int32) (v_t_nightHours : Int32) (v_t_nightTimes : Int32) (v_t_ground : Nat → Int32) (v_t_windows : Nat → Int32) (v_t_lawParts : Nat → Int32) (v_a1_columns : Int32) (v_a1_rows : Int32) (v_a1_fade : Int32) (v_a1_laws : Int32) (v_a1_nightHours : Int32) (v_a1_nightTimes : Int32) (v_a1_ground : Nat → Int32) (v_a1_windows : Nat → Int32) (v_a1_lawParts : Nat → Int32) {z : Int32 × Int32 × Int32 × Int32 × Int32 × Int32 × (Nat → Int32) × (Nat → Int32) × (Nat → Int32)} (hf : f_X2_copyFrom v_t_columns v_t_rows v_t_fade v_t_laws v_t_nightHours v_t_nightTimes v_t_ground v_t_windows v_t_lawParts v_a1_columns v_a1_rows v_a1_fade v_a1_laws v_a1_nightHours v_a1_nightTimes v_a1_ground v_a1_windows v_a1_lawParts = some z) : Met l yX2_copyFrom (Cond.code yX2_copyFrom cX2_copyFrom 3 none :: lw_g) ({ frames := 0, cells := 0, slots := 0, locals := 0 } : Room) (PC D cI cJ cZ en ([.ref q_t, .ref q_a1] : List Value) [(q_t, .inr (2, [.int v_t_columns, .int v_t_rows, .int v_t_fade, .int v_t_laws, .int v_t_nightHours, .int v_t_nightTimes, .ref q_t_ground, .ref q_t_windows, .ref q_t_lawParts])), (q_t_ground, .inl (cI, 36, .inl v_t_ground)), (q_t_windows, .inl (cI, 6, .inl v_t_windows)), (q_t_lawParts, .inl (cI, 18, .inl v_t_lawParts)), (q_a1, .inr (2, [.int v_a1_columns, .int v_a1_rows, .int v_a1_fade, .int v_a1_laws, .int v_a1_nightHours, .int v_a1_nightTimes, .ref q_a1_ground, .ref q_a1_windows, .ref q_a1_lawParts])), (q_a1_ground, .inl (cI, 36, .inl v_a1_ground)), (q_a1_windows, .inl (cI, 6, .inl v_a1_windows)), (q_a1_lawParts, .inl (cI, 18, .inl v_a1_lawParts))] sz) (QV D cI cJ cZ [(q_t, .inr (2, [.int z.1, .int z.2.1, .int z.2.2.1, .int z.2.2.2.1, .int z.2.2.2.2.1, .int z.2.2.2.2.2.1, .ref q_t_ground, .ref q_t_windows, .ref q_t_lawParts])), (q_t_ground, .inl (cI, 36, .inl z.2.2.2.2.2.2.1)), (q_t_windows, .inl (cI, 6, .inl z.2.2.2.2.2.2.2.1)), (q_t_lawParts, .inl (cI, 18, .inl z.2.2.2.2.2.2.2.2)), (q_a1, .inr (2, [.int v_a1_columns, .int v_a1_rows, .int v_a1_fade, .int v_a1_laws, .int v_a1_nightHours, .int v_a1_nightTimes, .ref q_a1_ground, .ref q_a1_windows, .ref q_a1_lawParts])), (q_a1_ground, .inl (cI, 36, .inl v_a1_ground)), (q_a1_windows, .inl (cI, 6, .inl v_a1_windows)), (q_a1_lawParts, .inl (cI, 18, .inl v_a1_lawParts))] (va_A [(q_t, .inr (2, [.int v_t_columns, .int v_t_rows, .int v_t_fade, .int v_t_laws, .int v_t_nightHours, .int v_t_nightTimes, .ref q_t_ground, .ref q_t_windows, .ref q_t_lawParts])), (q_t_ground, .inl (cI, 36, .inl v_t_ground)), (q_t_windows, .inl (cI, 6, .inl v_t_windows)), (q_t_lawParts, .inl (cI, 18, .inl v_t_lawParts)), (q_a1, .inr (2, [.int v_a1_columns, .int v_a1_rows, .int v_a1_fade, .int v_a1_laws, .int v_a1_nightHours, .int v_a1_nightTimes, .ref q_a1_ground, .ref q_a1_windows, .ref q_a1_lawParts])), (q_a1_ground, .inl (cI, 36, .inl v_a1_ground)), (q_a1_windows, .inl (cI, 6, .inl v_a1_windows)), (q_a1_lawParts, .inl (cI, 18, .inl v_a1_lawParts))] sz)) 0 0 (va_A [(q_t, .inr (2, [.int v_t_columns, .int v_t_rows, .int v_t_fade, .int v_t_laws, .int v_t_nightHours, .int v_t_nightTimes, .ref q_t_ground, .ref q_t_windows, .ref q_t_lawParts])), (q_t_ground, .inl (cI, 36, .inl v_t_ground)), (q_t_windows, .inl (cI, 6, .inl v_t_windows)), (q_t_lawParts, .inl (cI, 18, .inl v_t_lawParts)), (q_a1, .inr (2, [.int v_a1_columns, .int v_a1_rows, .int v_a1_fade, .int v_a1_laws, .int v_a1_nightHours, .int v_a1_nightTimes, .ref q_a1_ground, .ref q_a1_windows, .ref q_a1_lawParts])), (q_a1_ground, .inl (cI, 36, .inl v_a1_ground)), (q_a1_windows, .inl (cI, 6, .inl v_a1_windows)), (q_a1_lawParts, .inl (cI, 18, .inl v_a1_lawParts))] sz) := by
  refine mk_met (Qc := fun A => (QV D cI cJ cZ [(q_t, .inr (2, [.int z.1, .int z.2.1, .int z.2.2.1, .int z.2.2.2.1, .int z.2.2.2.2.1, .int z.2.2.2.2.2.1, .ref q_t_ground, .ref q_t_windows, .ref q_t_lawParts])), (q_t_ground, .inl (cI, 36, .inl z.2.2.2.2.2.2.1)), (q_t_windows, .inl (cI, 6, .inl z.2.2.2.2.2.2.2.1)), (q_t_lawParts, .inl (cI, 18, .inl z.2.2.2.2.2.2.2.2)), (q_a1, .inr (2, [.int v_a1_columns, .int v_a1_rows, .int v_a1_fade, .int v_a1_laws, .int v_a1_nightHours, .int v_a1_nightTimes, .ref q_a1_ground, .ref q_a1_windows, .ref q_a1_lawParts])), (q_a1_ground, .inl (cI, 36, .inl v_a1_ground)), (q_a1_windows, .inl (cI, 6, .inl v_a1_windows)), (q_a1_lawParts, .inl (cI, 18, .inl v_a1_lawParts))] A)) RX2 (by decide) rfl (Nat.le_of_ble_eq_true rfl) ?_
  intro p e s m below meth c ls A hx hb hr hml hown hts hlocks hA hK hE hl hD H locs hP hS
  have hl : lv_has ls 3 [(0, .ref q_t), (1, .ref q_a1)] := hl
  unfold f_X2_copyFrom at hf
  refine lv_aload_n hx hb dX2_copyFrom_0 rfl (lv_at hl 0 rfl) ?_
  refine lv_aload_n hx hb dX2_copyFrom_1 rfl (lv_at hl 1 rfl) ?_
  refine va_get (D := D) (ci := 2) (v := .int v_a1_columns) (C := RX2) (T := TX2) (N := 9) hx hb hts inX2 hown hK hP 4 rfl rfl 0 (by decide) (hts _ w_133) (fun _ h9 => h9) rfl dX2_copyFrom_2 ?_
  refine va_put (D := D) (ci := 2) (v := .int v_a1_columns) (ty := .int) (C := RX2) (T := TX2) (N := 9) hx hb hts inX2 tyX2 tyX2_ok nmX2 hown hK hP hD hS 0 rfl rfl 0 (by decide) (hts _ w_133) (fun _ h9 => h9) rfl (by decide +kernel) rfl rfl (Nat.le_of_ble_eq_true rfl) dX2_copyFrom_5 (fun H locs hP hD hS => ?_)
  have hP : va_P D vwCl [(q_t, .inr (2, [.int v_a1_columns, .int v_t_rows, .int v_t_fade, .int v_t_laws, .int v_t_nightHours, .int v_t_nightTimes, .ref q_t_ground, .ref q_t_windows, .ref q_t_lawParts])), (q_t_ground, .inl (cI, 36, .inl v_t_ground)), (q_t_windows, .inl (cI, 6, .inl v_t_windows)), (q_t_lawParts, .inl (cI, 18, .inl v_t_lawParts)), (q_a1, .inr (2, [.int v_a1_columns, .int v_a1_rows, .int v_a1_fade, .int v_a1_laws, .int v_a1_nightHours, .int v_a1_nightTimes, .ref q_a1_ground, .ref q_a1_windows, .ref q_a1_lawParts])), (q_a1_ground, .inl (cI, 36, .inl v_a1_ground)), (q_a1_windows, .inl (cI, 6, .inl v_a1_windows)), (q_a1_lawParts, .inl (cI, 18, .inl v_a1_lawParts))] H := hP
  have hD : va_D A [(q_t, .inr (2, [.int v_a1_columns, .int v_t_rows, .int v_t_fade, .int v_t_laws, .int v_t_nightHours, .int v_t_nightTimes, .ref q_t_ground, .ref q_t_windows, .ref q_t_lawParts])), (q_t_ground, .inl (cI, 36, .inl v_t_ground)), (q_t_windows, .inl (cI, 6, .inl v_t_windows)), (q_t_lawParts, .inl (cI, 18, .inl v_t_lawParts)), (q_a1, .inr (2, [.int v_a1_columns, .int v_a1_rows, .int v_a1_fade, .int v_a1_laws, .int v_a1_nightHours, .int v_a1_nightTimes, .ref q_a1_ground, .ref q_a1_windows, .ref q_a1_lawParts])), (q_a1_ground, .inl (cI, 36, .inl v_a1_ground)), (q_a1_windows, .inl (cI, 6, .inl v_a1_windows)), (q_a1_lawParts, .inl (cI, 18, .inl v_a1_lawParts))] := hD
  refine lv_aload_n hx hb dX2_copyFrom_8 rfl (lv_at hl 0 rfl) ?_
  refine lv_aload_n hx hb dX2_copyFrom_9 rfl (lv_at hl 1 rfl) ?_
  refine va_get (D := D) (ci := 2) (v := .int v_a1_rows) (C := RX2) (T := TX2) (N := 9) hx hb hts inX2 hown hK hP 4 rfl rfl 1 (by decide) (hts _ w_136) (fun _ h9 => h9) rfl dX2_copyFrom_10 ?_
  refine va_put (D := D) (ci := 2) (v := .int v_a1_rows) (ty := .int) (C := RX2) (T := TX2) (N := 9) hx hb hts inX2 tyX2 tyX2_ok nmX2 hown hK hP hD hS 0 rfl rfl 1 (by decide) (hts _ w_136) (fun _ h9 => h9) rfl (by decide +kernel) rfl rfl (Nat.le_of_ble_eq_true rfl) dX2_copyFrom_13 (fun H locs hP hD hS => ?_)
  have hP : va_P D vwCl [(q_t, .inr (2, [.int v_a1_columns, .int v_a1_rows, .int v_t_fade, .int v_t_laws, .int v_t_nightHours, .int v_t_nightTimes, .ref q_t_ground, .ref q_t_windows, .ref q_t_lawParts])), (q_t_ground, .inl (cI, 36, .inl v_t_ground)), (q_t_windows, .inl (cI, 6, .inl v_t_windows)), (q_t_lawParts, .inl (cI, 18, .inl v_t_lawParts)), (q_a1, .inr (2, [.int v_a1_columns, .int v_a1_rows, .int v_a1_fade, .int v_a1_laws, .int v_a1_nightHours, .int v_a1_nightTimes, .ref q_a1_ground, .ref q_a1_windows, .ref q_a1_lawParts])), (q_a1_ground, .inl (cI, 36, .inl v_a1_ground)), (q_a1_windows, .inl (cI, 6, .inl v_a1_windows)), (q_a1_lawParts, .inl (cI, 18, .inl v_a1_lawParts))] H := hP
  have hD : va_D A [(q_t, .inr (2, [.int v_a1_columns, .int v_a1_rows, .int v_t_fade, .int v_t_laws, .int v_t_nightHours, .int v_t_nightTimes, .ref q_t_ground, .ref q_t_windows, .ref q_t_lawParts])), (q_t_ground, .inl (cI, 36, .inl v_t_ground)), (q_t_windows, .inl (cI, 6, .inl v_t_windows)), (q_t_lawParts, .inl (cI, 18, .inl v_t_lawParts)), (q_a1, .inr (2, [.int v_a1_columns, .int v_a1_rows, .int v_a1_fade, .int v_a1_laws, .int v_a1_nightHours, .int v_a1_nightTimes, .ref q_a1_ground, .ref q_a1_windows, .ref q_a1_lawParts])), (q_a1_ground, .inl (cI, 36, .inl v_a1_ground)), (q_a1_windows, .inl (cI, 6, .inl v_a1_windows)), (q_a1_lawParts, .inl (cI, 18, .inl v_a1_lawParts))] := hD
  refine lv_aload_n hx hb dX2_copyFrom_16 rfl (lv_at hl 0 rfl) ?_
  refine lv_aload_n hx hb dX2_copyFrom_17 rfl (lv_at hl 1 rfl) ?_
  refine va_get (D := D) (ci := 2) (v := .int v_a1_fade) (C := RX2) (T := TX2) (N := 9) hx hb hts inX2 hown hK hP 4 rfl rfl 2 (by decide) (hts _ w_139) (fun _ h9 => h9) rfl dX2_copyFrom_18 ?_
  refine va_put (D := D) (ci := 2) (v := .int v_a1_fade) (ty := .int) (C := RX2) (T := TX2) (N := 9) hx hb hts inX2 tyX2 tyX2_ok nmX2 hown hK hP hD hS 0 rfl rfl 2 (by decide) (hts _ w_139) (fun _ h9 => h9) rfl (by decide +kernel) rfl rfl (Nat.le_of_ble_eq_true rfl) dX2_copyFrom_21 (fun H locs hP hD hS => ?_)
  have hP : va_P D vwCl [(q_t, .inr (2, [.int v_a1_columns, .int v_a1_rows, .int v_a1_fade, .int v_t_laws, .int v_t_nightHours, .int v_t_nightTimes, .ref q_t_ground, .ref q_t_windows, .ref q_t_lawParts])), (q_t_ground, .inl (cI, 36, .inl v_t_ground)), (q_t_windows, .inl (cI, 6, .inl v_t_windows)), (q_t_lawParts, .inl (cI, 18, .inl v_t_lawParts)), (q_a1, .inr (2, [.int v_a1_columns, .int v_a1_rows, .int v_a1_fade, .int v_a1_laws, .int v_a1_nightHours, .int v_a1_nightTimes, .ref q_a1_ground, .ref q_a1_windows, .ref q_a1_lawParts])), (q_a1_ground, .inl (cI, 36, .inl v_a1_ground)), (q_a1_windows, .inl (cI, 6, .inl v_a1_windows)), (q_a1_lawParts, .inl (cI, 18, .inl v_a1_lawParts))] H := hP
  have hD : va_D A [(q_t, .inr (2, [.int v_a1_columns, .int v_a1_rows, .int v_a1_fade, .int v_t_laws, .int v_t_nightHours, .int v_t_nightTimes, .ref q_t_ground, .ref q_t_windows, .ref q_t_lawParts])), (q_t_ground, .inl (cI, 36, .inl v_t_ground)), (q_t_windows, .inl (cI, 6, .inl v_t_windows)), (q_t_lawParts, .inl (cI, 18, .inl v_t_lawParts)), (q_a1, .inr (2, [.int v_a1_columns, .int v_a1_rows, .int v_a1_fade, .int v_a1_laws, .int v_a1_nightHours, .int v_a1_nightTimes, .ref q_a1_ground, .ref q_a1_windows, .ref q_a1_lawParts])), (q_a1_ground, .inl (cI, 36, .inl v_a1_ground)), (q_a1_windows, .inl (cI, 6, .inl v_a1_windows)), (q_a1_lawParts, .inl (cI, 18, .inl v_a1_lawParts))] := hD
  refine lv_aload_n hx hb dX2_copyFrom_24 rfl (lv_at hl 0 rfl) ?_
  refine lv_aload_n hx hb dX2_copyFrom_25 rfl (lv_at hl 1 rfl) ?_
  refine va_get (D := D) (ci := 2) (v := .int v_a1_laws) (C := RX2) (T := TX2) (N := 9) hx hb hts inX2 hown hK hP 4 rfl rfl 3 (by decide) (hts _ w_143) (fun _ h9 => h9) rfl dX2_copyFrom_26 ?_
  refine va_put (D := D) (ci := 2) (v := .int v_a1_laws) (ty := .int) (C := RX2) (T := TX2) (N := 9) hx hb hts inX2 tyX2 tyX2_ok nmX2 hown hK hP hD hS 0 rfl rfl 3 (by decide) (hts _ w_143) (fun _ h9 => h9) rfl (by decide +kernel) rfl rfl (Nat.le_of_ble_eq_true rfl) dX2_copyFrom_29 (fun H locs hP hD hS => ?_)
  have hP : va_P D vwCl [(q_t, .inr (2, [.int v_a1_columns, .int v_a1_rows, .int v_a1_fade, .int v_a1_laws, .int v_t_nightHours, .int v_t_nightTimes, .ref q_t_ground, .ref q_t_windows, .ref q_t_lawParts])), (q_t_ground, .inl (cI, 36, .inl v_t_ground)), (q_t_windows, .inl (cI, 6, .inl v_t_windows)), (q_t_lawParts, .inl (cI, 18, .inl v_t_lawParts)), (q_a1, .inr (2, [.int v_a1_columns, .int v_a1_rows, .int v_a1_fade, .int v_a1_laws, .int v_a1_nightHours, .int v_a1_nightTimes, .ref q_a1_ground, .ref q_a1_windows, .ref q_a1_lawParts])), (q_a1_ground, .inl (cI, 36, .inl v_a1_ground)), (q_a1_windows, .inl (cI, 6, .inl v_a1_windows)), (q_a1_lawParts, .inl (cI, 18, .inl v_a1_lawParts))] H := hP
  have hD : va_D A [(q_t, .inr (2, [.int v_a1_columns, .int v_a1_rows, .int v_a1_fade, .int v_a1_laws, .int v_t_nightHours, .int v_t_nightTimes, .ref q_t_ground, .ref q_t_windows, .ref q_t_lawParts])), (q_t_ground, .inl (cI, 36, .inl v_t_ground)), (q_t_windows, .inl (cI, 6, .inl v_t_windows)), (q_t_lawParts, .inl (cI, 18, .inl v_t_lawParts)), (q_a1, .inr (2, [.int v_a1_columns, .int v_a1_rows, .int v_a1_fade, .int v_a1_laws, .int v_a1_nightHours, .int v_a1_nightTimes, .ref q_a1_ground, .ref q_a1_windows, .ref q_a1_lawParts])), (q_a1_ground, .inl (cI, 36, .inl v_a1_ground)), (q_a1_windows, .inl (cI, 6, .inl v_a1_windows)), (q_a1_lawParts, .inl (cI, 18, .inl v_a1_lawParts))] := hD
  refine lv_aload_n hx hb dX2_copyFrom_32 rfl (lv_at hl 0 rfl) ?_
  refine lv_aload_n hx hb dX2_copyFrom_33 rfl (lv_at hl 1 rfl) ?_
  refine va_get (D := D) (ci := 2) (v := .int v_a1_nightHours) (C := RX2) (T := TX2) (N := 9) hx hb hts inX2 hown hK hP 4 rfl rfl 4 (by decide) (hts _ w_146) (fun _ h9 => h9) rfl dX2_copyFrom_34 ?_
  refine va_put (D := D) (ci := 2) (v := .int v_a1_nightHours) (ty := .int) (C := RX2) (T := TX2) (N := 9) hx hb hts inX2 tyX2 tyX2_ok nmX2 hown hK hP hD hS 0 rfl rfl 4 (by decide) (hts _ w_146) (fun _ h9 => h9) rfl (by decide +kernel) rfl rfl (Nat.le_of_ble_eq_true rfl) dX2_copyFrom_37 (fun H locs hP hD hS => ?_)
  have hP : va_P D vwCl [(q_t, .inr (2, [.int v_a1_columns, .int v_a1_rows, .int v_a1_fade, .int v_a1_laws, .int v_a1_nightHours, .int v_t_nightTimes, .ref q_t_ground, .ref q_t_windows, .ref q_t_lawParts])), (q_t_ground, .inl (cI, 36, .inl v_t_ground)), (q_t_windows, .inl (cI, 6, .inl v_t_windows)), (q_t_lawParts, .inl (cI, 18, .inl v_t_lawParts)), (q_a1, .inr (2, [.int v_a1_columns, .int v_a1_rows, .int v_a1_fade, .int v_a1_laws, .int v_a1_nightHours, .int v_a1_nightTimes, .ref q_a1_ground, .ref q_a1_windows, .ref q_a1_lawParts])), (q_a1_ground, .inl (cI, 36, .inl v_a1_ground)), (q_a1_windows, .inl (cI, 6, .inl v_a1_windows)), (q_a1_lawParts, .inl (cI, 18, .inl v_a1_lawParts))] H := hP
  have hD : va_D A [(q_t, .inr (2, [.int v_a1_columns, .int v_a1_rows, .int v_a1_fade, .int v_a1_laws, .int v_a1_nightHours, .int v_t_nightTimes, .ref q_t_ground, .ref q_t_windows, .ref q_t_lawParts])), (q_t_ground, .inl (cI, 36, .inl v_t_ground)), (q_t_windows, .inl (cI, 6, .inl v_t_windows)), (q_t_lawParts, .inl (cI, 18, .inl v_t_lawParts)), (q_a1, .inr (2, [.int v_a1_columns, .int v_a1_rows, .int v_a1_fade, .int v_a1_laws, .int v_a1_nightHours, .int v_a1_nightTimes, .ref q_a1_ground, .ref q_a1_windows, .ref q_a1_lawParts])), (q_a1_ground, .inl (cI, 36, .inl v_a1_ground)), (q_a1_windows, .inl (cI, 6, .inl v_a1_windows)), (q_a1_lawParts, .inl (cI, 18, .inl v_a1_lawParts))] := hD
  refine lv_aload_n hx hb dX2_copyFrom_40 rfl (lv_at hl 0 rfl) ?_
  refine lv_aload_n hx hb dX2_copyFrom_41 rfl (lv_at hl 1 rfl) ?_
  refine va_get (D := D) (ci := 2) (v := .int v_a1_nightTimes) (C := RX2) (T := TX2) (N := 9) hx hb hts inX2 hown hK hP 4 rfl rfl 5 (by decide) (hts _ w_148) (fun _ h9 => h9) rfl dX2_copyFrom_42 ?_
  refine va_put (D := D) (ci := 2) (v := .int v_a1_nightTimes) (ty := .int) (C := RX2) (T := TX2) (N := 9) hx hb hts inX2 tyX2 tyX2_ok nmX2 hown hK hP hD hS 0 rfl rfl 5 (by decide) (hts _ w_148) (fun _ h9 => h9) rfl (by decide +kernel) rfl rfl (Nat.le_of_ble_eq_true rfl) dX2_copyFrom_45 (fun H locs hP hD hS => ?_)
  have hP : va_P D vwCl [(q_t, .inr (2, [.int v_a1_columns, .int v_a1_rows, .int v_a1_fade, .int v_a1_laws, .int v_a1_nightHours, .int v_a1_nightTimes, .ref q_t_ground, .ref q_t_windows, .ref q_t_lawParts])), (q_t_ground, .inl (cI, 36, .inl v_t_ground)), (q_t_windows, .inl (cI, 6, .inl v_t_windows)), (q_t_lawParts, .inl (cI, 18, .inl v_t_lawParts)), (q_a1, .inr (2, [.int v_a1_columns, .int v_a1_rows, .int v_a1_fade, .int v_a1_laws, .int v_a1_nightHours, .int v_a1_nightTimes, .ref q_a1_ground, .ref q_a1_windows, .ref q_a1_lawParts])), (q_a1_ground, .inl (cI, 36, .inl v_a1_ground)), (q_a1_windows, .inl (cI, 6, .inl v_a1_windows)), (q_a1_lawParts, .inl (cI, 18, .inl v_a1_lawParts))] H := hP
  have hD : va_D A [(q_t, .inr (2, [.int v_a1_columns, .int v_a1_rows, .int v_a1_fade, .int v_a1_laws, .int v_a1_nightHours, .int v_a1_nightTimes, .ref q_t_ground, .ref q_t_windows, .ref q_t_lawParts])), (q_t_ground, .inl (cI, 36, .inl v_t_ground)), (q_t_windows, .inl (cI, 6, .inl v_t_windows)), (q_t_lawParts, .inl (cI, 18, .inl v_t_lawParts)), (q_a1, .inr (2, [.int v_a1_columns, .int v_a1_rows, .int v_a1_fade, .int v_a1_laws, .int v_a1_nightHours, .int v_a1_nightTimes, .ref q_a1_ground, .ref q_a1_windows, .ref q_a1_lawParts])), (q_a1_ground, .inl (cI, 36, .inl v_a1_ground)), (q_a1_windows, .inl (cI, 6, .inl v_a1_windows)), (q_a1_lawParts, .inl (cI, 18, .inl v_a1_lawParts))] := hD
  refine lv_iconst (v := 0) hx hb dX2_copyFrom_48 (by decide) ?_
  refine lv_istore_n (lv' := [(2, .int 0), (0, .ref q_t), (1, .ref q_a1)]) hx hb dX2_copyFrom_49 rfl hl (by decide) rfl (fun ls hl => ?_)
  have L50_3 : ∀ (n : Nat) (x2_1 : Int32) (v_t_ground_2 : Nat → Int32), f_X2_copyFrom_L50 v_a1_columns v_a1_rows v_a1_fade v_a1_laws v_a1_nightHours v_a1_nightTimes v_t_windows v_t_lawParts v_a1_ground v_a1_windows v_a1_lawParts n x2_1 v_t_ground_2 = some z → ∀ (H : Heap) (locs : List Loc) (ls : Array Slot), va_P D vwCl [(q_t, .inr (2, [.int v_a1_columns, .int v_a1_rows, .int v_a1_fade, .int v_a1_laws, .int v_a1_nightHours, .int v_a1_nightTimes, .ref q_t_ground, .ref q_t_windows, .ref q_t_lawParts])), (q_t_ground, .inl (cI, 36, .inl v_t_ground_2)), (q_t_windows, .inl (cI, 6, .inl v_t_windows)), (q_t_lawParts, .inl (cI, 18, .inl v_t_lawParts)), (q_a1, .inr (2, [.int v_a1_columns, .int v_a1_rows, .int v_a1_fade, .int v_a1_laws, .int v_a1_nightHours, .int v_a1_nightTimes, .ref q_a1_ground, .ref q_a1_windows, .ref q_a1_lawParts])), (q_a1_ground, .inl (cI, 36, .inl v_a1_ground)), (q_a1_windows, .inl (cI, 6, .inl v_a1_windows)), (q_a1_lawParts, .inl (cI, 18, .inl v_a1_lawParts))] H → va_D A [(q_t, .inr (2, [.int v_a1_columns, .int v_a1_rows, .int v_a1_fade, .int v_a1_laws, .int v_a1_nightHours, .int v_a1_nightTimes, .ref q_t_ground, .ref q_t_windows, .ref q_t_lawParts])), (q_t_ground, .inl (cI, 36, .inl v_t_ground_2)), (q_t_windows, .inl (cI, 6, .inl v_t_windows)), (q_t_lawParts, .inl (cI, 18, .inl v_t_lawParts)), (q_a1, .inr (2, [.int v_a1_columns, .int v_a1_rows, .int v_a1_fade, .int v_a1_laws, .int v_a1_nightHours, .int v_a1_nightTimes, .ref q_a1_ground, .ref q_a1_windows, .ref q_a1_lawParts])), (q_a1_ground, .inl (cI, 36, .inl v_a1_ground)), (q_a1_windows, .inl (cI, 6, .inl v_a1_windows)), (q_a1_lawParts, .inl (cI, 18, .inl v_a1_lawParts))] → va_S A s.heap H locs → lv_has ls 3 [(0, .ref q_t), (1, .ref q_a1), (2, .int x2_1)] → W p l e ({ frames := 0, cells := 0, slots := 0, locals := 0 } : Room) s m ([.ref q_t, .ref q_a1] : List Value).toArray below meth c H locs 0 0 (MQ below (QV D cI cJ cZ [(q_t, .inr (2, [.int z.1, .int z.2.1, .int z.2.2.1, .int z.2.2.2.1, .int z.2.2.2.2.1, .int z.2.2.2.2.2.1, .ref q_t_ground, .ref q_t_windows, .ref q_t_lawParts])), (q_t_ground, .inl (cI, 36, .inl z.2.2.2.2.2.2.1)), (q_t_windows, .inl (cI, 6, .inl z.2.2.2.2.2.2.2.1)), (q_t_lawParts, .inl (cI, 18, .inl z.2.2.2.2.2.2.2.2)), (q_a1, .inr (2, [.int v_a1_columns, .int v_a1_rows, .int v_a1_fade, .int v_a1_laws, .int v_a1_nightHours, .int v_a1_nightTimes, .ref q_a1_ground, .ref q_a1_windows, .ref q_a1_lawParts])), (q_a1_ground, .inl (cI, 36, .inl v_a1_ground)), (q_a1_windows, .inl (cI, 6, .inl v_a1_windows)), (q_a1_lawParts, .inl (cI, 18, .inl v_a1_lawParts))] A) ([.ref q_t, .ref q_a1] : List Value).toArray s 0 0 A) (F0 m 50 ls []) := by
    intro n
    induction n with
    | zero =>
      intro x2_1 v_t_ground_2 hf
      cases hf
    | succ n ih_4 =>
      intro x2_1 v_t_ground_2 hf H locs ls hP hD hS hl
      rw [f_X2_copyFrom_L50] at hf
      refine lv_iload_n hx hb dX2_copyFrom_50 rfl (lv_at hl 2 rfl) ?_
      refine lv_bipush (v := 36) hx hb dX2_copyFrom_51 (by decide) ?_
      refine lv_icmp_ge (tgt := 74) hx hb dX2_copyFrom_53 (by decide) (fun h_5 => ?_) (fun h_5 => ?_)
      · have hf := (if_pos h_5).symm.trans hf
        unfold f_X2_copyFrom_J74 at hf
        refine lv_iconst (v := 0) hx hb dX2_copyFrom_74 (by decide) ?_
        refine lv_istore_n (lv' := [(2, .int 0), (0, .ref q_t), (1, .ref q_a1)]) hx hb dX2_copyFrom_75 rfl hl (by decide) rfl (fun ls hl => ?_)
        have L76_8 : ∀ (n : Nat) (x2_6 : Int32) (v_t_windows_7 : Nat → Int32), f_X2_copyFrom_L76 v_a1_columns v_a1_rows v_a1_fade v_a1_laws v_a1_nightHours v_a1_nightTimes v_t_ground_2 v_t_lawParts v_a1_windows v_a1_lawParts n x2_6 v_t_windows_7 = some z → ∀ (H : Heap) (locs : List Loc) (ls : Array Slot), va_P D vwCl [(q_t, .inr (2, [.int v_a1_columns, .int v_a1_rows, .int v_a1_fade, .int v_a1_laws, .int v_a1_nightHours, .int v_a1_nightTimes, .ref q_t_ground, .ref q_t_windows, .ref q_t_lawParts])), (q_t_ground, .inl (cI, 36, .inl v_t_ground_2)), (q_t_windows, .inl (cI, 6, .inl v_t_windows_7)), (q_t_lawParts, .inl (cI, 18, .inl v_t_lawParts)), (q_a1, .inr (2, [.int v_a1_columns, .int v_a1_rows, .int v_a1_fade, .int v_a1_laws, .int v_a1_nightHours, .int v_a1_nightTimes, .ref q_a1_ground, .ref q_a1_windows, .ref q_a1_lawParts])), (q_a1_ground, .inl (cI, 36, .inl v_a1_ground)), (q_a1_windows, .inl (cI, 6, .inl v_a1_windows)), (q_a1_lawParts, .inl (cI, 18, .inl v_a1_lawParts))] H → va_D A [(q_t, .inr (2, [.int v_a1_columns, .int v_a1_rows, .int v_a1_fade, .int v_a1_laws, .int v_a1_nightHours, .int v_a1_nightTimes, .ref q_t_ground, .ref q_t_windows, .ref q_t_lawParts])), (q_t_ground, .inl (cI, 36, .inl v_t_ground_2)), (q_t_windows, .inl (cI, 6, .inl v_t_windows_7)), (q_t_lawParts, .inl (cI, 18, .inl v_t_lawParts)), (q_a1, .inr (2, [.int v_a1_columns, .int v_a1_rows, .int v_a1_fade, .int v_a1_laws, .int v_a1_nightHours, .int v_a1_nightTimes, .ref q_a1_ground, .ref q_a1_windows, .ref q_a1_lawParts])), (q_a1_ground, .inl (cI, 36, .inl v_a1_ground)), (q_a1_windows, .inl (cI, 6, .inl v_a1_windows)), (q_a1_lawParts, .inl (cI, 18, .inl v_a1_lawParts))] → va_S A s.heap H locs → lv_has ls 3 [(0, .ref q_t), (1, .ref q_a1), (2, .int x2_6)] → W p l e ({ frames := 0, cells := 0, slots := 0, locals := 0 } : Room) s m ([.ref q_t, .ref q_a1] : List Value).toArray below meth c H locs 0 0 (MQ below (QV D cI cJ cZ [(q_t, .inr (2, [.int z.1, .int z.2.1, .int z.2.2.1, .int z.2.2.2.1, .int z.2.2.2.2.1, .int z.2.2.2.2.2.1, .ref q_t_ground, .ref q_t_windows, .ref q_t_lawParts])), (q_t_ground, .inl (cI, 36, .inl z.2.2.2.2.2.2.1)), (q_t_windows, .inl (cI, 6, .inl z.2.2.2.2.2.2.2.1)), (q_t_lawParts, .inl (cI, 18, .inl z.2.2.2.2.2.2.2.2)), (q_a1, .inr (2, [.int v_a1_columns, .int v_a1_rows, .int v_a1_fade, .int v_a1_laws, .int v_a1_nightHours, .int v_a1_nightTimes, .ref q_a1_ground, .ref q_a1_windows, .ref q_a1_lawParts])), (q_a1_ground, .inl (cI, 36, .inl v_a1_ground)), (q_a1_windows, .inl (cI, 6, .inl v_a1_windows)), (q_a1_lawParts, .inl (cI, 18, .inl v_a1_lawParts))] A) ([.ref q_t, .ref q_a1] : List Value).toArray s 0 0 A) (F0 m 76 ls []) := by
          intro n
          induction n with
          | zero =>
            intro x2_6 v_t_windows_7 hf
            cases hf
          | succ n ih_9 =>
            intro x2_6 v_t_windows_7 hf H locs ls hP hD hS hl
            rw [f_X2_copyFrom_L76] at hf
            refine lv_iload_n hx hb dX2_copyFrom_76 rfl (lv_at hl 2 rfl) ?_
            refine lv_bipush (v := 6) hx hb dX2_copyFrom_77 (by decide) ?_
            refine lv_icmp_ge (tgt := 100) hx hb dX2_copyFrom_79 (by decide) (fun h_10 => ?_) (fun h_10 => ?_)
            · have hf := (if_pos h_10).symm.trans hf
              unfold f_X2_copyFrom_J100 at hf
              refine lv_iconst (v := 0) hx hb dX2_copyFrom_100 (by decide) ?_
              refine lv_istore_n (lv' := [(2, .int 0), (0, .ref q_t), (1, .ref q_a1)]) hx hb dX2_copyFrom_101 rfl hl (by decide) rfl (fun ls hl => ?_)
              have L102_13 : ∀ (n : Nat) (x2_11 : Int32) (v_t_lawParts_12 : Nat → Int32), f_X2_copyFrom_L102 v_a1_columns v_a1_rows v_a1_fade v_a1_laws v_a1_nightHours v_a1_nightTimes v_t_ground_2 v_t_windows_7 v_a1_lawParts n x2_11 v_t_lawParts_12 = some z → ∀ (H : Heap) (locs : List Loc) (ls : Array Slot), va_P D vwCl [(q_t, .inr (2, [.int v_a1_columns, .int v_a1_rows, .int v_a1_fade, .int v_a1_laws, .int v_a1_nightHours, .int v_a1_nightTimes, .ref q_t_ground, .ref q_t_windows, .ref q_t_lawParts])), (q_t_ground, .inl (cI, 36, .inl v_t_ground_2)), (q_t_windows, .inl (cI, 6, .inl v_t_windows_7)), (q_t_lawParts, .inl (cI, 18, .inl v_t_lawParts_12)), (q_a1, .inr (2, [.int v_a1_columns, .int v_a1_rows, .int v_a1_fade, .int v_a1_laws, .int v_a1_nightHours, .int v_a1_nightTimes, .ref q_a1_ground, .ref q_a1_windows, .ref q_a1_lawParts])), (q_a1_ground, .inl (cI, 36, .inl v_a1_ground)), (q_a1_windows, .inl (cI, 6, .inl v_a1_windows)), (q_a1_lawParts, .inl (cI, 18, .inl v_a1_lawParts))] H → va_D A [(q_t, .inr (2, [.int v_a1_columns, .int v_a1_rows, .int v_a1_fade, .int v_a1_laws, .int v_a1_nightHours, .int v_a1_nightTimes, .ref q_t_ground, .ref q_t_windows, .ref q_t_lawParts])), (q_t_ground, .inl (cI, 36, .inl v_t_ground_2)), (q_t_windows, .inl (cI, 6, .inl v_t_windows_7)), (q_t_lawParts, .inl (cI, 18, .inl v_t_lawParts_12)), (q_a1, .inr (2, [.int v_a1_columns, .int v_a1_rows, .int v_a1_fade, .int v_a1_laws, .int v_a1_nightHours, .int v_a1_nightTimes, .ref q_a1_ground, .ref q_a1_windows, .ref q_a1_lawParts])), (q_a1_ground, .inl (cI, 36, .inl v_a1_ground)), (q_a1_windows, .inl (cI, 6, .inl v_a1_windows)), (q_a1_lawParts, .inl (cI, 18, .inl v_a1_lawParts))] → va_S A s.heap H locs → lv_has ls 3 [(0, .ref q_t), (1, .ref q_a1), (2, .int x2_11)] → W p l e ({ frames := 0, cells := 0, slots := 0, locals := 0 } : Room) s m ([.ref q_t, .ref q_a1] : List Value).toArray below meth c H locs 0 0 (MQ below (QV D cI cJ cZ [(q_t, .inr (2, [.int z.1, .int z.2.1, .int z.2.2.1, .int z.2.2.2.1, .int z.2.2.2.2.1, .int z.2.2.2.2.2.1, .ref q_t_ground, .ref q_t_windows, .ref q_t_lawParts])), (q_t_ground, .inl (cI, 36, .inl z.2.2.2.2.2.2.1)), (q_t_windows, .inl (cI, 6, .inl z.2.2.2.2.2.2.2.1)), (q_t_lawParts, .inl (cI, 18, .inl z.2.2.2.2.2.2.2.2)), (q_a1, .inr (2, [.int v_a1_columns, .int v_a1_rows, .int v_a1_fade, .int v_a1_laws, .int v_a1_nightHours, .int v_a1_nightTimes, .ref q_a1_ground, .ref q_a1_windows, .ref q_a1_lawParts])), (q_a1_ground, .inl (cI, 36, .inl v_a1_ground)), (q_a1_windows, .inl (cI, 6, .inl v_a1_windows)), (q_a1_lawParts, .inl (cI, 18, .inl v_a1_lawParts))] A) ([.ref q_t, .ref q_a1] : List Value).toArray s 0 0 A) (F0 m 102 ls []) := by
                intro n
                induction n with
                | zero =>
                  intro x2_11 v_t_lawParts_12 hf
                  cases hf
                | succ n ih_14 =>
                  intro x2_11 v_t_lawParts_12 hf H locs ls hP hD hS hl
                  rw [f_X2_copyFrom_L102] at hf
                  refine lv_iload_n hx hb dX2_copyFrom_102 rfl (lv_at hl 2 rfl) ?_
                  refine lv_bipush (v := 18) hx hb dX2_copyFrom_103 (by decide) ?_
                  refine lv_icmp_ge (tgt := 126) hx hb dX2_copyFrom_105 (by decide) (fun h_15 => ?_) (fun h_15 => ?_)
                  · have hf := (if_pos h_15).symm.trans hf
                    cases hf
                    exact rt_v hx hb hr hlocks hK hP hS dX2_copyFrom_126
                  · have hf := (if_neg h_15).symm.trans hf
                    refine lv_aload_n hx hb dX2_copyFrom_108 rfl (lv_at hl 0 rfl) ?_
                    refine va_get (D := D) (ci := 2) (v := .ref q_t_lawParts) (C := RX2) (T := TX2) (N := 9) hx hb hts inX2 hown hK hP 0 rfl rfl 8 (by decide) (hts _ w_152) (fun _ h9 => h9) rfl dX2_copyFrom_109 ?_
                    refine lv_iload_n hx hb dX2_copyFrom_112 rfl (lv_at hl 2 rfl) ?_
                    refine lv_aload_n hx hb dX2_copyFrom_113 rfl (lv_at hl 1 rfl) ?_
                    refine va_get (D := D) (ci := 2) (v := .ref q_a1_lawParts) (C := RX2) (T := TX2) (N := 9) hx hb hts inX2 hown hK hP 4 rfl rfl 8 (by decide) (hts _ w_152) (fun _ h9 => h9) rfl dX2_copyFrom_114 ?_
                    refine lv_iload_n hx hb dX2_copyFrom_117 rfl (lv_at hl 2 rfl) ?_
                    obtain ⟨hin, hf⟩ := gd_some hf
                    refine va_iald hx hb hK hP 7 0 rfl rfl hin dX2_copyFrom_118 ?_
                    obtain ⟨hin, hf⟩ := gd_some hf
                    refine va_iast hx hb hK hP hD hS 3 0 rfl rfl hin dX2_copyFrom_119 (fun H locs hP hD hS => ?_)
                    have hP : va_P D vwCl [(q_t, .inr (2, [.int v_a1_columns, .int v_a1_rows, .int v_a1_fade, .int v_a1_laws, .int v_a1_nightHours, .int v_a1_nightTimes, .ref q_t_ground, .ref q_t_windows, .ref q_t_lawParts])), (q_t_ground, .inl (cI, 36, .inl v_t_ground_2)), (q_t_windows, .inl (cI, 6, .inl v_t_windows_7)), (q_t_lawParts, .inl (cI, 18, .inl (upd v_t_lawParts_12 (Int32.toNatClampNeg x2_11) (v_a1_lawParts (Int32.toNatClampNeg x2_11))))), (q_a1, .inr (2, [.int v_a1_columns, .int v_a1_rows, .int v_a1_fade, .int v_a1_laws, .int v_a1_nightHours, .int v_a1_nightTimes, .ref q_a1_ground, .ref q_a1_windows, .ref q_a1_lawParts])), (q_a1_ground, .inl (cI, 36, .inl v_a1_ground)), (q_a1_windows, .inl (cI, 6, .inl v_a1_windows)), (q_a1_lawParts, .inl (cI, 18, .inl v_a1_lawParts))] H := hP
                    have hD : va_D A [(q_t, .inr (2, [.int v_a1_columns, .int v_a1_rows, .int v_a1_fade, .int v_a1_laws, .int v_a1_nightHours, .int v_a1_nightTimes, .ref q_t_ground, .ref q_t_windows, .ref q_t_lawParts])), (q_t_ground, .inl (cI, 36, .inl v_t_ground_2)), (q_t_windows, .inl (cI, 6, .inl v_t_windows_7)), (q_t_lawParts, .inl (cI, 18, .inl (upd v_t_lawParts_12 (Int32.toNatClampNeg x2_11) (v_a1_lawParts (Int32.toNatClampNeg x2_11))))), (q_a1, .inr (2, [.int v_a1_columns, .int v_a1_rows, .int v_a1_fade, .int v_a1_laws, .int v_a1_nightHours, .int v_a1_nightTimes, .ref q_a1_ground, .ref q_a1_windows, .ref q_a1_lawParts])), (q_a1_ground, .inl (cI, 36, .inl v_a1_ground)), (q_a1_windows, .inl (cI, 6, .inl v_a1_windows)), (q_a1_lawParts, .inl (cI, 18, .inl v_a1_lawParts))] := hD
                    refine lv_iinc (v := (x2_11 + 1)) (lv' := [(2, .int (x2_11 + 1)), (0, .ref q_t), (1, .ref q_a1)]) hx hb dX2_copyFrom_120 hl (k := 2) rfl rfl (by decide) rfl (fun ls hl => ?_)
                    refine lv_goto (tgt := 102) hx hb dX2_copyFrom_123 (by decide) ?_
                    exact ih_14 (x2_11 + 1) (upd v_t_lawParts_12 (Int32.toNatClampNeg x2_11) (v_a1_lawParts (Int32.toNatClampNeg x2_11))) hf _ _ _ hP hD hS (lv_sub hl [1, 2, 0] rfl)
              exact L102_13 FU 0 v_t_lawParts hf _ _ _ hP hD hS (lv_sub hl [1, 2, 0] rfl)
            · have hf := (if_neg h_10).symm.trans hf
              refine lv_aload_n hx hb dX2_copyFrom_82 rfl (lv_at hl 0 rfl) ?_
              refine va_get (D := D) (ci := 2) (v := .ref q_t_windows) (C := RX2) (T := TX2) (N := 9) hx hb hts inX2 hown hK hP 0 rfl rfl 7 (by decide) (hts _ w_151) (fun _ h9 => h9) rfl dX2_copyFrom_83 ?_
              refine lv_iload_n hx hb dX2_copyFrom_86 rfl (lv_at hl 2 rfl) ?_
              refine lv_aload_n hx hb dX2_copyFrom_87 rfl (lv_at hl 1 rfl) ?_
              refine va_get (D := D) (ci := 2) (v := .ref q_a1_windows) (C := RX2) (T := TX2) (N := 9) hx hb hts inX2 hown hK hP 4 rfl rfl 7 (by decide) (hts _ w_151) (fun _ h9 => h9) rfl dX2_copyFrom_88 ?_
              refine lv_iload_n hx hb dX2_copyFrom_91 rfl (lv_at hl 2 rfl) ?_
              obtain ⟨hin, hf⟩ := gd_some hf
              refine va_iald hx hb hK hP 6 0 rfl rfl hin dX2_copyFrom_92 ?_
              obtain ⟨hin, hf⟩ := gd_some hf
              refine va_iast hx hb hK hP hD hS 2 0 rfl rfl hin dX2_copyFrom_93 (fun H locs hP hD hS => ?_)
              have hP : va_P D vwCl [(q_t, .inr (2, [.int v_a1_columns, .int v_a1_rows, .int v_a1_fade, .int v_a1_laws, .int v_a1_nightHours, .int v_a1_nightTimes, .ref q_t_ground, .ref q_t_windows, .ref q_t_lawParts])), (q_t_ground, .inl (cI, 36, .inl v_t_ground_2)), (q_t_windows, .inl (cI, 6, .inl (upd v_t_windows_7 (Int32.toNatClampNeg x2_6) (v_a1_windows (Int32.toNatClampNeg x2_6))))), (q_t_lawParts, .inl (cI, 18, .inl v_t_lawParts)), (q_a1, .inr (2, [.int v_a1_columns, .int v_a1_rows, .int v_a1_fade, .int v_a1_laws, .int v_a1_nightHours, .int v_a1_nightTimes, .ref q_a1_ground, .ref q_a1_windows, .ref q_a1_lawParts])), (q_a1_ground, .inl (cI, 36, .inl v_a1_ground)), (q_a1_windows, .inl (cI, 6, .inl v_a1_windows)), (q_a1_lawParts, .inl (cI, 18, .inl v_a1_lawParts))] H := hP
              have hD : va_D A [(q_t, .inr (2, [.int v_a1_columns, .int v_a1_rows, .int v_a1_fade, .int v_a1_laws, .int v_a1_nightHours, .int v_a1_nightTimes, .ref q_t_ground, .ref q_t_windows, .ref q_t_lawParts])), (q_t_ground, .inl (cI, 36, .inl v_t_ground_2)), (q_t_windows, .inl (cI, 6, .inl (upd v_t_windows_7 (Int32.toNatClampNeg x2_6) (v_a1_windows (Int32.toNatClampNeg x2_6))))), (q_t_lawParts, .inl (cI, 18, .inl v_t_lawParts)), (q_a1, .inr (2, [.int v_a1_columns, .int v_a1_rows, .int v_a1_fade, .int v_a1_laws, .int v_a1_nightHours, .int v_a1_nightTimes, .ref q_a1_ground, .ref q_a1_windows, .ref q_a1_lawParts])), (q_a1_ground, .inl (cI, 36, .inl v_a1_ground)), (q_a1_windows, .inl (cI, 6, .inl v_a1_windows)), (q_a1_lawParts, .inl (cI, 18, .inl v_a1_lawParts))] := hD
              refine lv_iinc (v := (x2_6 + 1)) (lv' := [(2, .int (x2_6 + 1)), (0, .ref q_t), (1, .ref q_a1)]) hx hb dX2_copyFrom_94 hl (k := 2) rfl rfl (by decide) rfl (fun ls hl => ?_)
              refine lv_goto (tgt := 76) hx hb dX2_copyFrom_97 (by decide) ?_
              exact ih_9 (x2_6 + 1) (upd v_t_windows_7 (Int32.toNatClampNeg x2_6) (v_a1_windows (Int32.toNatClampNeg x2_6))) hf _ _ _ hP hD hS (lv_sub hl [1, 2, 0] rfl)
        exact L76_8 FU 0 v_t_windows hf _ _ _ hP hD hS (lv_sub hl [1, 2, 0] rfl)
      · have hf := (if_neg h_5).symm.trans hf
        refine lv_aload_n hx hb dX2_copyFrom_56 rfl (lv_at hl 0 rfl) ?_
        refine va_get (D := D) (ci := 2) (v := .ref q_t_ground) (C := RX2) (T := TX2) (N := 9) hx hb hts inX2 hown hK hP 0 rfl rfl 6 (by decide) (hts _ w_150) (fun _ h9 => h9) rfl dX2_copyFrom_57 ?_
        refine lv_iload_n hx hb dX2_copyFrom_60 rfl (lv_at hl 2 rfl) ?_
        refine lv_aload_n hx hb dX2_copyFrom_61 rfl (lv_at hl 1 rfl) ?_
        refine va_get (D := D) (ci := 2) (v := .ref q_a1_ground) (C := RX2) (T := TX2) (N := 9) hx hb hts inX2 hown hK hP 4 rfl rfl 6 (by decide) (hts _ w_150) (fun _ h9 => h9) rfl dX2_copyFrom_62 ?_
        refine lv_iload_n hx hb dX2_copyFrom_65 rfl (lv_at hl 2 rfl) ?_
        obtain ⟨hin, hf⟩ := gd_some hf
        refine va_iald hx hb hK hP 5 0 rfl rfl hin dX2_copyFrom_66 ?_
        obtain ⟨hin, hf⟩ := gd_some hf
        refine va_iast hx hb hK hP hD hS 1 0 rfl rfl hin dX2_copyFrom_67 (fun H locs hP hD hS => ?_)
        have hP : va_P D vwCl [(q_t, .inr (2, [.int v_a1_columns, .int v_a1_rows, .int v_a1_fade, .int v_a1_laws, .int v_a1_nightHours, .int v_a1_nightTimes, .ref q_t_ground, .ref q_t_windows, .ref q_t_lawParts])), (q_t_ground, .inl (cI, 36, .inl (upd v_t_ground_2 (Int32.toNatClampNeg x2_1) (v_a1_ground (Int32.toNatClampNeg x2_1))))), (q_t_windows, .inl (cI, 6, .inl v_t_windows)), (q_t_lawParts, .inl (cI, 18, .inl v_t_lawParts)), (q_a1, .inr (2, [.int v_a1_columns, .int v_a1_rows, .int v_a1_fade, .int v_a1_laws, .int v_a1_nightHours, .int v_a1_nightTimes, .ref q_a1_ground, .ref q_a1_windows, .ref q_a1_lawParts])), (q_a1_ground, .inl (cI, 36, .inl v_a1_ground)), (q_a1_windows, .inl (cI, 6, .inl v_a1_windows)), (q_a1_lawParts, .inl (cI, 18, .inl v_a1_lawParts))] H := hP
        have hD : va_D A [(q_t, .inr (2, [.int v_a1_columns, .int v_a1_rows, .int v_a1_fade, .int v_a1_laws, .int v_a1_nightHours, .int v_a1_nightTimes, .ref q_t_ground, .ref q_t_windows, .ref q_t_lawParts])), (q_t_ground, .inl (cI, 36, .inl (upd v_t_ground_2 (Int32.toNatClampNeg x2_1) (v_a1_ground (Int32.toNatClampNeg x2_1))))), (q_t_windows, .inl (cI, 6, .inl v_t_windows)), (q_t_lawParts, .inl (cI, 18, .inl v_t_lawParts)), (q_a1, .inr (2, [.int v_a1_columns, .int v_a1_rows, .int v_a1_fade, .int v_a1_laws, .int v_a1_nightHours, .int v_a1_nightTimes, .ref q_a1_ground, .ref q_a1_windows, .ref q_a1_lawParts])), (q_a1_ground, .inl (cI, 36, .inl v_a1_ground)), (q_a1_windows, .inl (cI, 6, .inl v_a1_windows)), (q_a1_lawParts, .inl (cI, 18, .inl v_a1_lawParts))] := hD
        refine lv_iinc (v := (x2_1 + 1)) (lv' := [(2, .int (x2_1 + 1)), (0, .ref q_t), (1, .ref q_a1)]) hx hb dX2_copyFrom_68 hl (k := 2) rfl rfl (by decide) rfl (fun ls hl => ?_)
        refine lv_goto (tgt := 50) hx hb dX2_copyFrom_71 (by decide) ?_
        exact ih_4 (x2_1 + 1) (upd v_t_ground_2 (Int32.toNatClampNeg x2_1) (v_a1_ground (Int32.toNatClampNeg x2_1))) hf _ _ _ hP hD hS (lv_sub hl [1, 2, 0] rfl)
  exact L50_3 FU 0 v_t_ground hf _ _ _ hP hD hS (lv_sub hl [1, 2, 0] rfl)

def f_X2_cells (v_t_columns : Int32) (v_t_rows : Int32) : Option (Int32) :=
  (some (v_t_columns * v_t_rows))
theorem gv_X2_cells {own : String} {idx : Nat} (h : Cond.methodLink own idx yX2_cells ∈ lw_g) : GoodIn lw_g (wsV own idx RX2 yX2_cells (Cond.code yX2_cells cX2_cells 1 (some .int) :: lw_g)) := gV h w_749 w_750 w_60 w_751
theorem hd_X2_cells : yX2_cells.cls = RX2 ∧ yX2_cells.cls ≠ "java/lang/invoke/MethodHandle" ∧ yX2_cells.cls ≠ "java/lang/invoke/VarHandle" ∧ (parseMethodDescriptor yX2_cells.desc).map (fun d => d.parameters.length) = some 0 := by decide +kernel
set_option maxHeartbeats 4000000 in
set_option maxRecDepth 100000 in
theorem c_X2_cells (l : Launch) (D : va_G) (cI cJ cZ : ClassId) (en : EnT) (q_t q_t_ground q_t_windows q_t_lawParts : Nat) (sz : Nat) (v_t_columns : Int32) (v_t_rows : Int32) (v_t_fade : Int32) (v_t_laws : Int32) (v_t_nightHours : Int32) (v_t_nightTimes : Int32) (v_t_ground : Nat → Int32) (v_t_windows : Nat → Int32) (v_t_lawParts : Nat → Int32) {z : Int32} (hf : f_X2_cells v_t_columns v_t_rows = some z) : Met l yX2_cells (Cond.code yX2_cells cX2_cells 1 (some .int) :: lw_g) ({ frames := 0, cells := 0, slots := 0, locals := 0 } : Room) (PC D cI cJ cZ en ([.ref q_t] : List Value) [(q_t, .inr (2, [.int v_t_columns, .int v_t_rows, .int v_t_fade, .int v_t_laws, .int v_t_nightHours, .int v_t_nightTimes, .ref q_t_ground, .ref q_t_windows, .ref q_t_lawParts])), (q_t_ground, .inl (cI, 36, .inl v_t_ground)), (q_t_windows, .inl (cI, 6, .inl v_t_windows)), (q_t_lawParts, .inl (cI, 18, .inl v_t_lawParts))] sz) (QI D cI cJ cZ [(q_t, .inr (2, [.int v_t_columns, .int v_t_rows, .int v_t_fade, .int v_t_laws, .int v_t_nightHours, .int v_t_nightTimes, .ref q_t_ground, .ref q_t_windows, .ref q_t_lawParts])), (q_t_ground, .inl (cI, 36, .inl v_t_ground)), (q_t_windows, .inl (cI, 6, .inl v_t_windows)), (q_t_lawParts, .inl (cI, 18, .inl v_t_lawParts))] z (va_A [(q_t, .inr (2, [.int v_t_columns, .int v_t_rows, .int v_t_fade, .int v_t_laws, .int v_t_nightHours, .int v_t_nightTimes, .ref q_t_ground, .ref q_t_windows, .ref q_t_lawParts])), (q_t_ground, .inl (cI, 36, .inl v_t_ground)), (q_t_windows, .inl (cI, 6, .inl v_t_windows)), (q_t_lawParts, .inl (cI, 18, .inl v_t_lawParts))] sz)) 0 0 (va_A [(q_t, .inr (2, [.int v_t_columns, .int v_t_rows, .int v_t_fade, .int v_t_laws, .int v_t_nightHours, .int v_t_nightTimes, .ref q_t_ground, .ref q_t_windows, .ref q_t_lawParts])), (q_t_ground, .inl (cI, 36, .inl v_t_ground)), (q_t_windows, .inl (cI, 6, .inl v_t_windows)), (q_t_lawParts, .inl (cI, 18, .inl v_t_lawParts))] sz) := by
  refine mk_met (Qc := fun A => (QI D cI cJ cZ [(q_t, .inr (2, [.int v_t_columns, .int v_t_rows, .int v_t_fade, .int v_t_laws, .int v_t_nightHours, .int v_t_nightTimes, .ref q_t_ground, .ref q_t_windows, .ref q_t_lawParts])), (q_t_ground, .inl (cI, 36, .inl v_t_ground)), (q_t_windows, .inl (cI, 6, .inl v_t_windows)), (q_t_lawParts, .inl (cI, 18, .inl v_t_lawParts))] z A)) RX2 (by decide) rfl (Nat.le_of_ble_eq_true rfl) ?_
  intro p e s m below meth c ls A hx hb hr hml hown hts hlocks hA hK hE hl hD H locs hP hS
  have hl : lv_has ls 1 [(0, .ref q_t)] := hl
  unfold f_X2_cells at hf
  refine lv_aload_n hx hb dX2_cells_0 rfl (lv_at hl 0 rfl) ?_
  refine va_get (D := D) (ci := 2) (v := .int v_t_columns) (C := RX2) (T := TX2) (N := 9) hx hb hts inX2 hown hK hP 0 rfl rfl 0 (by decide) (hts _ w_133) (fun _ h9 => h9) rfl dX2_cells_1 ?_
  refine lv_aload_n hx hb dX2_cells_4 rfl (lv_at hl 0 rfl) ?_
  refine va_get (D := D) (ci := 2) (v := .int v_t_rows) (C := RX2) (T := TX2) (N := 9) hx hb hts inX2 hown hK hP 0 rfl rfl 1 (by decide) (hts _ w_136) (fun _ h9 => h9) rfl dX2_cells_5 ?_
  refine lv_imul hx hb dX2_cells_8 ?_
  cases hf
  exact rt_i hx hb hr hlocks hK hP hS dX2_cells_9

def f_X2_has (v_t_columns : Int32) (v_t_rows : Int32) (x1 : Int32) : Option (Int32) :=
  (if x1 < 0 then (some 0) else (if (v_t_columns * v_t_rows) ≤ x1 then (some 0) else (if 36 ≤ x1 then (some 0) else (some 1))))
theorem gv_X2_has {own : String} {idx : Nat} (h : Cond.methodLink own idx yX2_has ∈ lw_g) : GoodIn lw_g (wsV own idx RX2 yX2_has (Cond.code yX2_has cX2_has 2 (some .boolean) :: lw_g)) := gV h w_465 w_466 w_60 w_467
theorem hd_X2_has : yX2_has.cls = RX2 ∧ yX2_has.cls ≠ "java/lang/invoke/MethodHandle" ∧ yX2_has.cls ≠ "java/lang/invoke/VarHandle" ∧ (parseMethodDescriptor yX2_has.desc).map (fun d => d.parameters.length) = some 1 := by decide +kernel
set_option maxHeartbeats 4000000 in
set_option maxRecDepth 100000 in
theorem c_X2_has (l : Launch) (D : va_G) (cI cJ cZ : ClassId) (en : EnT) (q_t q_t_ground q_t_windows q_t_lawParts : Nat) (sz : Nat) (v_t_columns : Int32) (v_t_rows : Int32) (v_t_fade : Int32) (v_t_laws : Int32) (v_t_nightHours : Int32) (v_t_nightTimes : Int32) (v_t_ground : Nat → Int32) (v_t_windows : Nat → Int32) (v_t_lawParts : Nat → Int32) (x1 : Int32) {z : Int32} (hf : f_X2_has v_t_columns v_t_rows x1 = some z) : Met l yX2_has (Cond.code yX2_has cX2_has 2 (some .boolean) :: lw_g) ({ frames := 0, cells := 0, slots := 0, locals := 0 } : Room) (PC D cI cJ cZ en ([.ref q_t, .int x1] : List Value) [(q_t, .inr (2, [.int v_t_columns, .int v_t_rows, .int v_t_fade, .int v_t_laws, .int v_t_nightHours, .int v_t_nightTimes, .ref q_t_ground, .ref q_t_windows, .ref q_t_lawParts])), (q_t_ground, .inl (cI, 36, .inl v_t_ground)), (q_t_windows, .inl (cI, 6, .inl v_t_windows)), (q_t_lawParts, .inl (cI, 18, .inl v_t_lawParts))] sz) (QI D cI cJ cZ [(q_t, .inr (2, [.int v_t_columns, .int v_t_rows, .int v_t_fade, .int v_t_laws, .int v_t_nightHours, .int v_t_nightTimes, .ref q_t_ground, .ref q_t_windows, .ref q_t_lawParts])), (q_t_ground, .inl (cI, 36, .inl v_t_ground)), (q_t_windows, .inl (cI, 6, .inl v_t_windows)), (q_t_lawParts, .inl (cI, 18, .inl v_t_lawParts))] z (va_A [(q_t, .inr (2, [.int v_t_columns, .int v_t_rows, .int v_t_fade, .int v_t_laws, .int v_t_nightHours, .int v_t_nightTimes, .ref q_t_ground, .ref q_t_windows, .ref q_t_lawParts])), (q_t_ground, .inl (cI, 36, .inl v_t_ground)), (q_t_windows, .inl (cI, 6, .inl v_t_windows)), (q_t_lawParts, .inl (cI, 18, .inl v_t_lawParts))] sz)) 0 0 (va_A [(q_t, .inr (2, [.int v_t_columns, .int v_t_rows, .int v_t_fade, .int v_t_laws, .int v_t_nightHours, .int v_t_nightTimes, .ref q_t_ground, .ref q_t_windows, .ref q_t_lawParts])), (q_t_ground, .inl (cI, 36, .inl v_t_ground)), (q_t_windows, .inl (cI, 6, .inl v_t_windows)), (q_t_lawParts, .inl (cI, 18, .inl v_t_lawParts))] sz) := by
  refine mk_met (Qc := fun A => (QI D cI cJ cZ [(q_t, .inr (2, [.int v_t_columns, .int v_t_rows, .int v_t_fade, .int v_t_laws, .int v_t_nightHours, .int v_t_nightTimes, .ref q_t_ground, .ref q_t_windows, .ref q_t_lawParts])), (q_t_ground, .inl (cI, 36, .inl v_t_ground)), (q_t_windows, .inl (cI, 6, .inl v_t_windows)), (q_t_lawParts, .inl (cI, 18, .inl v_t_lawParts))] z A)) RX2 (by decide) rfl (Nat.le_of_ble_eq_true rfl) ?_
  intro p e s m below meth c ls A hx hb hr hml hown hts hlocks hA hK hE hl hD H locs hP hS
  have hl : lv_has ls 2 [(0, .ref q_t), (1, .int x1)] := hl
  unfold f_X2_has at hf
  refine lv_iload_n hx hb dX2_has_0 rfl (lv_at hl 1 rfl) ?_
  refine lv_if_lt (tgt := 27) hx hb dX2_has_1 (by decide) (fun h_1 => ?_) (fun h_1 => ?_)
  · have hf := (if_pos h_1).symm.trans hf
    refine lv_iconst (v := 0) hx hb dX2_has_27 (by decide) ?_
    cases hf
    exact rt_z hx hb hr hlocks hK hP hS (Or.inl rfl) dX2_has_28
  · have hf := (if_neg h_1).symm.trans hf
    refine lv_iload_n hx hb dX2_has_4 rfl (lv_at hl 1 rfl) ?_
    refine lv_aload_n hx hb dX2_has_5 rfl (lv_at hl 0 rfl) ?_
    refine va_get (D := D) (ci := 2) (v := .int v_t_columns) (C := RX2) (T := TX2) (N := 9) hx hb hts inX2 hown hK hP 0 rfl rfl 0 (by decide) (hts _ w_133) (fun _ h9 => h9) rfl dX2_has_6 ?_
    refine lv_aload_n hx hb dX2_has_9 rfl (lv_at hl 0 rfl) ?_
    refine va_get (D := D) (ci := 2) (v := .int v_t_rows) (C := RX2) (T := TX2) (N := 9) hx hb hts inX2 hown hK hP 0 rfl rfl 1 (by decide) (hts _ w_136) (fun _ h9 => h9) rfl dX2_has_10 ?_
    refine lv_imul hx hb dX2_has_13 ?_
    refine lv_icmp_ge (tgt := 27) hx hb dX2_has_14 (by decide) (fun h_2 => ?_) (fun h_2 => ?_)
    · have hf := (if_pos h_2).symm.trans hf
      refine lv_iconst (v := 0) hx hb dX2_has_27 (by decide) ?_
      cases hf
      exact rt_z hx hb hr hlocks hK hP hS (Or.inl rfl) dX2_has_28
    · have hf := (if_neg h_2).symm.trans hf
      refine lv_iload_n hx hb dX2_has_17 rfl (lv_at hl 1 rfl) ?_
      refine lv_bipush (v := 36) hx hb dX2_has_18 (by decide) ?_
      refine lv_icmp_ge (tgt := 27) hx hb dX2_has_20 (by decide) (fun h_3 => ?_) (fun h_3 => ?_)
      · have hf := (if_pos h_3).symm.trans hf
        refine lv_iconst (v := 0) hx hb dX2_has_27 (by decide) ?_
        cases hf
        exact rt_z hx hb hr hlocks hK hP hS (Or.inl rfl) dX2_has_28
      · have hf := (if_neg h_3).symm.trans hf
        refine lv_iconst (v := 1) hx hb dX2_has_23 (by decide) ?_
        refine lv_goto (tgt := 28) hx hb dX2_has_24 (by decide) ?_
        cases hf
        exact rt_z hx hb hr hlocks hK hP hS (Or.inr rfl) dX2_has_28

def f_X2_cellAt (v_t_columns : Int32) (v_t_rows : Int32) (x1 : Int32) (x2 : Int32) : Option (Int32) :=
  (if x1 < 0 then (some (-1)) else (if v_t_columns ≤ x1 then (some (-1)) else (if x2 < 0 then (some (-1)) else (if x2 < v_t_rows then (some ((v_t_columns * x2) + x1)) else (some (-1))))))
theorem gv_X2_cellAt {own : String} {idx : Nat} (h : Cond.methodLink own idx yX2_cellAt ∈ lw_g) : GoodIn lw_g (wsV own idx RX2 yX2_cellAt (Cond.code yX2_cellAt cX2_cellAt 3 (some .int) :: lw_g)) := gV h w_457 w_458 w_60 w_459
theorem hd_X2_cellAt : yX2_cellAt.cls = RX2 ∧ yX2_cellAt.cls ≠ "java/lang/invoke/MethodHandle" ∧ yX2_cellAt.cls ≠ "java/lang/invoke/VarHandle" ∧ (parseMethodDescriptor yX2_cellAt.desc).map (fun d => d.parameters.length) = some 2 := by decide +kernel
set_option maxHeartbeats 4000000 in
set_option maxRecDepth 100000 in
theorem c_X2_cellAt (l : Launch) (D : va_G) (cI cJ cZ : ClassId) (en : EnT) (q_t q_t_ground q_t_windows q_t_lawParts : Nat) (sz : Nat) (v_t_columns : Int32) (v_t_rows : Int32) (v_t_fade : Int32) (v_t_laws : Int32) (v_t_nightHours : Int32) (v_t_nightTimes : Int32) (v_t_ground : Nat → Int32) (v_t_windows : Nat → Int32) (v_t_lawParts : Nat → Int32) (x1 : Int32) (x2 : Int32) {z : Int32} (hf : f_X2_cellAt v_t_columns v_t_rows x1 x2 = some z) : Met l yX2_cellAt (Cond.code yX2_cellAt cX2_cellAt 3 (some .int) :: lw_g) ({ frames := 0, cells := 0, slots := 0, locals := 0 } : Room) (PC D cI cJ cZ en ([.ref q_t, .int x1, .int x2] : List Value) [(q_t, .inr (2, [.int v_t_columns, .int v_t_rows, .int v_t_fade, .int v_t_laws, .int v_t_nightHours, .int v_t_nightTimes, .ref q_t_ground, .ref q_t_windows, .ref q_t_lawParts])), (q_t_ground, .inl (cI, 36, .inl v_t_ground)), (q_t_windows, .inl (cI, 6, .inl v_t_windows)), (q_t_lawParts, .inl (cI, 18, .inl v_t_lawParts))] sz) (QI D cI cJ cZ [(q_t, .inr (2, [.int v_t_columns, .int v_t_rows, .int v_t_fade, .int v_t_laws, .int v_t_nightHours, .int v_t_nightTimes, .ref q_t_ground, .ref q_t_windows, .ref q_t_lawParts])), (q_t_ground, .inl (cI, 36, .inl v_t_ground)), (q_t_windows, .inl (cI, 6, .inl v_t_windows)), (q_t_lawParts, .inl (cI, 18, .inl v_t_lawParts))] z (va_A [(q_t, .inr (2, [.int v_t_columns, .int v_t_rows, .int v_t_fade, .int v_t_laws, .int v_t_nightHours, .int v_t_nightTimes, .ref q_t_ground, .ref q_t_windows, .ref q_t_lawParts])), (q_t_ground, .inl (cI, 36, .inl v_t_ground)), (q_t_windows, .inl (cI, 6, .inl v_t_windows)), (q_t_lawParts, .inl (cI, 18, .inl v_t_lawParts))] sz)) 0 0 (va_A [(q_t, .inr (2, [.int v_t_columns, .int v_t_rows, .int v_t_fade, .int v_t_laws, .int v_t_nightHours, .int v_t_nightTimes, .ref q_t_ground, .ref q_t_windows, .ref q_t_lawParts])), (q_t_ground, .inl (cI, 36, .inl v_t_ground)), (q_t_windows, .inl (cI, 6, .inl v_t_windows)), (q_t_lawParts, .inl (cI, 18, .inl v_t_lawParts))] sz) := by
  refine mk_met (Qc := fun A => (QI D cI cJ cZ [(q_t, .inr (2, [.int v_t_columns, .int v_t_rows, .int v_t_fade, .int v_t_laws, .int v_t_nightHours, .int v_t_nightTimes, .ref q_t_ground, .ref q_t_windows, .ref q_t_lawParts])), (q_t_ground, .inl (cI, 36, .inl v_t_ground)), (q_t_windows, .inl (cI, 6, .inl v_t_windows)), (q_t_lawParts, .inl (cI, 18, .inl v_t_lawParts))] z A)) RX2 (by decide) rfl (Nat.le_of_ble_eq_true rfl) ?_
  intro p e s m below meth c ls A hx hb hr hml hown hts hlocks hA hK hE hl hD H locs hP hS
  have hl : lv_has ls 3 [(0, .ref q_t), (1, .int x1), (2, .int x2)] := hl
  unfold f_X2_cellAt at hf
  refine lv_iload_n hx hb dX2_cellAt_0 rfl (lv_at hl 1 rfl) ?_
  refine lv_if_lt (tgt := 24) hx hb dX2_cellAt_1 (by decide) (fun h_1 => ?_) (fun h_1 => ?_)
  · have hf := (if_pos h_1).symm.trans hf
    refine lv_iconst (v := (-1)) hx hb dX2_cellAt_24 (by decide) ?_
    cases hf
    exact rt_i hx hb hr hlocks hK hP hS dX2_cellAt_25
  · have hf := (if_neg h_1).symm.trans hf
    refine lv_iload_n hx hb dX2_cellAt_4 rfl (lv_at hl 1 rfl) ?_
    refine lv_aload_n hx hb dX2_cellAt_5 rfl (lv_at hl 0 rfl) ?_
    refine va_get (D := D) (ci := 2) (v := .int v_t_columns) (C := RX2) (T := TX2) (N := 9) hx hb hts inX2 hown hK hP 0 rfl rfl 0 (by decide) (hts _ w_133) (fun _ h9 => h9) rfl dX2_cellAt_6 ?_
    refine lv_icmp_ge (tgt := 24) hx hb dX2_cellAt_9 (by decide) (fun h_2 => ?_) (fun h_2 => ?_)
    · have hf := (if_pos h_2).symm.trans hf
      refine lv_iconst (v := (-1)) hx hb dX2_cellAt_24 (by decide) ?_
      cases hf
      exact rt_i hx hb hr hlocks hK hP hS dX2_cellAt_25
    · have hf := (if_neg h_2).symm.trans hf
      refine lv_iload_n hx hb dX2_cellAt_12 rfl (lv_at hl 2 rfl) ?_
      refine lv_if_lt (tgt := 24) hx hb dX2_cellAt_13 (by decide) (fun h_3 => ?_) (fun h_3 => ?_)
      · have hf := (if_pos h_3).symm.trans hf
        refine lv_iconst (v := (-1)) hx hb dX2_cellAt_24 (by decide) ?_
        cases hf
        exact rt_i hx hb hr hlocks hK hP hS dX2_cellAt_25
      · have hf := (if_neg h_3).symm.trans hf
        refine lv_iload_n hx hb dX2_cellAt_16 rfl (lv_at hl 2 rfl) ?_
        refine lv_aload_n hx hb dX2_cellAt_17 rfl (lv_at hl 0 rfl) ?_
        refine va_get (D := D) (ci := 2) (v := .int v_t_rows) (C := RX2) (T := TX2) (N := 9) hx hb hts inX2 hown hK hP 0 rfl rfl 1 (by decide) (hts _ w_136) (fun _ h9 => h9) rfl dX2_cellAt_18 ?_
        refine lv_icmp_lt (tgt := 26) hx hb dX2_cellAt_21 (by decide) (fun h_4 => ?_) (fun h_4 => ?_)
        · have hf := (if_pos h_4).symm.trans hf
          refine lv_aload_n hx hb dX2_cellAt_26 rfl (lv_at hl 0 rfl) ?_
          refine va_get (D := D) (ci := 2) (v := .int v_t_columns) (C := RX2) (T := TX2) (N := 9) hx hb hts inX2 hown hK hP 0 rfl rfl 0 (by decide) (hts _ w_133) (fun _ h9 => h9) rfl dX2_cellAt_27 ?_
          refine lv_iload_n hx hb dX2_cellAt_30 rfl (lv_at hl 2 rfl) ?_
          refine lv_imul hx hb dX2_cellAt_31 ?_
          refine lv_iload_n hx hb dX2_cellAt_32 rfl (lv_at hl 1 rfl) ?_
          refine lv_iadd hx hb dX2_cellAt_33 ?_
          cases hf
          exact rt_i hx hb hr hlocks hK hP hS dX2_cellAt_34
        · have hf := (if_neg h_4).symm.trans hf
          refine lv_iconst (v := (-1)) hx hb dX2_cellAt_24 (by decide) ?_
          cases hf
          exact rt_i hx hb hr hlocks hK hP hS dX2_cellAt_25

def f_X2_columnOf (v_t_columns : Int32) (x1 : Int32) : Option (Int32) :=
  (if 1 ≤ v_t_columns then gd (¬ v_t_columns = 0) ((some (x1 - x1 / v_t_columns * v_t_columns))) else (some 0))
theorem gv_X2_columnOf {own : String} {idx : Nat} (h : Cond.methodLink own idx yX2_columnOf ∈ lw_g) : GoodIn lw_g (wsV own idx RX2 yX2_columnOf (Cond.code yX2_columnOf cX2_columnOf 2 (some .int) :: lw_g)) := gV h w_599 w_12 w_60 w_600
theorem hd_X2_columnOf : yX2_columnOf.cls = RX2 ∧ yX2_columnOf.cls ≠ "java/lang/invoke/MethodHandle" ∧ yX2_columnOf.cls ≠ "java/lang/invoke/VarHandle" ∧ (parseMethodDescriptor yX2_columnOf.desc).map (fun d => d.parameters.length) = some 1 := by decide +kernel
set_option maxHeartbeats 4000000 in
set_option maxRecDepth 100000 in
theorem c_X2_columnOf (l : Launch) (D : va_G) (cI cJ cZ : ClassId) (en : EnT) (q_t q_t_ground q_t_windows q_t_lawParts : Nat) (sz : Nat) (v_t_columns : Int32) (v_t_rows : Int32) (v_t_fade : Int32) (v_t_laws : Int32) (v_t_nightHours : Int32) (v_t_nightTimes : Int32) (v_t_ground : Nat → Int32) (v_t_windows : Nat → Int32) (v_t_lawParts : Nat → Int32) (x1 : Int32) {z : Int32} (hf : f_X2_columnOf v_t_columns x1 = some z) : Met l yX2_columnOf (Cond.code yX2_columnOf cX2_columnOf 2 (some .int) :: lw_g) ({ frames := 0, cells := 0, slots := 0, locals := 0 } : Room) (PC D cI cJ cZ en ([.ref q_t, .int x1] : List Value) [(q_t, .inr (2, [.int v_t_columns, .int v_t_rows, .int v_t_fade, .int v_t_laws, .int v_t_nightHours, .int v_t_nightTimes, .ref q_t_ground, .ref q_t_windows, .ref q_t_lawParts])), (q_t_ground, .inl (cI, 36, .inl v_t_ground)), (q_t_windows, .inl (cI, 6, .inl v_t_windows)), (q_t_lawParts, .inl (cI, 18, .inl v_t_lawParts))] sz) (QI D cI cJ cZ [(q_t, .inr (2, [.int v_t_columns, .int v_t_rows, .int v_t_fade, .int v_t_laws, .int v_t_nightHours, .int v_t_nightTimes, .ref q_t_ground, .ref q_t_windows, .ref q_t_lawParts])), (q_t_ground, .inl (cI, 36, .inl v_t_ground)), (q_t_windows, .inl (cI, 6, .inl v_t_windows)), (q_t_lawParts, .inl (cI, 18, .inl v_t_lawParts))] z (va_A [(q_t, .inr (2, [.int v_t_columns, .int v_t_rows, .int v_t_fade, .int v_t_laws, .int v_t_nightHours, .int v_t_nightTimes, .ref q_t_ground, .ref q_t_windows, .ref q_t_lawParts])), (q_t_ground, .inl (cI, 36, .inl v_t_ground)), (q_t_windows, .inl (cI, 6, .inl v_t_windows)), (q_t_lawParts, .inl (cI, 18, .inl v_t_lawParts))] sz)) 0 0 (va_A [(q_t, .inr (2, [.int v_t_columns, .int v_t_rows, .int v_t_fade, .int v_t_laws, .int v_t_nightHours, .int v_t_nightTimes, .ref q_t_ground, .ref q_t_windows, .ref q_t_lawParts])), (q_t_ground, .inl (cI, 36, .inl v_t_ground)), (q_t_windows, .inl (cI, 6, .inl v_t_windows)), (q_t_lawParts, .inl (cI, 18, .inl v_t_lawParts))] sz) := by
  refine mk_met (Qc := fun A => (QI D cI cJ cZ [(q_t, .inr (2, [.int v_t_columns, .int v_t_rows, .int v_t_fade, .int v_t_laws, .int v_t_nightHours, .int v_t_nightTimes, .ref q_t_ground, .ref q_t_windows, .ref q_t_lawParts])), (q_t_ground, .inl (cI, 36, .inl v_t_ground)), (q_t_windows, .inl (cI, 6, .inl v_t_windows)), (q_t_lawParts, .inl (cI, 18, .inl v_t_lawParts))] z A)) RX2 (by decide) rfl (Nat.le_of_ble_eq_true rfl) ?_
  intro p e s m below meth c ls A hx hb hr hml hown hts hlocks hA hK hE hl hD H locs hP hS
  have hl : lv_has ls 2 [(0, .ref q_t), (1, .int x1)] := hl
  unfold f_X2_columnOf at hf
  refine lv_aload_n hx hb dX2_columnOf_0 rfl (lv_at hl 0 rfl) ?_
  refine va_get (D := D) (ci := 2) (v := .int v_t_columns) (C := RX2) (T := TX2) (N := 9) hx hb hts inX2 hown hK hP 0 rfl rfl 0 (by decide) (hts _ w_133) (fun _ h9 => h9) rfl dX2_columnOf_1 ?_
  refine lv_iconst (v := 1) hx hb dX2_columnOf_4 (by decide) ?_
  refine lv_icmp_ge (tgt := 12) hx hb dX2_columnOf_5 (by decide) (fun h_1 => ?_) (fun h_1 => ?_)
  · have hf := (if_pos h_1).symm.trans hf
    refine lv_iload_n hx hb dX2_columnOf_12 rfl (lv_at hl 1 rfl) ?_
    refine lv_aload_n hx hb dX2_columnOf_13 rfl (lv_at hl 0 rfl) ?_
    refine va_get (D := D) (ci := 2) (v := .int v_t_columns) (C := RX2) (T := TX2) (N := 9) hx hb hts inX2 hown hK hP 0 rfl rfl 0 (by decide) (hts _ w_133) (fun _ h9 => h9) rfl dX2_columnOf_14 ?_
    obtain ⟨hin, hf⟩ := gd_some hf
    refine lv_irem hx hb dX2_columnOf_17 hin ?_
    cases hf
    exact rt_i hx hb hr hlocks hK hP hS dX2_columnOf_18
  · have hf := (if_neg h_1).symm.trans hf
    refine lv_iconst (v := 0) hx hb dX2_columnOf_8 (by decide) ?_
    refine lv_goto (tgt := 18) hx hb dX2_columnOf_9 (by decide) ?_
    cases hf
    exact rt_i hx hb hr hlocks hK hP hS dX2_columnOf_18

def f_X2_rowOf (v_t_columns : Int32) (x1 : Int32) : Option (Int32) :=
  (if 1 ≤ v_t_columns then gd (¬ v_t_columns = 0) ((some (x1 / v_t_columns))) else (some 0))
theorem gv_X2_rowOf {own : String} {idx : Nat} (h : Cond.methodLink own idx yX2_rowOf ∈ lw_g) : GoodIn lw_g (wsV own idx RX2 yX2_rowOf (Cond.code yX2_rowOf cX2_rowOf 2 (some .int) :: lw_g)) := gV h w_605 w_13 w_60 w_606
theorem hd_X2_rowOf : yX2_rowOf.cls = RX2 ∧ yX2_rowOf.cls ≠ "java/lang/invoke/MethodHandle" ∧ yX2_rowOf.cls ≠ "java/lang/invoke/VarHandle" ∧ (parseMethodDescriptor yX2_rowOf.desc).map (fun d => d.parameters.length) = some 1 := by decide +kernel
set_option maxHeartbeats 4000000 in
set_option maxRecDepth 100000 in
theorem c_X2_rowOf (l : Launch) (D : va_G) (cI cJ cZ : ClassId) (en : EnT) (q_t q_t_ground q_t_windows q_t_lawParts : Nat) (sz : Nat) (v_t_columns : Int32) (v_t_rows : Int32) (v_t_fade : Int32) (v_t_laws : Int32) (v_t_nightHours : Int32) (v_t_nightTimes : Int32) (v_t_ground : Nat → Int32) (v_t_windows : Nat → Int32) (v_t_lawParts : Nat → Int32) (x1 : Int32) {z : Int32} (hf : f_X2_rowOf v_t_columns x1 = some z) : Met l yX2_rowOf (Cond.code yX2_rowOf cX2_rowOf 2 (some .int) :: lw_g) ({ frames := 0, cells := 0, slots := 0, locals := 0 } : Room) (PC D cI cJ cZ en ([.ref q_t, .int x1] : List Value) [(q_t, .inr (2, [.int v_t_columns, .int v_t_rows, .int v_t_fade, .int v_t_laws, .int v_t_nightHours, .int v_t_nightTimes, .ref q_t_ground, .ref q_t_windows, .ref q_t_lawParts])), (q_t_ground, .inl (cI, 36, .inl v_t_ground)), (q_t_windows, .inl (cI, 6, .inl v_t_windows)), (q_t_lawParts, .inl (cI, 18, .inl v_t_lawParts))] sz) (QI D cI cJ cZ [(q_t, .inr (2, [.int v_t_columns, .int v_t_rows, .int v_t_fade, .int v_t_laws, .int v_t_nightHours, .int v_t_nightTimes, .ref q_t_ground, .ref q_t_windows, .ref q_t_lawParts])), (q_t_ground, .inl (cI, 36, .inl v_t_ground)), (q_t_windows, .inl (cI, 6, .inl v_t_windows)), (q_t_lawParts, .inl (cI, 18, .inl v_t_lawParts))] z (va_A [(q_t, .inr (2, [.int v_t_columns, .int v_t_rows, .int v_t_fade, .int v_t_laws, .int v_t_nightHours, .int v_t_nightTimes, .ref q_t_ground, .ref q_t_windows, .ref q_t_lawParts])), (q_t_ground, .inl (cI, 36, .inl v_t_ground)), (q_t_windows, .inl (cI, 6, .inl v_t_windows)), (q_t_lawParts, .inl (cI, 18, .inl v_t_lawParts))] sz)) 0 0 (va_A [(q_t, .inr (2, [.int v_t_columns, .int v_t_rows, .int v_t_fade, .int v_t_laws, .int v_t_nightHours, .int v_t_nightTimes, .ref q_t_ground, .ref q_t_windows, .ref q_t_lawParts])), (q_t_ground, .inl (cI, 36, .inl v_t_ground)), (q_t_windows, .inl (cI, 6, .inl v_t_windows)), (q_t_lawParts, .inl (cI, 18, .inl v_t_lawParts))] sz) := by
  refine mk_met (Qc := fun A => (QI D cI cJ cZ [(q_t, .inr (2, [.int v_t_columns, .int v_t_rows, .int v_t_fade, .int v_t_laws, .int v_t_nightHours, .int v_t_nightTimes, .ref q_t_ground, .ref q_t_windows, .ref q_t_lawParts])), (q_t_ground, .inl (cI, 36, .inl v_t_ground)), (q_t_windows, .inl (cI, 6, .inl v_t_windows)), (q_t_lawParts, .inl (cI, 18, .inl v_t_lawParts))] z A)) RX2 (by decide) rfl (Nat.le_of_ble_eq_true rfl) ?_
  intro p e s m below meth c ls A hx hb hr hml hown hts hlocks hA hK hE hl hD H locs hP hS
  have hl : lv_has ls 2 [(0, .ref q_t), (1, .int x1)] := hl
  unfold f_X2_rowOf at hf
  refine lv_aload_n hx hb dX2_rowOf_0 rfl (lv_at hl 0 rfl) ?_
  refine va_get (D := D) (ci := 2) (v := .int v_t_columns) (C := RX2) (T := TX2) (N := 9) hx hb hts inX2 hown hK hP 0 rfl rfl 0 (by decide) (hts _ w_133) (fun _ h9 => h9) rfl dX2_rowOf_1 ?_
  refine lv_iconst (v := 1) hx hb dX2_rowOf_4 (by decide) ?_
  refine lv_icmp_ge (tgt := 12) hx hb dX2_rowOf_5 (by decide) (fun h_1 => ?_) (fun h_1 => ?_)
  · have hf := (if_pos h_1).symm.trans hf
    refine lv_iload_n hx hb dX2_rowOf_12 rfl (lv_at hl 1 rfl) ?_
    refine lv_aload_n hx hb dX2_rowOf_13 rfl (lv_at hl 0 rfl) ?_
    refine va_get (D := D) (ci := 2) (v := .int v_t_columns) (C := RX2) (T := TX2) (N := 9) hx hb hts inX2 hown hK hP 0 rfl rfl 0 (by decide) (hts _ w_133) (fun _ h9 => h9) rfl dX2_rowOf_14 ?_
    obtain ⟨hin, hf⟩ := gd_some hf
    refine lv_idiv hx hb dX2_rowOf_17 hin ?_
    cases hf
    exact rt_i hx hb hr hlocks hK hP hS dX2_rowOf_18
  · have hf := (if_neg h_1).symm.trans hf
    refine lv_iconst (v := 0) hx hb dX2_rowOf_8 (by decide) ?_
    refine lv_goto (tgt := 18) hx hb dX2_rowOf_9 (by decide) ?_
    cases hf
    exact rt_i hx hb hr hlocks hK hP hS dX2_rowOf_18

def f_X2_isRock (v_t_columns : Int32) (v_t_rows : Int32) (v_t_ground : Nat → Int32) (x1 : Int32) : Option (Int32) :=
  (f_X2_has v_t_columns v_t_rows x1).bind (fun z2 => (if z2 = 0 then (some 0) else gd (ib x1 36) ((if (v_t_ground (Int32.toNatClampNeg x1)) = (-1) then (some 0) else (some 1)))))
theorem gv_X2_isRock {own : String} {idx : Nat} (h : Cond.methodLink own idx yX2_isRock ∈ lw_g) : GoodIn lw_g (wsV own idx RX2 yX2_isRock (Cond.code yX2_isRock cX2_isRock 2 (some .boolean) :: lw_g)) := gV h w_515 w_516 w_60 w_517
theorem hd_X2_isRock : yX2_isRock.cls = RX2 ∧ yX2_isRock.cls ≠ "java/lang/invoke/MethodHandle" ∧ yX2_isRock.cls ≠ "java/lang/invoke/VarHandle" ∧ (parseMethodDescriptor yX2_isRock.desc).map (fun d => d.parameters.length) = some 1 := by decide +kernel
set_option maxHeartbeats 4000000 in
set_option maxRecDepth 100000 in
theorem c_X2_isRock (l : Launch) (D : va_G) (cI cJ cZ : ClassId) (en : EnT) (q_t q_t_ground q_t_windows q_t_lawParts : Nat) (sz : Nat) (v_t_columns : Int32) (v_t_rows : Int32) (v_t_fade : Int32) (v_t_laws : Int32) (v_t_nightHours : Int32) (v_t_nightTimes : Int32) (v_t_ground : Nat → Int32) (v_t_windows : Nat → Int32) (v_t_lawParts : Nat → Int32) (x1 : Int32) {z : Int32} (hf : f_X2_isRock v_t_columns v_t_rows v_t_ground x1 = some z) : Met l yX2_isRock (Cond.code yX2_isRock cX2_isRock 2 (some .boolean) :: lw_g) ({ frames := 1, cells := 0, slots := 0, locals := 21 } : Room) (PC D cI cJ cZ en ([.ref q_t, .int x1] : List Value) [(q_t, .inr (2, [.int v_t_columns, .int v_t_rows, .int v_t_fade, .int v_t_laws, .int v_t_nightHours, .int v_t_nightTimes, .ref q_t_ground, .ref q_t_windows, .ref q_t_lawParts])), (q_t_ground, .inl (cI, 36, .inl v_t_ground)), (q_t_windows, .inl (cI, 6, .inl v_t_windows)), (q_t_lawParts, .inl (cI, 18, .inl v_t_lawParts))] sz) (QI D cI cJ cZ [(q_t, .inr (2, [.int v_t_columns, .int v_t_rows, .int v_t_fade, .int v_t_laws, .int v_t_nightHours, .int v_t_nightTimes, .ref q_t_ground, .ref q_t_windows, .ref q_t_lawParts])), (q_t_ground, .inl (cI, 36, .inl v_t_ground)), (q_t_windows, .inl (cI, 6, .inl v_t_windows)), (q_t_lawParts, .inl (cI, 18, .inl v_t_lawParts))] z (va_A [(q_t, .inr (2, [.int v_t_columns, .int v_t_rows, .int v_t_fade, .int v_t_laws, .int v_t_nightHours, .int v_t_nightTimes, .ref q_t_ground, .ref q_t_windows, .ref q_t_lawParts])), (q_t_ground, .inl (cI, 36, .inl v_t_ground)), (q_t_windows, .inl (cI, 6, .inl v_t_windows)), (q_t_lawParts, .inl (cI, 18, .inl v_t_lawParts))] sz)) 0 0 (va_A [(q_t, .inr (2, [.int v_t_columns, .int v_t_rows, .int v_t_fade, .int v_t_laws, .int v_t_nightHours, .int v_t_nightTimes, .ref q_t_ground, .ref q_t_windows, .ref q_t_lawParts])), (q_t_ground, .inl (cI, 36, .inl v_t_ground)), (q_t_windows, .inl (cI, 6, .inl v_t_windows)), (q_t_lawParts, .inl (cI, 18, .inl v_t_lawParts))] sz) := by
  refine mk_met (Qc := fun A => (QI D cI cJ cZ [(q_t, .inr (2, [.int v_t_columns, .int v_t_rows, .int v_t_fade, .int v_t_laws, .int v_t_nightHours, .int v_t_nightTimes, .ref q_t_ground, .ref q_t_windows, .ref q_t_lawParts])), (q_t_ground, .inl (cI, 36, .inl v_t_ground)), (q_t_windows, .inl (cI, 6, .inl v_t_windows)), (q_t_lawParts, .inl (cI, 18, .inl v_t_lawParts))] z A)) RX2 (by decide) rfl (Nat.le_of_ble_eq_true rfl) ?_
  intro p e s m below meth c ls A hx hb hr hml hown hts hlocks hA hK hE hl hD H locs hP hS
  have hl : lv_has ls 2 [(0, .ref q_t), (1, .int x1)] := hl
  unfold f_X2_isRock at hf
  refine lv_aload_n hx hb dX2_isRock_0 rfl (lv_at hl 0 rfl) ?_
  refine lv_iload_n hx hb dX2_isRock_1 rfl (lv_at hl 1 rfl) ?_
  obtain ⟨z2_1, hz2_1, hf⟩ := bd_some hf
  refine cVi (rest := []) ⟨hx, hb, hml, hown, hts⟩ hE hK hP hD hS hA (c_X2_has l D cI cJ cZ en q_t q_t_ground q_t_windows q_t_lawParts H.size v_t_columns v_t_rows v_t_fade v_t_laws v_t_nightHours v_t_nightTimes v_t_ground v_t_windows v_t_lawParts x1 hz2_1) (gv_X2_has w_464) hd_X2_has ⟨rfl, rfl⟩ ⟨by decide, by decide⟩ [0, 1, 2, 3] rfl rfl rfl 2 rfl rfl 0 rfl  hl rfl (Nat.le_of_ble_eq_true rfl) ⟨Nat.zero_le _, Nat.zero_le _⟩ dX2_isRock_2 (fun H locs hP hD hS => ?_)
  have hP : va_P D vwCl [(q_t, .inr (2, [.int v_t_columns, .int v_t_rows, .int v_t_fade, .int v_t_laws, .int v_t_nightHours, .int v_t_nightTimes, .ref q_t_ground, .ref q_t_windows, .ref q_t_lawParts])), (q_t_ground, .inl (cI, 36, .inl v_t_ground)), (q_t_windows, .inl (cI, 6, .inl v_t_windows)), (q_t_lawParts, .inl (cI, 18, .inl v_t_lawParts))] H := hP
  have hD : va_D A [(q_t, .inr (2, [.int v_t_columns, .int v_t_rows, .int v_t_fade, .int v_t_laws, .int v_t_nightHours, .int v_t_nightTimes, .ref q_t_ground, .ref q_t_windows, .ref q_t_lawParts])), (q_t_ground, .inl (cI, 36, .inl v_t_ground)), (q_t_windows, .inl (cI, 6, .inl v_t_windows)), (q_t_lawParts, .inl (cI, 18, .inl v_t_lawParts))] := hD
  refine lv_if_eq (tgt := 22) hx hb dX2_isRock_5 (by decide) (fun h_2 => ?_) (fun h_2 => ?_)
  · have hf := (if_pos h_2).symm.trans hf
    refine lv_iconst (v := 0) hx hb dX2_isRock_22 (by decide) ?_
    cases hf
    exact rt_z hx hb hr hlocks hK hP hS (Or.inl rfl) dX2_isRock_23
  · have hf := (if_neg h_2).symm.trans hf
    refine lv_aload_n hx hb dX2_isRock_8 rfl (lv_at hl 0 rfl) ?_
    refine va_get (D := D) (ci := 2) (v := .ref q_t_ground) (C := RX2) (T := TX2) (N := 9) hx hb hts inX2 hown hK hP 0 rfl rfl 6 (by decide) (hts _ w_150) (fun _ h9 => h9) rfl dX2_isRock_9 ?_
    refine lv_iload_n hx hb dX2_isRock_12 rfl (lv_at hl 1 rfl) ?_
    obtain ⟨hin, hf⟩ := gd_some hf
    refine va_iald hx hb hK hP 1 0 rfl rfl hin dX2_isRock_13 ?_
    refine lv_iconst (v := (-1)) hx hb dX2_isRock_14 (by decide) ?_
    refine lv_icmp_eq (tgt := 22) hx hb dX2_isRock_15 (by decide) (fun h_3 => ?_) (fun h_3 => ?_)
    · have hf := (if_pos h_3).symm.trans hf
      refine lv_iconst (v := 0) hx hb dX2_isRock_22 (by decide) ?_
      cases hf
      exact rt_z hx hb hr hlocks hK hP hS (Or.inl rfl) dX2_isRock_23
    · have hf := (if_neg h_3).symm.trans hf
      refine lv_iconst (v := 1) hx hb dX2_isRock_18 (by decide) ?_
      refine lv_goto (tgt := 23) hx hb dX2_isRock_19 (by decide) ?_
      cases hf
      exact rt_z hx hb hr hlocks hK hP hS (Or.inr rfl) dX2_isRock_23

def f_X2_isFloor (v_t_columns : Int32) (v_t_rows : Int32) (v_t_ground : Nat → Int32) (x1 : Int32) : Option (Int32) :=
  (f_X2_has v_t_columns v_t_rows x1).bind (fun z2 => (if z2 = 0 then (some 0) else gd (ib x1 36) ((if (v_t_ground (Int32.toNatClampNeg x1)) = (-1) then (some 1) else (some 0)))))
theorem gv_X2_isFloor {own : String} {idx : Nat} (h : Cond.methodLink own idx yX2_isFloor ∈ lw_g) : GoodIn lw_g (wsV own idx RX2 yX2_isFloor (Cond.code yX2_isFloor cX2_isFloor 2 (some .boolean) :: lw_g)) := gV h w_461 w_462 w_60 w_463
theorem hd_X2_isFloor : yX2_isFloor.cls = RX2 ∧ yX2_isFloor.cls ≠ "java/lang/invoke/MethodHandle" ∧ yX2_isFloor.cls ≠ "java/lang/invoke/VarHandle" ∧ (parseMethodDescriptor yX2_isFloor.desc).map (fun d => d.parameters.length) = some 1 := by decide +kernel
set_option maxHeartbeats 4000000 in
set_option maxRecDepth 100000 in
theorem c_X2_isFloor (l : Launch) (D : va_G) (cI cJ cZ : ClassId) (en : EnT) (q_t q_t_ground q_t_windows q_t_lawParts : Nat) (sz : Nat) (v_t_columns : Int32) (v_t_rows : Int32) (v_t_fade : Int32) (v_t_laws : Int32) (v_t_nightHours : Int32) (v_t_nightTimes : Int32) (v_t_ground : Nat → Int32) (v_t_windows : Nat → Int32) (v_t_lawParts : Nat → Int32) (x1 : Int32) {z : Int32} (hf : f_X2_isFloor v_t_columns v_t_rows v_t_ground x1 = some z) : Met l yX2_isFloor (Cond.code yX2_isFloor cX2_isFloor 2 (some .boolean) :: lw_g) ({ frames := 1, cells := 0, slots := 0, locals := 21 } : Room) (PC D cI cJ cZ en ([.ref q_t, .int x1] : List Value) [(q_t, .inr (2, [.int v_t_columns, .int v_t_rows, .int v_t_fade, .int v_t_laws, .int v_t_nightHours, .int v_t_nightTimes, .ref q_t_ground, .ref q_t_windows, .ref q_t_lawParts])), (q_t_ground, .inl (cI, 36, .inl v_t_ground)), (q_t_windows, .inl (cI, 6, .inl v_t_windows)), (q_t_lawParts, .inl (cI, 18, .inl v_t_lawParts))] sz) (QI D cI cJ cZ [(q_t, .inr (2, [.int v_t_columns, .int v_t_rows, .int v_t_fade, .int v_t_laws, .int v_t_nightHours, .int v_t_nightTimes, .ref q_t_ground, .ref q_t_windows, .ref q_t_lawParts])), (q_t_ground, .inl (cI, 36, .inl v_t_ground)), (q_t_windows, .inl (cI, 6, .inl v_t_windows)), (q_t_lawParts, .inl (cI, 18, .inl v_t_lawParts))] z (va_A [(q_t, .inr (2, [.int v_t_columns, .int v_t_rows, .int v_t_fade, .int v_t_laws, .int v_t_nightHours, .int v_t_nightTimes, .ref q_t_ground, .ref q_t_windows, .ref q_t_lawParts])), (q_t_ground, .inl (cI, 36, .inl v_t_ground)), (q_t_windows, .inl (cI, 6, .inl v_t_windows)), (q_t_lawParts, .inl (cI, 18, .inl v_t_lawParts))] sz)) 0 0 (va_A [(q_t, .inr (2, [.int v_t_columns, .int v_t_rows, .int v_t_fade, .int v_t_laws, .int v_t_nightHours, .int v_t_nightTimes, .ref q_t_ground, .ref q_t_windows, .ref q_t_lawParts])), (q_t_ground, .inl (cI, 36, .inl v_t_ground)), (q_t_windows, .inl (cI, 6, .inl v_t_windows)), (q_t_lawParts, .inl (cI, 18, .inl v_t_lawParts))] sz) := by
  refine mk_met (Qc := fun A => (QI D cI cJ cZ [(q_t, .inr (2, [.int v_t_columns, .int v_t_rows, .int v_t_fade, .int v_t_laws, .int v_t_nightHours, .int v_t_nightTimes, .ref q_t_ground, .ref q_t_windows, .ref q_t_lawParts])), (q_t_ground, .inl (cI, 36, .inl v_t_ground)), (q_t_windows, .inl (cI, 6, .inl v_t_windows)), (q_t_lawParts, .inl (cI, 18, .inl v_t_lawParts))] z A)) RX2 (by decide) rfl (Nat.le_of_ble_eq_true rfl) ?_
  intro p e s m below meth c ls A hx hb hr hml hown hts hlocks hA hK hE hl hD H locs hP hS
  have hl : lv_has ls 2 [(0, .ref q_t), (1, .int x1)] := hl
  unfold f_X2_isFloor at hf
  refine lv_aload_n hx hb dX2_isFloor_0 rfl (lv_at hl 0 rfl) ?_
  refine lv_iload_n hx hb dX2_isFloor_1 rfl (lv_at hl 1 rfl) ?_
  obtain ⟨z2_1, hz2_1, hf⟩ := bd_some hf
  refine cVi (rest := []) ⟨hx, hb, hml, hown, hts⟩ hE hK hP hD hS hA (c_X2_has l D cI cJ cZ en q_t q_t_ground q_t_windows q_t_lawParts H.size v_t_columns v_t_rows v_t_fade v_t_laws v_t_nightHours v_t_nightTimes v_t_ground v_t_windows v_t_lawParts x1 hz2_1) (gv_X2_has w_464) hd_X2_has ⟨rfl, rfl⟩ ⟨by decide, by decide⟩ [0, 1, 2, 3] rfl rfl rfl 2 rfl rfl 0 rfl  hl rfl (Nat.le_of_ble_eq_true rfl) ⟨Nat.zero_le _, Nat.zero_le _⟩ dX2_isFloor_2 (fun H locs hP hD hS => ?_)
  have hP : va_P D vwCl [(q_t, .inr (2, [.int v_t_columns, .int v_t_rows, .int v_t_fade, .int v_t_laws, .int v_t_nightHours, .int v_t_nightTimes, .ref q_t_ground, .ref q_t_windows, .ref q_t_lawParts])), (q_t_ground, .inl (cI, 36, .inl v_t_ground)), (q_t_windows, .inl (cI, 6, .inl v_t_windows)), (q_t_lawParts, .inl (cI, 18, .inl v_t_lawParts))] H := hP
  have hD : va_D A [(q_t, .inr (2, [.int v_t_columns, .int v_t_rows, .int v_t_fade, .int v_t_laws, .int v_t_nightHours, .int v_t_nightTimes, .ref q_t_ground, .ref q_t_windows, .ref q_t_lawParts])), (q_t_ground, .inl (cI, 36, .inl v_t_ground)), (q_t_windows, .inl (cI, 6, .inl v_t_windows)), (q_t_lawParts, .inl (cI, 18, .inl v_t_lawParts))] := hD
  refine lv_if_eq (tgt := 22) hx hb dX2_isFloor_5 (by decide) (fun h_2 => ?_) (fun h_2 => ?_)
  · have hf := (if_pos h_2).symm.trans hf
    refine lv_iconst (v := 0) hx hb dX2_isFloor_22 (by decide) ?_
    cases hf
    exact rt_z hx hb hr hlocks hK hP hS (Or.inl rfl) dX2_isFloor_23
  · have hf := (if_neg h_2).symm.trans hf
    refine lv_aload_n hx hb dX2_isFloor_8 rfl (lv_at hl 0 rfl) ?_
    refine va_get (D := D) (ci := 2) (v := .ref q_t_ground) (C := RX2) (T := TX2) (N := 9) hx hb hts inX2 hown hK hP 0 rfl rfl 6 (by decide) (hts _ w_150) (fun _ h9 => h9) rfl dX2_isFloor_9 ?_
    refine lv_iload_n hx hb dX2_isFloor_12 rfl (lv_at hl 1 rfl) ?_
    obtain ⟨hin, hf⟩ := gd_some hf
    refine va_iald hx hb hK hP 1 0 rfl rfl hin dX2_isFloor_13 ?_
    refine lv_iconst (v := (-1)) hx hb dX2_isFloor_14 (by decide) ?_
    refine lv_icmp_ne (tgt := 22) hx hb dX2_isFloor_15 (by decide) (fun h_3 => ?_) (fun h_3 => ?_)
    · have hf := (if_neg h_3).symm.trans hf
      refine lv_iconst (v := 0) hx hb dX2_isFloor_22 (by decide) ?_
      cases hf
      exact rt_z hx hb hr hlocks hK hP hS (Or.inl rfl) dX2_isFloor_23
    · have hf := (if_pos h_3).symm.trans hf
      refine lv_iconst (v := 1) hx hb dX2_isFloor_18 (by decide) ?_
      refine lv_goto (tgt := 23) hx hb dX2_isFloor_19 (by decide) ?_
      cases hf
      exact rt_z hx hb hr hlocks hK hP hS (Or.inr rfl) dX2_isFloor_23

def f_X2_softOf (v_t_columns : Int32) (v_t_rows : Int32) (v_t_ground : Nat → Int32) (x1 : Int32) : Option (Int32) :=
  (f_X2_has v_t_columns v_t_rows x1).bind (fun z2 => (if z2 = 0 then (some 0) else gd (ib x1 36) ((some (if 0 < (v_t_ground (Int32.toNatClampNeg x1)) then (v_t_ground (Int32.toNatClampNeg x1)) else 0)))))
theorem gv_X2_softOf {own : String} {idx : Nat} (h : Cond.methodLink own idx yX2_softOf ∈ lw_g) : GoodIn lw_g (wsV own idx RX2 yX2_softOf (Cond.code yX2_softOf cX2_softOf 2 (some .int) :: lw_g)) := gV h w_519 w_520 w_60 w_521
theorem hd_X2_softOf : yX2_softOf.cls = RX2 ∧ yX2_softOf.cls ≠ "java/lang/invoke/MethodHandle" ∧ yX2_softOf.cls ≠ "java/lang/invoke/VarHandle" ∧ (parseMethodDescriptor yX2_softOf.desc).map (fun d => d.parameters.length) = some 1 := by decide +kernel
set_option maxHeartbeats 4000000 in
set_option maxRecDepth 100000 in
theorem c_X2_softOf (l : Launch) (D : va_G) (cI cJ cZ : ClassId) (en : EnT) (q_t q_t_ground q_t_windows q_t_lawParts : Nat) (sz : Nat) (v_t_columns : Int32) (v_t_rows : Int32) (v_t_fade : Int32) (v_t_laws : Int32) (v_t_nightHours : Int32) (v_t_nightTimes : Int32) (v_t_ground : Nat → Int32) (v_t_windows : Nat → Int32) (v_t_lawParts : Nat → Int32) (x1 : Int32) {z : Int32} (hf : f_X2_softOf v_t_columns v_t_rows v_t_ground x1 = some z) : Met l yX2_softOf (Cond.code yX2_softOf cX2_softOf 2 (some .int) :: lw_g) ({ frames := 1, cells := 0, slots := 0, locals := 21 } : Room) (PC D cI cJ cZ en ([.ref q_t, .int x1] : List Value) [(q_t, .inr (2, [.int v_t_columns, .int v_t_rows, .int v_t_fade, .int v_t_laws, .int v_t_nightHours, .int v_t_nightTimes, .ref q_t_ground, .ref q_t_windows, .ref q_t_lawParts])), (q_t_ground, .inl (cI, 36, .inl v_t_ground)), (q_t_windows, .inl (cI, 6, .inl v_t_windows)), (q_t_lawParts, .inl (cI, 18, .inl v_t_lawParts))] sz) (QI D cI cJ cZ [(q_t, .inr (2, [.int v_t_columns, .int v_t_rows, .int v_t_fade, .int v_t_laws, .int v_t_nightHours, .int v_t_nightTimes, .ref q_t_ground, .ref q_t_windows, .ref q_t_lawParts])), (q_t_ground, .inl (cI, 36, .inl v_t_ground)), (q_t_windows, .inl (cI, 6, .inl v_t_windows)), (q_t_lawParts, .inl (cI, 18, .inl v_t_lawParts))] z (va_A [(q_t, .inr (2, [.int v_t_columns, .int v_t_rows, .int v_t_fade, .int v_t_laws, .int v_t_nightHours, .int v_t_nightTimes, .ref q_t_ground, .ref q_t_windows, .ref q_t_lawParts])), (q_t_ground, .inl (cI, 36, .inl v_t_ground)), (q_t_windows, .inl (cI, 6, .inl v_t_windows)), (q_t_lawParts, .inl (cI, 18, .inl v_t_lawParts))] sz)) 0 0 (va_A [(q_t, .inr (2, [.int v_t_columns, .int v_t_rows, .int v_t_fade, .int v_t_laws, .int v_t_nightHours, .int v_t_nightTimes, .ref q_t_ground, .ref q_t_windows, .ref q_t_lawParts])), (q_t_ground, .inl (cI, 36, .inl v_t_ground)), (q_t_windows, .inl (cI, 6, .inl v_t_windows)), (q_t_lawParts, .inl (cI, 18, .inl v_t_lawParts))] sz) := by
  refine mk_met (Qc := fun A => (QI D cI cJ cZ [(q_t, .inr (2, [.int v_t_columns, .int v_t_rows, .int v_t_fade, .int v_t_laws, .int v_t_nightHours, .int v_t_nightTimes, .ref q_t_ground, .ref q_t_windows, .ref q_t_lawParts])), (q_t_ground, .inl (cI, 36, .inl v_t_ground)), (q_t_windows, .inl (cI, 6, .inl v_t_windows)), (q_t_lawParts, .inl (cI, 18, .inl v_t_lawParts))] z A)) RX2 (by decide) rfl (Nat.le_of_ble_eq_true rfl) ?_
  intro p e s m below meth c ls A hx hb hr hml hown hts hlocks hA hK hE hl hD H locs hP hS
  have hl : lv_has ls 2 [(0, .ref q_t), (1, .int x1)] := hl
  unfold f_X2_softOf at hf
  refine lv_aload_n hx hb dX2_softOf_0 rfl (lv_at hl 0 rfl) ?_
  refine lv_iload_n hx hb dX2_softOf_1 rfl (lv_at hl 1 rfl) ?_
  obtain ⟨z2_1, hz2_1, hf⟩ := bd_some hf
  refine cVi (rest := []) ⟨hx, hb, hml, hown, hts⟩ hE hK hP hD hS hA (c_X2_has l D cI cJ cZ en q_t q_t_ground q_t_windows q_t_lawParts H.size v_t_columns v_t_rows v_t_fade v_t_laws v_t_nightHours v_t_nightTimes v_t_ground v_t_windows v_t_lawParts x1 hz2_1) (gv_X2_has w_464) hd_X2_has ⟨rfl, rfl⟩ ⟨by decide, by decide⟩ [0, 1, 2, 3] rfl rfl rfl 2 rfl rfl 0 rfl  hl rfl (Nat.le_of_ble_eq_true rfl) ⟨Nat.zero_le _, Nat.zero_le _⟩ dX2_softOf_2 (fun H locs hP hD hS => ?_)
  have hP : va_P D vwCl [(q_t, .inr (2, [.int v_t_columns, .int v_t_rows, .int v_t_fade, .int v_t_laws, .int v_t_nightHours, .int v_t_nightTimes, .ref q_t_ground, .ref q_t_windows, .ref q_t_lawParts])), (q_t_ground, .inl (cI, 36, .inl v_t_ground)), (q_t_windows, .inl (cI, 6, .inl v_t_windows)), (q_t_lawParts, .inl (cI, 18, .inl v_t_lawParts))] H := hP
  have hD : va_D A [(q_t, .inr (2, [.int v_t_columns, .int v_t_rows, .int v_t_fade, .int v_t_laws, .int v_t_nightHours, .int v_t_nightTimes, .ref q_t_ground, .ref q_t_windows, .ref q_t_lawParts])), (q_t_ground, .inl (cI, 36, .inl v_t_ground)), (q_t_windows, .inl (cI, 6, .inl v_t_windows)), (q_t_lawParts, .inl (cI, 18, .inl v_t_lawParts))] := hD
  refine lv_if_eq (tgt := 21) hx hb dX2_softOf_5 (by decide) (fun h_2 => ?_) (fun h_2 => ?_)
  · have hf := (if_pos h_2).symm.trans hf
    refine lv_iconst (v := 0) hx hb dX2_softOf_21 (by decide) ?_
    cases hf
    exact rt_i hx hb hr hlocks hK hP hS dX2_softOf_22
  · have hf := (if_neg h_2).symm.trans hf
    refine lv_iconst (v := 0) hx hb dX2_softOf_8 (by decide) ?_
    refine lv_aload_n hx hb dX2_softOf_9 rfl (lv_at hl 0 rfl) ?_
    refine va_get (D := D) (ci := 2) (v := .ref q_t_ground) (C := RX2) (T := TX2) (N := 9) hx hb hts inX2 hown hK hP 0 rfl rfl 6 (by decide) (hts _ w_150) (fun _ h9 => h9) rfl dX2_softOf_10 ?_
    refine lv_iload_n hx hb dX2_softOf_13 rfl (lv_at hl 1 rfl) ?_
    obtain ⟨hin, hf⟩ := gd_some hf
    refine va_iald hx hb hK hP 1 0 rfl rfl hin dX2_softOf_14 ?_
    refine va_mmax hx hb (hml.trans hl.1.symm) hown (hts _ w_522) (hts _ w_523) (hts _ w_73) (hts _ w_524) (by decide) (Nat.le_of_ble_eq_true rfl) (Nat.zero_le _) (Nat.zero_le _) dX2_softOf_15 ?_
    refine lv_goto (tgt := 22) hx hb dX2_softOf_18 (by decide) ?_
    cases hf
    exact rt_i hx hb hr hlocks hK hP hS dX2_softOf_22

def f_X2_rocks_J23 (rc4 : (Int32) → (Int32) → Option (Int32)) (x1 : Int32) (x2 : Int32) : Option (Int32) :=
  (rc4 x1 (x2 + 1))
def f_X2_rocks_L4 (v_t_columns : Int32) (v_t_rows : Int32) (v_t_ground : Nat → Int32) : Nat → (Int32) → (Int32) → Option (Int32)
  | 0, _, _ => none
  | n + 1, x1, x2 => (f_X2_cells v_t_columns v_t_rows).bind (fun z6 => (if z6 ≤ x2 then (some x1) else (f_X2_isRock v_t_columns v_t_rows v_t_ground x2).bind (fun z14 => (if z14 = 0 then (f_X2_rocks_J23 (f_X2_rocks_L4 v_t_columns v_t_rows v_t_ground n) x1 x2) else (f_X2_rocks_J23 (f_X2_rocks_L4 v_t_columns v_t_rows v_t_ground n) (x1 + 1) x2)))))
def f_X2_rocks (v_t_columns : Int32) (v_t_rows : Int32) (v_t_ground : Nat → Int32) : Option (Int32) :=
  (f_X2_rocks_L4 v_t_columns v_t_rows v_t_ground FU 0 0)
theorem gv_X2_rocks {own : String} {idx : Nat} (h : Cond.methodLink own idx yX2_rocks ∈ lw_g) : GoodIn lw_g (wsV own idx RX2 yX2_rocks (Cond.code yX2_rocks cX2_rocks 3 (some .int) :: lw_g)) := gV h w_891 w_892 w_60 w_893
theorem hd_X2_rocks : yX2_rocks.cls = RX2 ∧ yX2_rocks.cls ≠ "java/lang/invoke/MethodHandle" ∧ yX2_rocks.cls ≠ "java/lang/invoke/VarHandle" ∧ (parseMethodDescriptor yX2_rocks.desc).map (fun d => d.parameters.length) = some 0 := by decide +kernel
set_option maxHeartbeats 4000000 in
set_option maxRecDepth 100000 in
theorem c_X2_rocks (l : Launch) (D : va_G) (cI cJ cZ : ClassId) (en : EnT) (q_t q_t_ground q_t_windows q_t_lawParts : Nat) (sz : Nat) (v_t_columns : Int32) (v_t_rows : Int32) (v_t_fade : Int32) (v_t_laws : Int32) (v_t_nightHours : Int32) (v_t_nightTimes : Int32) (v_t_ground : Nat → Int32) (v_t_windows : Nat → Int32) (v_t_lawParts : Nat → Int32) {z : Int32} (hf : f_X2_rocks v_t_columns v_t_rows v_t_ground = some z) : Met l yX2_rocks (Cond.code yX2_rocks cX2_rocks 3 (some .int) :: lw_g) ({ frames := 2, cells := 0, slots := 0, locals := 42 } : Room) (PC D cI cJ cZ en ([.ref q_t] : List Value) [(q_t, .inr (2, [.int v_t_columns, .int v_t_rows, .int v_t_fade, .int v_t_laws, .int v_t_nightHours, .int v_t_nightTimes, .ref q_t_ground, .ref q_t_windows, .ref q_t_lawParts])), (q_t_ground, .inl (cI, 36, .inl v_t_ground)), (q_t_windows, .inl (cI, 6, .inl v_t_windows)), (q_t_lawParts, .inl (cI, 18, .inl v_t_lawParts))] sz) (QI D cI cJ cZ [(q_t, .inr (2, [.int v_t_columns, .int v_t_rows, .int v_t_fade, .int v_t_laws, .int v_t_nightHours, .int v_t_nightTimes, .ref q_t_ground, .ref q_t_windows, .ref q_t_lawParts])), (q_t_ground, .inl (cI, 36, .inl v_t_ground)), (q_t_windows, .inl (cI, 6, .inl v_t_windows)), (q_t_lawParts, .inl (cI, 18, .inl v_t_lawParts))] z (va_A [(q_t, .inr (2, [.int v_t_columns, .int v_t_rows, .int v_t_fade, .int v_t_laws, .int v_t_nightHours, .int v_t_nightTimes, .ref q_t_ground, .ref q_t_windows, .ref q_t_lawParts])), (q_t_ground, .inl (cI, 36, .inl v_t_ground)), (q_t_windows, .inl (cI, 6, .inl v_t_windows)), (q_t_lawParts, .inl (cI, 18, .inl v_t_lawParts))] sz)) 0 0 (va_A [(q_t, .inr (2, [.int v_t_columns, .int v_t_rows, .int v_t_fade, .int v_t_laws, .int v_t_nightHours, .int v_t_nightTimes, .ref q_t_ground, .ref q_t_windows, .ref q_t_lawParts])), (q_t_ground, .inl (cI, 36, .inl v_t_ground)), (q_t_windows, .inl (cI, 6, .inl v_t_windows)), (q_t_lawParts, .inl (cI, 18, .inl v_t_lawParts))] sz) := by
  refine mk_met (Qc := fun A => (QI D cI cJ cZ [(q_t, .inr (2, [.int v_t_columns, .int v_t_rows, .int v_t_fade, .int v_t_laws, .int v_t_nightHours, .int v_t_nightTimes, .ref q_t_ground, .ref q_t_windows, .ref q_t_lawParts])), (q_t_ground, .inl (cI, 36, .inl v_t_ground)), (q_t_windows, .inl (cI, 6, .inl v_t_windows)), (q_t_lawParts, .inl (cI, 18, .inl v_t_lawParts))] z A)) RX2 (by decide) rfl (Nat.le_of_ble_eq_true rfl) ?_
  intro p e s m below meth c ls A hx hb hr hml hown hts hlocks hA hK hE hl hD H locs hP hS
  have hl : lv_has ls 3 [(0, .ref q_t)] := hl
  unfold f_X2_rocks at hf
  refine lv_iconst (v := 0) hx hb dX2_rocks_0 (by decide) ?_
  refine lv_istore_n (lv' := [(1, .int 0), (0, .ref q_t)]) hx hb dX2_rocks_1 rfl hl (by decide) rfl (fun ls hl => ?_)
  refine lv_iconst (v := 0) hx hb dX2_rocks_2 (by decide) ?_
  refine lv_istore_n (lv' := [(2, .int 0), (1, .int 0), (0, .ref q_t)]) hx hb dX2_rocks_3 rfl hl (by decide) rfl (fun ls hl => ?_)
  have L4_3 : ∀ (n : Nat) (x1_1 : Int32) (x2_2 : Int32), f_X2_rocks_L4 v_t_columns v_t_rows v_t_ground n x1_1 x2_2 = some z → ∀ (H : Heap) (locs : List Loc) (ls : Array Slot), va_P D vwCl [(q_t, .inr (2, [.int v_t_columns, .int v_t_rows, .int v_t_fade, .int v_t_laws, .int v_t_nightHours, .int v_t_nightTimes, .ref q_t_ground, .ref q_t_windows, .ref q_t_lawParts])), (q_t_ground, .inl (cI, 36, .inl v_t_ground)), (q_t_windows, .inl (cI, 6, .inl v_t_windows)), (q_t_lawParts, .inl (cI, 18, .inl v_t_lawParts))] H → va_D A [(q_t, .inr (2, [.int v_t_columns, .int v_t_rows, .int v_t_fade, .int v_t_laws, .int v_t_nightHours, .int v_t_nightTimes, .ref q_t_ground, .ref q_t_windows, .ref q_t_lawParts])), (q_t_ground, .inl (cI, 36, .inl v_t_ground)), (q_t_windows, .inl (cI, 6, .inl v_t_windows)), (q_t_lawParts, .inl (cI, 18, .inl v_t_lawParts))] → va_S A s.heap H locs → lv_has ls 3 [(0, .ref q_t), (1, .int x1_1), (2, .int x2_2)] → W p l e ({ frames := 2, cells := 0, slots := 0, locals := 42 } : Room) s m ([.ref q_t] : List Value).toArray below meth c H locs 0 0 (MQ below (QI D cI cJ cZ [(q_t, .inr (2, [.int v_t_columns, .int v_t_rows, .int v_t_fade, .int v_t_laws, .int v_t_nightHours, .int v_t_nightTimes, .ref q_t_ground, .ref q_t_windows, .ref q_t_lawParts])), (q_t_ground, .inl (cI, 36, .inl v_t_ground)), (q_t_windows, .inl (cI, 6, .inl v_t_windows)), (q_t_lawParts, .inl (cI, 18, .inl v_t_lawParts))] z A) ([.ref q_t] : List Value).toArray s 0 0 A) (F0 m 4 ls []) := by
    intro n
    induction n with
    | zero =>
      intro x1_1 x2_2 hf
      cases hf
    | succ n ih_4 =>
      intro x1_1 x2_2 hf H locs ls hP hD hS hl
      rw [f_X2_rocks_L4] at hf
      refine lv_iload_n hx hb dX2_rocks_4 rfl (lv_at hl 2 rfl) ?_
      refine lv_aload_n hx hb dX2_rocks_5 rfl (lv_at hl 0 rfl) ?_
      obtain ⟨z6_5, hz6_5, hf⟩ := bd_some hf
      refine cVi (rest := [.int x2_2]) ⟨hx, hb, hml, hown, hts⟩ hE hK hP hD hS hA (c_X2_cells l D cI cJ cZ en q_t q_t_ground q_t_windows q_t_lawParts H.size v_t_columns v_t_rows v_t_fade v_t_laws v_t_nightHours v_t_nightTimes v_t_ground v_t_windows v_t_lawParts hz6_5) (gv_X2_cells w_894) hd_X2_cells ⟨rfl, rfl⟩ ⟨by decide, by decide⟩ [0, 1, 2, 3] rfl rfl rfl 2 rfl rfl 0 rfl  hl rfl (Nat.le_of_ble_eq_true rfl) ⟨Nat.zero_le _, Nat.zero_le _⟩ dX2_rocks_6 (fun H locs hP hD hS => ?_)
      have hP : va_P D vwCl [(q_t, .inr (2, [.int v_t_columns, .int v_t_rows, .int v_t_fade, .int v_t_laws, .int v_t_nightHours, .int v_t_nightTimes, .ref q_t_ground, .ref q_t_windows, .ref q_t_lawParts])), (q_t_ground, .inl (cI, 36, .inl v_t_ground)), (q_t_windows, .inl (cI, 6, .inl v_t_windows)), (q_t_lawParts, .inl (cI, 18, .inl v_t_lawParts))] H := hP
      have hD : va_D A [(q_t, .inr (2, [.int v_t_columns, .int v_t_rows, .int v_t_fade, .int v_t_laws, .int v_t_nightHours, .int v_t_nightTimes, .ref q_t_ground, .ref q_t_windows, .ref q_t_lawParts])), (q_t_ground, .inl (cI, 36, .inl v_t_ground)), (q_t_windows, .inl (cI, 6, .inl v_t_windows)), (q_t_lawParts, .inl (cI, 18, .inl v_t_lawParts))] := hD
      refine lv_icmp_ge (tgt := 29) hx hb dX2_rocks_9 (by decide) (fun h_6 => ?_) (fun h_6 => ?_)
      · have hf := (if_pos h_6).symm.trans hf
        refine lv_iload_n hx hb dX2_rocks_29 rfl (lv_at hl 1 rfl) ?_
        cases hf
        exact rt_i hx hb hr hlocks hK hP hS dX2_rocks_30
      · have hf := (if_neg h_6).symm.trans hf
        refine lv_aload_n hx hb dX2_rocks_12 rfl (lv_at hl 0 rfl) ?_
        refine lv_iload_n hx hb dX2_rocks_13 rfl (lv_at hl 2 rfl) ?_
        obtain ⟨z14_7, hz14_7, hf⟩ := bd_some hf
        refine cVi (rest := []) ⟨hx, hb, hml, hown, hts⟩ hE hK hP hD hS hA (c_X2_isRock l D cI cJ cZ en q_t q_t_ground q_t_windows q_t_lawParts H.size v_t_columns v_t_rows v_t_fade v_t_laws v_t_nightHours v_t_nightTimes v_t_ground v_t_windows v_t_lawParts x2_2 hz14_7) (gv_X2_isRock w_623) hd_X2_isRock ⟨rfl, rfl⟩ ⟨by decide, by decide⟩ [0, 1, 2, 3] rfl rfl rfl 2 rfl rfl 0 rfl  hl rfl (Nat.le_of_ble_eq_true rfl) ⟨Nat.zero_le _, Nat.zero_le _⟩ dX2_rocks_14 (fun H locs hP hD hS => ?_)
        have hP : va_P D vwCl [(q_t, .inr (2, [.int v_t_columns, .int v_t_rows, .int v_t_fade, .int v_t_laws, .int v_t_nightHours, .int v_t_nightTimes, .ref q_t_ground, .ref q_t_windows, .ref q_t_lawParts])), (q_t_ground, .inl (cI, 36, .inl v_t_ground)), (q_t_windows, .inl (cI, 6, .inl v_t_windows)), (q_t_lawParts, .inl (cI, 18, .inl v_t_lawParts))] H := hP
        have hD : va_D A [(q_t, .inr (2, [.int v_t_columns, .int v_t_rows, .int v_t_fade, .int v_t_laws, .int v_t_nightHours, .int v_t_nightTimes, .ref q_t_ground, .ref q_t_windows, .ref q_t_lawParts])), (q_t_ground, .inl (cI, 36, .inl v_t_ground)), (q_t_windows, .inl (cI, 6, .inl v_t_windows)), (q_t_lawParts, .inl (cI, 18, .inl v_t_lawParts))] := hD
        have J23_9 : ∀ (x1_8 : Int32), f_X2_rocks_J23 (f_X2_rocks_L4 v_t_columns v_t_rows v_t_ground n) x1_8 x2_2 = some z → ∀ (H : Heap) (locs : List Loc) (ls : Array Slot), va_P D vwCl [(q_t, .inr (2, [.int v_t_columns, .int v_t_rows, .int v_t_fade, .int v_t_laws, .int v_t_nightHours, .int v_t_nightTimes, .ref q_t_ground, .ref q_t_windows, .ref q_t_lawParts])), (q_t_ground, .inl (cI, 36, .inl v_t_ground)), (q_t_windows, .inl (cI, 6, .inl v_t_windows)), (q_t_lawParts, .inl (cI, 18, .inl v_t_lawParts))] H → va_D A [(q_t, .inr (2, [.int v_t_columns, .int v_t_rows, .int v_t_fade, .int v_t_laws, .int v_t_nightHours, .int v_t_nightTimes, .ref q_t_ground, .ref q_t_windows, .ref q_t_lawParts])), (q_t_ground, .inl (cI, 36, .inl v_t_ground)), (q_t_windows, .inl (cI, 6, .inl v_t_windows)), (q_t_lawParts, .inl (cI, 18, .inl v_t_lawParts))] → va_S A s.heap H locs → lv_has ls 3 [(0, .ref q_t), (1, .int x1_8), (2, .int x2_2)] → W p l e ({ frames := 2, cells := 0, slots := 0, locals := 42 } : Room) s m ([.ref q_t] : List Value).toArray below meth c H locs 0 0 (MQ below (QI D cI cJ cZ [(q_t, .inr (2, [.int v_t_columns, .int v_t_rows, .int v_t_fade, .int v_t_laws, .int v_t_nightHours, .int v_t_nightTimes, .ref q_t_ground, .ref q_t_windows, .ref q_t_lawParts])), (q_t_ground, .inl (cI, 36, .inl v_t_ground)), (q_t_windows, .inl (cI, 6, .inl v_t_windows)), (q_t_lawParts, .inl (cI, 18, .inl v_t_lawParts))] z A) ([.ref q_t] : List Value).toArray s 0 0 A) (F0 m 23 ls []) := by
          intro x1_8 hf H locs ls hP hD hS hl
          unfold f_X2_rocks_J23 at hf
          refine lv_iinc (v := (x2_2 + 1)) (lv' := [(2, .int (x2_2 + 1)), (0, .ref q_t), (1, .int x1_8)]) hx hb dX2_rocks_23 hl (k := 2) rfl rfl (by decide) rfl (fun ls hl => ?_)
          refine lv_goto (tgt := 4) hx hb dX2_rocks_26 (by decide) ?_
          exact ih_4 x1_8 (x2_2 + 1) hf _ _ _ hP hD hS (lv_sub hl [1, 2, 0] rfl)
        refine lv_if_eq (tgt := 23) hx hb dX2_rocks_17 (by decide) (fun h_10 => ?_) (fun h_10 => ?_)
        · have hf := (if_pos h_10).symm.trans hf
          exact J23_9 x1_1 hf _ _ _ hP hD hS (lv_sub hl [0, 1, 2] rfl)
        · have hf := (if_neg h_10).symm.trans hf
          refine lv_iinc (v := (x1_1 + 1)) (lv' := [(1, .int (x1_1 + 1)), (0, .ref q_t), (2, .int x2_2)]) hx hb dX2_rocks_20 hl (k := 1) rfl rfl (by decide) rfl (fun ls hl => ?_)
          exact J23_9 (x1_1 + 1) hf _ _ _ hP hD hS (lv_sub hl [1, 0, 2] rfl)
  exact L4_3 FU 0 0 hf _ _ _ hP hD hS (lv_sub hl [2, 1, 0] rfl)

def f_X2_lay (v_t_columns : Int32) (v_t_rows : Int32) (v_t_ground : Nat → Int32) (v_t_windows : Nat → Int32) (x1 : Int32) (x2 : Int32) : Option (Int32 × Int32 × (Nat → Int32) × (Nat → Int32)) :=
  (f_J7_fill_53178 36 v_t_ground (-1)).bind (fun z15 => (f_J7_fill_53178 6 v_t_windows (-1)).bind (fun z23 => (some (x1, x2, z15, z23))))
theorem gv_X2_lay {own : String} {idx : Nat} (h : Cond.methodLink own idx yX2_lay ∈ lw_g) : GoodIn lw_g (wsV own idx RX2 yX2_lay (Cond.code yX2_lay cX2_lay 3 none :: lw_g)) := gV h w_473 w_474 w_60 w_475
theorem hd_X2_lay : yX2_lay.cls = RX2 ∧ yX2_lay.cls ≠ "java/lang/invoke/MethodHandle" ∧ yX2_lay.cls ≠ "java/lang/invoke/VarHandle" ∧ (parseMethodDescriptor yX2_lay.desc).map (fun d => d.parameters.length) = some 2 := by decide +kernel
set_option maxHeartbeats 4000000 in
set_option maxRecDepth 100000 in
theorem c_X2_lay (l : Launch) (D : va_G) (cI cJ cZ : ClassId) (en : EnT) (q_t q_t_ground q_t_windows q_t_lawParts : Nat) (sz : Nat) (v_t_columns : Int32) (v_t_rows : Int32) (v_t_fade : Int32) (v_t_laws : Int32) (v_t_nightHours : Int32) (v_t_nightTimes : Int32) (v_t_ground : Nat → Int32) (v_t_windows : Nat → Int32) (v_t_lawParts : Nat → Int32) (x1 : Int32) (x2 : Int32) {z : Int32 × Int32 × (Nat → Int32) × (Nat → Int32)} (hf : f_X2_lay v_t_columns v_t_rows v_t_ground v_t_windows x1 x2 = some z) : Met l yX2_lay (Cond.code yX2_lay cX2_lay 3 none :: lw_g) ({ frames := 1, cells := 0, slots := 0, locals := 23 } : Room) (PC D cI cJ cZ en ([.ref q_t, .int x1, .int x2] : List Value) [(q_t, .inr (2, [.int v_t_columns, .int v_t_rows, .int v_t_fade, .int v_t_laws, .int v_t_nightHours, .int v_t_nightTimes, .ref q_t_ground, .ref q_t_windows, .ref q_t_lawParts])), (q_t_ground, .inl (cI, 36, .inl v_t_ground)), (q_t_windows, .inl (cI, 6, .inl v_t_windows)), (q_t_lawParts, .inl (cI, 18, .inl v_t_lawParts))] sz) (QV D cI cJ cZ [(q_t, .inr (2, [.int z.1, .int z.2.1, .int v_t_fade, .int v_t_laws, .int v_t_nightHours, .int v_t_nightTimes, .ref q_t_ground, .ref q_t_windows, .ref q_t_lawParts])), (q_t_ground, .inl (cI, 36, .inl z.2.2.1)), (q_t_windows, .inl (cI, 6, .inl z.2.2.2)), (q_t_lawParts, .inl (cI, 18, .inl v_t_lawParts))] (va_A [(q_t, .inr (2, [.int v_t_columns, .int v_t_rows, .int v_t_fade, .int v_t_laws, .int v_t_nightHours, .int v_t_nightTimes, .ref q_t_ground, .ref q_t_windows, .ref q_t_lawParts])), (q_t_ground, .inl (cI, 36, .inl v_t_ground)), (q_t_windows, .inl (cI, 6, .inl v_t_windows)), (q_t_lawParts, .inl (cI, 18, .inl v_t_lawParts))] sz)) 0 0 (va_A [(q_t, .inr (2, [.int v_t_columns, .int v_t_rows, .int v_t_fade, .int v_t_laws, .int v_t_nightHours, .int v_t_nightTimes, .ref q_t_ground, .ref q_t_windows, .ref q_t_lawParts])), (q_t_ground, .inl (cI, 36, .inl v_t_ground)), (q_t_windows, .inl (cI, 6, .inl v_t_windows)), (q_t_lawParts, .inl (cI, 18, .inl v_t_lawParts))] sz) := by
  refine mk_met (Qc := fun A => (QV D cI cJ cZ [(q_t, .inr (2, [.int z.1, .int z.2.1, .int v_t_fade, .int v_t_laws, .int v_t_nightHours, .int v_t_nightTimes, .ref q_t_ground, .ref q_t_windows, .ref q_t_lawParts])), (q_t_ground, .inl (cI, 36, .inl z.2.2.1)), (q_t_windows, .inl (cI, 6, .inl z.2.2.2)), (q_t_lawParts, .inl (cI, 18, .inl v_t_lawParts))] A)) RX2 (by decide) rfl (Nat.le_of_ble_eq_true rfl) ?_
  intro p e s m below meth c ls A hx hb hr hml hown hts hlocks hA hK hE hl hD H locs hP hS
  have hl : lv_has ls 3 [(0, .ref q_t), (1, .int x1), (2, .int x2)] := hl
  unfold f_X2_lay at hf
  refine lv_aload_n hx hb dX2_lay_0 rfl (lv_at hl 0 rfl) ?_
  refine lv_iload_n hx hb dX2_lay_1 rfl (lv_at hl 1 rfl) ?_
  refine va_put (D := D) (ci := 2) (v := .int x1) (ty := .int) (C := RX2) (T := TX2) (N := 9) hx hb hts inX2 tyX2 tyX2_ok nmX2 hown hK hP hD hS 0 rfl rfl 0 (by decide) (hts _ w_133) (fun _ h9 => h9) rfl (by decide +kernel) rfl rfl (Nat.le_of_ble_eq_true rfl) dX2_lay_2 (fun H locs hP hD hS => ?_)
  have hP : va_P D vwCl [(q_t, .inr (2, [.int x1, .int v_t_rows, .int v_t_fade, .int v_t_laws, .int v_t_nightHours, .int v_t_nightTimes, .ref q_t_ground, .ref q_t_windows, .ref q_t_lawParts])), (q_t_ground, .inl (cI, 36, .inl v_t_ground)), (q_t_windows, .inl (cI, 6, .inl v_t_windows)), (q_t_lawParts, .inl (cI, 18, .inl v_t_lawParts))] H := hP
  have hD : va_D A [(q_t, .inr (2, [.int x1, .int v_t_rows, .int v_t_fade, .int v_t_laws, .int v_t_nightHours, .int v_t_nightTimes, .ref q_t_ground, .ref q_t_windows, .ref q_t_lawParts])), (q_t_ground, .inl (cI, 36, .inl v_t_ground)), (q_t_windows, .inl (cI, 6, .inl v_t_windows)), (q_t_lawParts, .inl (cI, 18, .inl v_t_lawParts))] := hD
  refine lv_aload_n hx hb dX2_lay_5 rfl (lv_at hl 0 rfl) ?_
  refine lv_iload_n hx hb dX2_lay_6 rfl (lv_at hl 2 rfl) ?_
  refine va_put (D := D) (ci := 2) (v := .int x2) (ty := .int) (C := RX2) (T := TX2) (N := 9) hx hb hts inX2 tyX2 tyX2_ok nmX2 hown hK hP hD hS 0 rfl rfl 1 (by decide) (hts _ w_136) (fun _ h9 => h9) rfl (by decide +kernel) rfl rfl (Nat.le_of_ble_eq_true rfl) dX2_lay_7 (fun H locs hP hD hS => ?_)
  have hP : va_P D vwCl [(q_t, .inr (2, [.int x1, .int x2, .int v_t_fade, .int v_t_laws, .int v_t_nightHours, .int v_t_nightTimes, .ref q_t_ground, .ref q_t_windows, .ref q_t_lawParts])), (q_t_ground, .inl (cI, 36, .inl v_t_ground)), (q_t_windows, .inl (cI, 6, .inl v_t_windows)), (q_t_lawParts, .inl (cI, 18, .inl v_t_lawParts))] H := hP
  have hD : va_D A [(q_t, .inr (2, [.int x1, .int x2, .int v_t_fade, .int v_t_laws, .int v_t_nightHours, .int v_t_nightTimes, .ref q_t_ground, .ref q_t_windows, .ref q_t_lawParts])), (q_t_ground, .inl (cI, 36, .inl v_t_ground)), (q_t_windows, .inl (cI, 6, .inl v_t_windows)), (q_t_lawParts, .inl (cI, 18, .inl v_t_lawParts))] := hD
  refine lv_aload_n hx hb dX2_lay_10 rfl (lv_at hl 0 rfl) ?_
  refine va_get (D := D) (ci := 2) (v := .ref q_t_ground) (C := RX2) (T := TX2) (N := 9) hx hb hts inX2 hown hK hP 0 rfl rfl 6 (by decide) (hts _ w_150) (fun _ h9 => h9) rfl dX2_lay_11 ?_
  refine lv_iconst (v := (-1)) hx hb dX2_lay_14 (by decide) ?_
  obtain ⟨z15_1, hz15_1, hf⟩ := bd_some hf
  refine cSv (rest := []) ⟨hx, hb, hml, hown, hts⟩ hE hK hP hD hS hA (c_J7_fill_53178 l D cI cJ cZ en q_t_ground 36 H.size v_t_ground (-1) hz15_1) (gs_J7_fill_53178 w_130) hd_J7_fill_53178 ⟨rfl, rfl⟩ ⟨by decide, by decide⟩ [1] rfl rfl rfl  hl rfl (Nat.le_of_ble_eq_true rfl) ⟨Nat.zero_le _, Nat.zero_le _⟩ dX2_lay_15 (fun H locs hP hD hS => ?_)
  have hP : va_P D vwCl [(q_t, .inr (2, [.int x1, .int x2, .int v_t_fade, .int v_t_laws, .int v_t_nightHours, .int v_t_nightTimes, .ref q_t_ground, .ref q_t_windows, .ref q_t_lawParts])), (q_t_ground, .inl (cI, 36, .inl z15_1)), (q_t_windows, .inl (cI, 6, .inl v_t_windows)), (q_t_lawParts, .inl (cI, 18, .inl v_t_lawParts))] H := hP
  have hD : va_D A [(q_t, .inr (2, [.int x1, .int x2, .int v_t_fade, .int v_t_laws, .int v_t_nightHours, .int v_t_nightTimes, .ref q_t_ground, .ref q_t_windows, .ref q_t_lawParts])), (q_t_ground, .inl (cI, 36, .inl z15_1)), (q_t_windows, .inl (cI, 6, .inl v_t_windows)), (q_t_lawParts, .inl (cI, 18, .inl v_t_lawParts))] := hD
  refine lv_aload_n hx hb dX2_lay_18 rfl (lv_at hl 0 rfl) ?_
  refine va_get (D := D) (ci := 2) (v := .ref q_t_windows) (C := RX2) (T := TX2) (N := 9) hx hb hts inX2 hown hK hP 0 rfl rfl 7 (by decide) (hts _ w_151) (fun _ h9 => h9) rfl dX2_lay_19 ?_
  refine lv_iconst (v := (-1)) hx hb dX2_lay_22 (by decide) ?_
  obtain ⟨z23_2, hz23_2, hf⟩ := bd_some hf
  refine cSv (rest := []) ⟨hx, hb, hml, hown, hts⟩ hE hK hP hD hS hA (c_J7_fill_53178 l D cI cJ cZ en q_t_windows 6 H.size v_t_windows (-1) hz23_2) (gs_J7_fill_53178 w_130) hd_J7_fill_53178 ⟨rfl, rfl⟩ ⟨by decide, by decide⟩ [2] rfl rfl rfl  hl rfl (Nat.le_of_ble_eq_true rfl) ⟨Nat.zero_le _, Nat.zero_le _⟩ dX2_lay_23 (fun H locs hP hD hS => ?_)
  have hP : va_P D vwCl [(q_t, .inr (2, [.int x1, .int x2, .int v_t_fade, .int v_t_laws, .int v_t_nightHours, .int v_t_nightTimes, .ref q_t_ground, .ref q_t_windows, .ref q_t_lawParts])), (q_t_ground, .inl (cI, 36, .inl z15_1)), (q_t_windows, .inl (cI, 6, .inl z23_2)), (q_t_lawParts, .inl (cI, 18, .inl v_t_lawParts))] H := hP
  have hD : va_D A [(q_t, .inr (2, [.int x1, .int x2, .int v_t_fade, .int v_t_laws, .int v_t_nightHours, .int v_t_nightTimes, .ref q_t_ground, .ref q_t_windows, .ref q_t_lawParts])), (q_t_ground, .inl (cI, 36, .inl z15_1)), (q_t_windows, .inl (cI, 6, .inl z23_2)), (q_t_lawParts, .inl (cI, 18, .inl v_t_lawParts))] := hD
  cases hf
  exact rt_v hx hb hr hlocks hK hP hS dX2_lay_26

def f_X2_putRock_J41 (rc18 : (Int32) → (Nat → Int32) → Option ((Nat → Int32) × (Nat → Int32))) (v_t_windows : Nat → Int32) (x3 : Int32) : Option ((Nat → Int32) × (Nat → Int32)) :=
  (rc18 (x3 + 1) v_t_windows)
def f_X2_putRock_L18 (v_t_ground : Nat → Int32) (x1 : Int32) : Nat → (Int32) → (Nat → Int32) → Option ((Nat → Int32) × (Nat → Int32))
  | 0, _, _ => none
  | n + 1, x3, v_t_windows => (if 6 ≤ x3 then (some (v_t_ground, v_t_windows)) else gd (ib x3 6) ((if (v_t_windows (Int32.toNatClampNeg x3)) = x1 then gd (ib x3 6) ((f_X2_putRock_J41 (f_X2_putRock_L18 v_t_ground x1 n) (upd v_t_windows (Int32.toNatClampNeg x3) (-1)) x3)) else (f_X2_putRock_J41 (f_X2_putRock_L18 v_t_ground x1 n) v_t_windows x3))))
def f_X2_putRock (v_t_columns : Int32) (v_t_rows : Int32) (v_t_ground : Nat → Int32) (v_t_windows : Nat → Int32) (x1 : Int32) (x2 : Int32) : Option ((Nat → Int32) × (Nat → Int32)) :=
  (f_X2_has v_t_columns v_t_rows x1).bind (fun z2 => (if z2 = 0 then (some (v_t_ground, v_t_windows)) else gd (ib x1 36) ((f_X2_putRock_L18 (upd v_t_ground (Int32.toNatClampNeg x1) x2) x1 FU 0 v_t_windows))))
theorem gv_X2_putRock {own : String} {idx : Nat} (h : Cond.methodLink own idx yX2_putRock ∈ lw_g) : GoodIn lw_g (wsV own idx RX2 yX2_putRock (Cond.code yX2_putRock cX2_putRock 4 none :: lw_g)) := gV h w_477 w_478 w_60 w_479
theorem hd_X2_putRock : yX2_putRock.cls = RX2 ∧ yX2_putRock.cls ≠ "java/lang/invoke/MethodHandle" ∧ yX2_putRock.cls ≠ "java/lang/invoke/VarHandle" ∧ (parseMethodDescriptor yX2_putRock.desc).map (fun d => d.parameters.length) = some 2 := by decide +kernel
set_option maxHeartbeats 4000000 in
set_option maxRecDepth 100000 in
theorem c_X2_putRock (l : Launch) (D : va_G) (cI cJ cZ : ClassId) (en : EnT) (q_t q_t_ground q_t_windows q_t_lawParts : Nat) (sz : Nat) (v_t_columns : Int32) (v_t_rows : Int32) (v_t_fade : Int32) (v_t_laws : Int32) (v_t_nightHours : Int32) (v_t_nightTimes : Int32) (v_t_ground : Nat → Int32) (v_t_windows : Nat → Int32) (v_t_lawParts : Nat → Int32) (x1 : Int32) (x2 : Int32) {z : (Nat → Int32) × (Nat → Int32)} (hf : f_X2_putRock v_t_columns v_t_rows v_t_ground v_t_windows x1 x2 = some z) : Met l yX2_putRock (Cond.code yX2_putRock cX2_putRock 4 none :: lw_g) ({ frames := 1, cells := 0, slots := 0, locals := 21 } : Room) (PC D cI cJ cZ en ([.ref q_t, .int x1, .int x2] : List Value) [(q_t, .inr (2, [.int v_t_columns, .int v_t_rows, .int v_t_fade, .int v_t_laws, .int v_t_nightHours, .int v_t_nightTimes, .ref q_t_ground, .ref q_t_windows, .ref q_t_lawParts])), (q_t_ground, .inl (cI, 36, .inl v_t_ground)), (q_t_windows, .inl (cI, 6, .inl v_t_windows)), (q_t_lawParts, .inl (cI, 18, .inl v_t_lawParts))] sz) (QV D cI cJ cZ [(q_t, .inr (2, [.int v_t_columns, .int v_t_rows, .int v_t_fade, .int v_t_laws, .int v_t_nightHours, .int v_t_nightTimes, .ref q_t_ground, .ref q_t_windows, .ref q_t_lawParts])), (q_t_ground, .inl (cI, 36, .inl z.1)), (q_t_windows, .inl (cI, 6, .inl z.2)), (q_t_lawParts, .inl (cI, 18, .inl v_t_lawParts))] (va_A [(q_t, .inr (2, [.int v_t_columns, .int v_t_rows, .int v_t_fade, .int v_t_laws, .int v_t_nightHours, .int v_t_nightTimes, .ref q_t_ground, .ref q_t_windows, .ref q_t_lawParts])), (q_t_ground, .inl (cI, 36, .inl v_t_ground)), (q_t_windows, .inl (cI, 6, .inl v_t_windows)), (q_t_lawParts, .inl (cI, 18, .inl v_t_lawParts))] sz)) 0 0 (va_A [(q_t, .inr (2, [.int v_t_columns, .int v_t_rows, .int v_t_fade, .int v_t_laws, .int v_t_nightHours, .int v_t_nightTimes, .ref q_t_ground, .ref q_t_windows, .ref q_t_lawParts])), (q_t_ground, .inl (cI, 36, .inl v_t_ground)), (q_t_windows, .inl (cI, 6, .inl v_t_windows)), (q_t_lawParts, .inl (cI, 18, .inl v_t_lawParts))] sz) := by
  refine mk_met (Qc := fun A => (QV D cI cJ cZ [(q_t, .inr (2, [.int v_t_columns, .int v_t_rows, .int v_t_fade, .int v_t_laws, .int v_t_nightHours, .int v_t_nightTimes, .ref q_t_ground, .ref q_t_windows, .ref q_t_lawParts])), (q_t_ground, .inl (cI, 36, .inl z.1)), (q_t_windows, .inl (cI, 6, .inl z.2)), (q_t_lawParts, .inl (cI, 18, .inl v_t_lawParts))] A)) RX2 (by decide) rfl (Nat.le_of_ble_eq_true rfl) ?_
  intro p e s m below meth c ls A hx hb hr hml hown hts hlocks hA hK hE hl hD H locs hP hS
  have hl : lv_has ls 4 [(0, .ref q_t), (1, .int x1), (2, .int x2)] := hl
  unfold f_X2_putRock at hf
  refine lv_aload_n hx hb dX2_putRock_0 rfl (lv_at hl 0 rfl) ?_
  refine lv_iload_n hx hb dX2_putRock_1 rfl (lv_at hl 1 rfl) ?_
  obtain ⟨z2_1, hz2_1, hf⟩ := bd_some hf
  refine cVi (rest := []) ⟨hx, hb, hml, hown, hts⟩ hE hK hP hD hS hA (c_X2_has l D cI cJ cZ en q_t q_t_ground q_t_windows q_t_lawParts H.size v_t_columns v_t_rows v_t_fade v_t_laws v_t_nightHours v_t_nightTimes v_t_ground v_t_windows v_t_lawParts x1 hz2_1) (gv_X2_has w_464) hd_X2_has ⟨rfl, rfl⟩ ⟨by decide, by decide⟩ [0, 1, 2, 3] rfl rfl rfl 2 rfl rfl 0 rfl  hl rfl (Nat.le_of_ble_eq_true rfl) ⟨Nat.zero_le _, Nat.zero_le _⟩ dX2_putRock_2 (fun H locs hP hD hS => ?_)
  have hP : va_P D vwCl [(q_t, .inr (2, [.int v_t_columns, .int v_t_rows, .int v_t_fade, .int v_t_laws, .int v_t_nightHours, .int v_t_nightTimes, .ref q_t_ground, .ref q_t_windows, .ref q_t_lawParts])), (q_t_ground, .inl (cI, 36, .inl v_t_ground)), (q_t_windows, .inl (cI, 6, .inl v_t_windows)), (q_t_lawParts, .inl (cI, 18, .inl v_t_lawParts))] H := hP
  have hD : va_D A [(q_t, .inr (2, [.int v_t_columns, .int v_t_rows, .int v_t_fade, .int v_t_laws, .int v_t_nightHours, .int v_t_nightTimes, .ref q_t_ground, .ref q_t_windows, .ref q_t_lawParts])), (q_t_ground, .inl (cI, 36, .inl v_t_ground)), (q_t_windows, .inl (cI, 6, .inl v_t_windows)), (q_t_lawParts, .inl (cI, 18, .inl v_t_lawParts))] := hD
  refine lv_if_ne (tgt := 9) hx hb dX2_putRock_5 (by decide) (fun h_2 => ?_) (fun h_2 => ?_)
  · have hf := (if_neg h_2).symm.trans hf
    refine lv_aload_n hx hb dX2_putRock_9 rfl (lv_at hl 0 rfl) ?_
    refine va_get (D := D) (ci := 2) (v := .ref q_t_ground) (C := RX2) (T := TX2) (N := 9) hx hb hts inX2 hown hK hP 0 rfl rfl 6 (by decide) (hts _ w_150) (fun _ h9 => h9) rfl dX2_putRock_10 ?_
    refine lv_iload_n hx hb dX2_putRock_13 rfl (lv_at hl 1 rfl) ?_
    refine lv_iload_n hx hb dX2_putRock_14 rfl (lv_at hl 2 rfl) ?_
    obtain ⟨hin, hf⟩ := gd_some hf
    refine va_iast hx hb hK hP hD hS 1 0 rfl rfl hin dX2_putRock_15 (fun H locs hP hD hS => ?_)
    have hP : va_P D vwCl [(q_t, .inr (2, [.int v_t_columns, .int v_t_rows, .int v_t_fade, .int v_t_laws, .int v_t_nightHours, .int v_t_nightTimes, .ref q_t_ground, .ref q_t_windows, .ref q_t_lawParts])), (q_t_ground, .inl (cI, 36, .inl (upd v_t_ground (Int32.toNatClampNeg x1) x2))), (q_t_windows, .inl (cI, 6, .inl v_t_windows)), (q_t_lawParts, .inl (cI, 18, .inl v_t_lawParts))] H := hP
    have hD : va_D A [(q_t, .inr (2, [.int v_t_columns, .int v_t_rows, .int v_t_fade, .int v_t_laws, .int v_t_nightHours, .int v_t_nightTimes, .ref q_t_ground, .ref q_t_windows, .ref q_t_lawParts])), (q_t_ground, .inl (cI, 36, .inl (upd v_t_ground (Int32.toNatClampNeg x1) x2))), (q_t_windows, .inl (cI, 6, .inl v_t_windows)), (q_t_lawParts, .inl (cI, 18, .inl v_t_lawParts))] := hD
    refine lv_iconst (v := 0) hx hb dX2_putRock_16 (by decide) ?_
    refine lv_istore_n (lv' := [(3, .int 0), (0, .ref q_t), (1, .int x1), (2, .int x2)]) hx hb dX2_putRock_17 rfl hl (by decide) rfl (fun ls hl => ?_)
    have L18_5 : ∀ (n : Nat) (x3_3 : Int32) (v_t_windows_4 : Nat → Int32), f_X2_putRock_L18 (upd v_t_ground (Int32.toNatClampNeg x1) x2) x1 n x3_3 v_t_windows_4 = some z → ∀ (H : Heap) (locs : List Loc) (ls : Array Slot), va_P D vwCl [(q_t, .inr (2, [.int v_t_columns, .int v_t_rows, .int v_t_fade, .int v_t_laws, .int v_t_nightHours, .int v_t_nightTimes, .ref q_t_ground, .ref q_t_windows, .ref q_t_lawParts])), (q_t_ground, .inl (cI, 36, .inl (upd v_t_ground (Int32.toNatClampNeg x1) x2))), (q_t_windows, .inl (cI, 6, .inl v_t_windows_4)), (q_t_lawParts, .inl (cI, 18, .inl v_t_lawParts))] H → va_D A [(q_t, .inr (2, [.int v_t_columns, .int v_t_rows, .int v_t_fade, .int v_t_laws, .int v_t_nightHours, .int v_t_nightTimes, .ref q_t_ground, .ref q_t_windows, .ref q_t_lawParts])), (q_t_ground, .inl (cI, 36, .inl (upd v_t_ground (Int32.toNatClampNeg x1) x2))), (q_t_windows, .inl (cI, 6, .inl v_t_windows_4)), (q_t_lawParts, .inl (cI, 18, .inl v_t_lawParts))] → va_S A s.heap H locs → lv_has ls 4 [(0, .ref q_t), (1, .int x1), (3, .int x3_3)] → W p l e ({ frames := 1, cells := 0, slots := 0, locals := 21 } : Room) s m ([.ref q_t, .int x1, .int x2] : List Value).toArray below meth c H locs 0 0 (MQ below (QV D cI cJ cZ [(q_t, .inr (2, [.int v_t_columns, .int v_t_rows, .int v_t_fade, .int v_t_laws, .int v_t_nightHours, .int v_t_nightTimes, .ref q_t_ground, .ref q_t_windows, .ref q_t_lawParts])), (q_t_ground, .inl (cI, 36, .inl z.1)), (q_t_windows, .inl (cI, 6, .inl z.2)), (q_t_lawParts, .inl (cI, 18, .inl v_t_lawParts))] A) ([.ref q_t, .int x1, .int x2] : List Value).toArray s 0 0 A) (F0 m 18 ls []) := by
      intro n
      induction n with
      | zero =>
        intro x3_3 v_t_windows_4 hf
        cases hf
      | succ n ih_6 =>
        intro x3_3 v_t_windows_4 hf H locs ls hP hD hS hl
        rw [f_X2_putRock_L18] at hf
        refine lv_iload_n hx hb dX2_putRock_18 rfl (lv_at hl 2 rfl) ?_
        refine lv_bipush (v := 6) hx hb dX2_putRock_19 (by decide) ?_
        refine lv_icmp_ge (tgt := 47) hx hb dX2_putRock_21 (by decide) (fun h_7 => ?_) (fun h_7 => ?_)
        · have hf := (if_pos h_7).symm.trans hf
          cases hf
          exact rt_v hx hb hr hlocks hK hP hS dX2_putRock_47
        · have hf := (if_neg h_7).symm.trans hf
          refine lv_aload_n hx hb dX2_putRock_24 rfl (lv_at hl 0 rfl) ?_
          refine va_get (D := D) (ci := 2) (v := .ref q_t_windows) (C := RX2) (T := TX2) (N := 9) hx hb hts inX2 hown hK hP 0 rfl rfl 7 (by decide) (hts _ w_151) (fun _ h9 => h9) rfl dX2_putRock_25 ?_
          refine lv_iload_n hx hb dX2_putRock_28 rfl (lv_at hl 2 rfl) ?_
          obtain ⟨hin, hf⟩ := gd_some hf
          refine va_iald hx hb hK hP 2 0 rfl rfl hin dX2_putRock_29 ?_
          refine lv_iload_n hx hb dX2_putRock_30 rfl (lv_at hl 1 rfl) ?_
          have J41_9 : ∀ (v_t_windows_8 : Nat → Int32), f_X2_putRock_J41 (f_X2_putRock_L18 (upd v_t_ground (Int32.toNatClampNeg x1) x2) x1 n) v_t_windows_8 x3_3 = some z → ∀ (H : Heap) (locs : List Loc) (ls : Array Slot), va_P D vwCl [(q_t, .inr (2, [.int v_t_columns, .int v_t_rows, .int v_t_fade, .int v_t_laws, .int v_t_nightHours, .int v_t_nightTimes, .ref q_t_ground, .ref q_t_windows, .ref q_t_lawParts])), (q_t_ground, .inl (cI, 36, .inl (upd v_t_ground (Int32.toNatClampNeg x1) x2))), (q_t_windows, .inl (cI, 6, .inl v_t_windows_8)), (q_t_lawParts, .inl (cI, 18, .inl v_t_lawParts))] H → va_D A [(q_t, .inr (2, [.int v_t_columns, .int v_t_rows, .int v_t_fade, .int v_t_laws, .int v_t_nightHours, .int v_t_nightTimes, .ref q_t_ground, .ref q_t_windows, .ref q_t_lawParts])), (q_t_ground, .inl (cI, 36, .inl (upd v_t_ground (Int32.toNatClampNeg x1) x2))), (q_t_windows, .inl (cI, 6, .inl v_t_windows_8)), (q_t_lawParts, .inl (cI, 18, .inl v_t_lawParts))] → va_S A s.heap H locs → lv_has ls 4 [(0, .ref q_t), (1, .int x1), (3, .int x3_3)] → W p l e ({ frames := 1, cells := 0, slots := 0, locals := 21 } : Room) s m ([.ref q_t, .int x1, .int x2] : List Value).toArray below meth c H locs 0 0 (MQ below (QV D cI cJ cZ [(q_t, .inr (2, [.int v_t_columns, .int v_t_rows, .int v_t_fade, .int v_t_laws, .int v_t_nightHours, .int v_t_nightTimes, .ref q_t_ground, .ref q_t_windows, .ref q_t_lawParts])), (q_t_ground, .inl (cI, 36, .inl z.1)), (q_t_windows, .inl (cI, 6, .inl z.2)), (q_t_lawParts, .inl (cI, 18, .inl v_t_lawParts))] A) ([.ref q_t, .int x1, .int x2] : List Value).toArray s 0 0 A) (F0 m 41 ls []) := by
            intro v_t_windows_8 hf H locs ls hP hD hS hl
            unfold f_X2_putRock_J41 at hf
            refine lv_iinc (v := (x3_3 + 1)) (lv' := [(3, .int (x3_3 + 1)), (0, .ref q_t), (1, .int x1)]) hx hb dX2_putRock_41 hl (k := 2) rfl rfl (by decide) rfl (fun ls hl => ?_)
            refine lv_goto (tgt := 18) hx hb dX2_putRock_44 (by decide) ?_
            exact ih_6 (x3_3 + 1) v_t_windows_8 hf _ _ _ hP hD hS (lv_sub hl [1, 2, 0] rfl)
          refine lv_icmp_ne (tgt := 41) hx hb dX2_putRock_31 (by decide) (fun h_10 => ?_) (fun h_10 => ?_)
          · have hf := (if_neg h_10).symm.trans hf
            exact J41_9 v_t_windows_4 hf _ _ _ hP hD hS (lv_sub hl [0, 1, 2] rfl)
          · have hf := (if_pos h_10).symm.trans hf
            refine lv_aload_n hx hb dX2_putRock_34 rfl (lv_at hl 0 rfl) ?_
            refine va_get (D := D) (ci := 2) (v := .ref q_t_windows) (C := RX2) (T := TX2) (N := 9) hx hb hts inX2 hown hK hP 0 rfl rfl 7 (by decide) (hts _ w_151) (fun _ h9 => h9) rfl dX2_putRock_35 ?_
            refine lv_iload_n hx hb dX2_putRock_38 rfl (lv_at hl 2 rfl) ?_
            refine lv_iconst (v := (-1)) hx hb dX2_putRock_39 (by decide) ?_
            obtain ⟨hin, hf⟩ := gd_some hf
            refine va_iast hx hb hK hP hD hS 2 0 rfl rfl hin dX2_putRock_40 (fun H locs hP hD hS => ?_)
            have hP : va_P D vwCl [(q_t, .inr (2, [.int v_t_columns, .int v_t_rows, .int v_t_fade, .int v_t_laws, .int v_t_nightHours, .int v_t_nightTimes, .ref q_t_ground, .ref q_t_windows, .ref q_t_lawParts])), (q_t_ground, .inl (cI, 36, .inl (upd v_t_ground (Int32.toNatClampNeg x1) x2))), (q_t_windows, .inl (cI, 6, .inl (upd v_t_windows_4 (Int32.toNatClampNeg x3_3) (-1)))), (q_t_lawParts, .inl (cI, 18, .inl v_t_lawParts))] H := hP
            have hD : va_D A [(q_t, .inr (2, [.int v_t_columns, .int v_t_rows, .int v_t_fade, .int v_t_laws, .int v_t_nightHours, .int v_t_nightTimes, .ref q_t_ground, .ref q_t_windows, .ref q_t_lawParts])), (q_t_ground, .inl (cI, 36, .inl (upd v_t_ground (Int32.toNatClampNeg x1) x2))), (q_t_windows, .inl (cI, 6, .inl (upd v_t_windows_4 (Int32.toNatClampNeg x3_3) (-1)))), (q_t_lawParts, .inl (cI, 18, .inl v_t_lawParts))] := hD
            exact J41_9 (upd v_t_windows_4 (Int32.toNatClampNeg x3_3) (-1)) hf _ _ _ hP hD hS (lv_sub hl [0, 1, 2] rfl)
    exact L18_5 FU 0 v_t_windows hf _ _ _ hP hD hS (lv_sub hl [1, 2, 0] rfl)
  · have hf := (if_pos h_2).symm.trans hf
    cases hf
    exact rt_v hx hb hr hlocks hK hP hS dX2_putRock_8

def f_X2_putFloor (v_t_columns : Int32) (v_t_rows : Int32) (v_t_ground : Nat → Int32) (x1 : Int32) : Option ((Nat → Int32)) :=
  (f_X2_has v_t_columns v_t_rows x1).bind (fun z2 => (if z2 = 0 then (some v_t_ground) else gd (ib x1 36) ((some (upd v_t_ground (Int32.toNatClampNeg x1) (-1))))))
theorem gv_X2_putFloor {own : String} {idx : Nat} (h : Cond.methodLink own idx yX2_putFloor ∈ lw_g) : GoodIn lw_g (wsV own idx RX2 yX2_putFloor (Cond.code yX2_putFloor cX2_putFloor 2 none :: lw_g)) := gV h w_481 w_482 w_60 w_483
theorem hd_X2_putFloor : yX2_putFloor.cls = RX2 ∧ yX2_putFloor.cls ≠ "java/lang/invoke/MethodHandle" ∧ yX2_putFloor.cls ≠ "java/lang/invoke/VarHandle" ∧ (parseMethodDescriptor yX2_putFloor.desc).map (fun d => d.parameters.length) = some 1 := by decide +kernel
set_option maxHeartbeats 4000000 in
set_option maxRecDepth 100000 in
theorem c_X2_putFloor (l : Launch) (D : va_G) (cI cJ cZ : ClassId) (en : EnT) (q_t q_t_ground q_t_windows q_t_lawParts : Nat) (sz : Nat) (v_t_columns : Int32) (v_t_rows : Int32) (v_t_fade : Int32) (v_t_laws : Int32) (v_t_nightHours : Int32) (v_t_nightTimes : Int32) (v_t_ground : Nat → Int32) (v_t_windows : Nat → Int32) (v_t_lawParts : Nat → Int32) (x1 : Int32) {z : (Nat → Int32)} (hf : f_X2_putFloor v_t_columns v_t_rows v_t_ground x1 = some z) : Met l yX2_putFloor (Cond.code yX2_putFloor cX2_putFloor 2 none :: lw_g) ({ frames := 1, cells := 0, slots := 0, locals := 21 } : Room) (PC D cI cJ cZ en ([.ref q_t, .int x1] : List Value) [(q_t, .inr (2, [.int v_t_columns, .int v_t_rows, .int v_t_fade, .int v_t_laws, .int v_t_nightHours, .int v_t_nightTimes, .ref q_t_ground, .ref q_t_windows, .ref q_t_lawParts])), (q_t_ground, .inl (cI, 36, .inl v_t_ground)), (q_t_windows, .inl (cI, 6, .inl v_t_windows)), (q_t_lawParts, .inl (cI, 18, .inl v_t_lawParts))] sz) (QV D cI cJ cZ [(q_t, .inr (2, [.int v_t_columns, .int v_t_rows, .int v_t_fade, .int v_t_laws, .int v_t_nightHours, .int v_t_nightTimes, .ref q_t_ground, .ref q_t_windows, .ref q_t_lawParts])), (q_t_ground, .inl (cI, 36, .inl z)), (q_t_windows, .inl (cI, 6, .inl v_t_windows)), (q_t_lawParts, .inl (cI, 18, .inl v_t_lawParts))] (va_A [(q_t, .inr (2, [.int v_t_columns, .int v_t_rows, .int v_t_fade, .int v_t_laws, .int v_t_nightHours, .int v_t_nightTimes, .ref q_t_ground, .ref q_t_windows, .ref q_t_lawParts])), (q_t_ground, .inl (cI, 36, .inl v_t_ground)), (q_t_windows, .inl (cI, 6, .inl v_t_windows)), (q_t_lawParts, .inl (cI, 18, .inl v_t_lawParts))] sz)) 0 0 (va_A [(q_t, .inr (2, [.int v_t_columns, .int v_t_rows, .int v_t_fade, .int v_t_laws, .int v_t_nightHours, .int v_t_nightTimes, .ref q_t_ground, .ref q_t_windows, .ref q_t_lawParts])), (q_t_ground, .inl (cI, 36, .inl v_t_ground)), (q_t_windows, .inl (cI, 6, .inl v_t_windows)), (q_t_lawParts, .inl (cI, 18, .inl v_t_lawParts))] sz) := by
  refine mk_met (Qc := fun A => (QV D cI cJ cZ [(q_t, .inr (2, [.int v_t_columns, .int v_t_rows, .int v_t_fade, .int v_t_laws, .int v_t_nightHours, .int v_t_nightTimes, .ref q_t_ground, .ref q_t_windows, .ref q_t_lawParts])), (q_t_ground, .inl (cI, 36, .inl z)), (q_t_windows, .inl (cI, 6, .inl v_t_windows)), (q_t_lawParts, .inl (cI, 18, .inl v_t_lawParts))] A)) RX2 (by decide) rfl (Nat.le_of_ble_eq_true rfl) ?_
  intro p e s m below meth c ls A hx hb hr hml hown hts hlocks hA hK hE hl hD H locs hP hS
  have hl : lv_has ls 2 [(0, .ref q_t), (1, .int x1)] := hl
  unfold f_X2_putFloor at hf
  refine lv_aload_n hx hb dX2_putFloor_0 rfl (lv_at hl 0 rfl) ?_
  refine lv_iload_n hx hb dX2_putFloor_1 rfl (lv_at hl 1 rfl) ?_
  obtain ⟨z2_1, hz2_1, hf⟩ := bd_some hf
  refine cVi (rest := []) ⟨hx, hb, hml, hown, hts⟩ hE hK hP hD hS hA (c_X2_has l D cI cJ cZ en q_t q_t_ground q_t_windows q_t_lawParts H.size v_t_columns v_t_rows v_t_fade v_t_laws v_t_nightHours v_t_nightTimes v_t_ground v_t_windows v_t_lawParts x1 hz2_1) (gv_X2_has w_464) hd_X2_has ⟨rfl, rfl⟩ ⟨by decide, by decide⟩ [0, 1, 2, 3] rfl rfl rfl 2 rfl rfl 0 rfl  hl rfl (Nat.le_of_ble_eq_true rfl) ⟨Nat.zero_le _, Nat.zero_le _⟩ dX2_putFloor_2 (fun H locs hP hD hS => ?_)
  have hP : va_P D vwCl [(q_t, .inr (2, [.int v_t_columns, .int v_t_rows, .int v_t_fade, .int v_t_laws, .int v_t_nightHours, .int v_t_nightTimes, .ref q_t_ground, .ref q_t_windows, .ref q_t_lawParts])), (q_t_ground, .inl (cI, 36, .inl v_t_ground)), (q_t_windows, .inl (cI, 6, .inl v_t_windows)), (q_t_lawParts, .inl (cI, 18, .inl v_t_lawParts))] H := hP
  have hD : va_D A [(q_t, .inr (2, [.int v_t_columns, .int v_t_rows, .int v_t_fade, .int v_t_laws, .int v_t_nightHours, .int v_t_nightTimes, .ref q_t_ground, .ref q_t_windows, .ref q_t_lawParts])), (q_t_ground, .inl (cI, 36, .inl v_t_ground)), (q_t_windows, .inl (cI, 6, .inl v_t_windows)), (q_t_lawParts, .inl (cI, 18, .inl v_t_lawParts))] := hD
  refine lv_if_eq (tgt := 15) hx hb dX2_putFloor_5 (by decide) (fun h_2 => ?_) (fun h_2 => ?_)
  · have hf := (if_pos h_2).symm.trans hf
    cases hf
    exact rt_v hx hb hr hlocks hK hP hS dX2_putFloor_15
  · have hf := (if_neg h_2).symm.trans hf
    refine lv_aload_n hx hb dX2_putFloor_8 rfl (lv_at hl 0 rfl) ?_
    refine va_get (D := D) (ci := 2) (v := .ref q_t_ground) (C := RX2) (T := TX2) (N := 9) hx hb hts inX2 hown hK hP 0 rfl rfl 6 (by decide) (hts _ w_150) (fun _ h9 => h9) rfl dX2_putFloor_9 ?_
    refine lv_iload_n hx hb dX2_putFloor_12 rfl (lv_at hl 1 rfl) ?_
    refine lv_iconst (v := (-1)) hx hb dX2_putFloor_13 (by decide) ?_
    obtain ⟨hin, hf⟩ := gd_some hf
    refine va_iast hx hb hK hP hD hS 1 0 rfl rfl hin dX2_putFloor_14 (fun H locs hP hD hS => ?_)
    have hP : va_P D vwCl [(q_t, .inr (2, [.int v_t_columns, .int v_t_rows, .int v_t_fade, .int v_t_laws, .int v_t_nightHours, .int v_t_nightTimes, .ref q_t_ground, .ref q_t_windows, .ref q_t_lawParts])), (q_t_ground, .inl (cI, 36, .inl (upd v_t_ground (Int32.toNatClampNeg x1) (-1)))), (q_t_windows, .inl (cI, 6, .inl v_t_windows)), (q_t_lawParts, .inl (cI, 18, .inl v_t_lawParts))] H := hP
    have hD : va_D A [(q_t, .inr (2, [.int v_t_columns, .int v_t_rows, .int v_t_fade, .int v_t_laws, .int v_t_nightHours, .int v_t_nightTimes, .ref q_t_ground, .ref q_t_windows, .ref q_t_lawParts])), (q_t_ground, .inl (cI, 36, .inl (upd v_t_ground (Int32.toNatClampNeg x1) (-1)))), (q_t_windows, .inl (cI, 6, .inl v_t_windows)), (q_t_lawParts, .inl (cI, 18, .inl v_t_lawParts))] := hD
    cases hf
    exact rt_v hx hb hr hlocks hK hP hS dX2_putFloor_15

def f_X2_flip (v_t_columns : Int32) (v_t_rows : Int32) (v_t_ground : Nat → Int32) (v_t_windows : Nat → Int32) (x1 : Int32) : Option ((Nat → Int32) × (Nat → Int32)) :=
  (f_X2_isRock v_t_columns v_t_rows v_t_ground x1).bind (fun z2 => (if z2 = 0 then (f_X2_putRock v_t_columns v_t_rows v_t_ground v_t_windows x1 0).bind (fun z19 => (some (z19.1, z19.2))) else (f_X2_putFloor v_t_columns v_t_rows v_t_ground x1).bind (fun z10 => (some (z10, v_t_windows)))))
theorem gv_X2_flip {own : String} {idx : Nat} (h : Cond.methodLink own idx yX2_flip ∈ lw_g) : GoodIn lw_g (wsV own idx RX2 yX2_flip (Cond.code yX2_flip cX2_flip 2 none :: lw_g)) := gV h w_758 w_759 w_60 w_760
theorem hd_X2_flip : yX2_flip.cls = RX2 ∧ yX2_flip.cls ≠ "java/lang/invoke/MethodHandle" ∧ yX2_flip.cls ≠ "java/lang/invoke/VarHandle" ∧ (parseMethodDescriptor yX2_flip.desc).map (fun d => d.parameters.length) = some 1 := by decide +kernel
set_option maxHeartbeats 4000000 in
set_option maxRecDepth 100000 in
theorem c_X2_flip (l : Launch) (D : va_G) (cI cJ cZ : ClassId) (en : EnT) (q_t q_t_ground q_t_windows q_t_lawParts : Nat) (sz : Nat) (v_t_columns : Int32) (v_t_rows : Int32) (v_t_fade : Int32) (v_t_laws : Int32) (v_t_nightHours : Int32) (v_t_nightTimes : Int32) (v_t_ground : Nat → Int32) (v_t_windows : Nat → Int32) (v_t_lawParts : Nat → Int32) (x1 : Int32) {z : (Nat → Int32) × (Nat → Int32)} (hf : f_X2_flip v_t_columns v_t_rows v_t_ground v_t_windows x1 = some z) : Met l yX2_flip (Cond.code yX2_flip cX2_flip 2 none :: lw_g) ({ frames := 2, cells := 0, slots := 0, locals := 44 } : Room) (PC D cI cJ cZ en ([.ref q_t, .int x1] : List Value) [(q_t, .inr (2, [.int v_t_columns, .int v_t_rows, .int v_t_fade, .int v_t_laws, .int v_t_nightHours, .int v_t_nightTimes, .ref q_t_ground, .ref q_t_windows, .ref q_t_lawParts])), (q_t_ground, .inl (cI, 36, .inl v_t_ground)), (q_t_windows, .inl (cI, 6, .inl v_t_windows)), (q_t_lawParts, .inl (cI, 18, .inl v_t_lawParts))] sz) (QV D cI cJ cZ [(q_t, .inr (2, [.int v_t_columns, .int v_t_rows, .int v_t_fade, .int v_t_laws, .int v_t_nightHours, .int v_t_nightTimes, .ref q_t_ground, .ref q_t_windows, .ref q_t_lawParts])), (q_t_ground, .inl (cI, 36, .inl z.1)), (q_t_windows, .inl (cI, 6, .inl z.2)), (q_t_lawParts, .inl (cI, 18, .inl v_t_lawParts))] (va_A [(q_t, .inr (2, [.int v_t_columns, .int v_t_rows, .int v_t_fade, .int v_t_laws, .int v_t_nightHours, .int v_t_nightTimes, .ref q_t_ground, .ref q_t_windows, .ref q_t_lawParts])), (q_t_ground, .inl (cI, 36, .inl v_t_ground)), (q_t_windows, .inl (cI, 6, .inl v_t_windows)), (q_t_lawParts, .inl (cI, 18, .inl v_t_lawParts))] sz)) 0 0 (va_A [(q_t, .inr (2, [.int v_t_columns, .int v_t_rows, .int v_t_fade, .int v_t_laws, .int v_t_nightHours, .int v_t_nightTimes, .ref q_t_ground, .ref q_t_windows, .ref q_t_lawParts])), (q_t_ground, .inl (cI, 36, .inl v_t_ground)), (q_t_windows, .inl (cI, 6, .inl v_t_windows)), (q_t_lawParts, .inl (cI, 18, .inl v_t_lawParts))] sz) := by
  refine mk_met (Qc := fun A => (QV D cI cJ cZ [(q_t, .inr (2, [.int v_t_columns, .int v_t_rows, .int v_t_fade, .int v_t_laws, .int v_t_nightHours, .int v_t_nightTimes, .ref q_t_ground, .ref q_t_windows, .ref q_t_lawParts])), (q_t_ground, .inl (cI, 36, .inl z.1)), (q_t_windows, .inl (cI, 6, .inl z.2)), (q_t_lawParts, .inl (cI, 18, .inl v_t_lawParts))] A)) RX2 (by decide) rfl (Nat.le_of_ble_eq_true rfl) ?_
  intro p e s m below meth c ls A hx hb hr hml hown hts hlocks hA hK hE hl hD H locs hP hS
  have hl : lv_has ls 2 [(0, .ref q_t), (1, .int x1)] := hl
  unfold f_X2_flip at hf
  refine lv_aload_n hx hb dX2_flip_0 rfl (lv_at hl 0 rfl) ?_
  refine lv_iload_n hx hb dX2_flip_1 rfl (lv_at hl 1 rfl) ?_
  obtain ⟨z2_1, hz2_1, hf⟩ := bd_some hf
  refine cVi (rest := []) ⟨hx, hb, hml, hown, hts⟩ hE hK hP hD hS hA (c_X2_isRock l D cI cJ cZ en q_t q_t_ground q_t_windows q_t_lawParts H.size v_t_columns v_t_rows v_t_fade v_t_laws v_t_nightHours v_t_nightTimes v_t_ground v_t_windows v_t_lawParts x1 hz2_1) (gv_X2_isRock w_623) hd_X2_isRock ⟨rfl, rfl⟩ ⟨by decide, by decide⟩ [0, 1, 2, 3] rfl rfl rfl 2 rfl rfl 0 rfl  hl rfl (Nat.le_of_ble_eq_true rfl) ⟨Nat.zero_le _, Nat.zero_le _⟩ dX2_flip_2 (fun H locs hP hD hS => ?_)
  have hP : va_P D vwCl [(q_t, .inr (2, [.int v_t_columns, .int v_t_rows, .int v_t_fade, .int v_t_laws, .int v_t_nightHours, .int v_t_nightTimes, .ref q_t_ground, .ref q_t_windows, .ref q_t_lawParts])), (q_t_ground, .inl (cI, 36, .inl v_t_ground)), (q_t_windows, .inl (cI, 6, .inl v_t_windows)), (q_t_lawParts, .inl (cI, 18, .inl v_t_lawParts))] H := hP
  have hD : va_D A [(q_t, .inr (2, [.int v_t_columns, .int v_t_rows, .int v_t_fade, .int v_t_laws, .int v_t_nightHours, .int v_t_nightTimes, .ref q_t_ground, .ref q_t_windows, .ref q_t_lawParts])), (q_t_ground, .inl (cI, 36, .inl v_t_ground)), (q_t_windows, .inl (cI, 6, .inl v_t_windows)), (q_t_lawParts, .inl (cI, 18, .inl v_t_lawParts))] := hD
  refine lv_if_eq (tgt := 16) hx hb dX2_flip_5 (by decide) (fun h_2 => ?_) (fun h_2 => ?_)
  · have hf := (if_pos h_2).symm.trans hf
    refine lv_aload_n hx hb dX2_flip_16 rfl (lv_at hl 0 rfl) ?_
    refine lv_iload_n hx hb dX2_flip_17 rfl (lv_at hl 1 rfl) ?_
    refine lv_iconst (v := 0) hx hb dX2_flip_18 (by decide) ?_
    obtain ⟨z19_3, hz19_3, hf⟩ := bd_some hf
    refine cVv (rest := []) ⟨hx, hb, hml, hown, hts⟩ hE hK hP hD hS hA (c_X2_putRock l D cI cJ cZ en q_t q_t_ground q_t_windows q_t_lawParts H.size v_t_columns v_t_rows v_t_fade v_t_laws v_t_nightHours v_t_nightTimes v_t_ground v_t_windows v_t_lawParts x1 0 hz19_3) (gv_X2_putRock w_762) hd_X2_putRock ⟨rfl, rfl⟩ ⟨by decide, by decide⟩ [0, 1, 2, 3] rfl rfl rfl 2 rfl rfl 0 rfl  hl rfl (Nat.le_of_ble_eq_true rfl) ⟨Nat.zero_le _, Nat.zero_le _⟩ dX2_flip_19 (fun H locs hP hD hS => ?_)
    have hP : va_P D vwCl [(q_t, .inr (2, [.int v_t_columns, .int v_t_rows, .int v_t_fade, .int v_t_laws, .int v_t_nightHours, .int v_t_nightTimes, .ref q_t_ground, .ref q_t_windows, .ref q_t_lawParts])), (q_t_ground, .inl (cI, 36, .inl z19_3.1)), (q_t_windows, .inl (cI, 6, .inl z19_3.2)), (q_t_lawParts, .inl (cI, 18, .inl v_t_lawParts))] H := hP
    have hD : va_D A [(q_t, .inr (2, [.int v_t_columns, .int v_t_rows, .int v_t_fade, .int v_t_laws, .int v_t_nightHours, .int v_t_nightTimes, .ref q_t_ground, .ref q_t_windows, .ref q_t_lawParts])), (q_t_ground, .inl (cI, 36, .inl z19_3.1)), (q_t_windows, .inl (cI, 6, .inl z19_3.2)), (q_t_lawParts, .inl (cI, 18, .inl v_t_lawParts))] := hD
    cases hf
    exact rt_v hx hb hr hlocks hK hP hS dX2_flip_22
  · have hf := (if_neg h_2).symm.trans hf
    refine lv_aload_n hx hb dX2_flip_8 rfl (lv_at hl 0 rfl) ?_
    refine lv_iload_n hx hb dX2_flip_9 rfl (lv_at hl 1 rfl) ?_
    obtain ⟨z10_4, hz10_4, hf⟩ := bd_some hf
    refine cVv (rest := []) ⟨hx, hb, hml, hown, hts⟩ hE hK hP hD hS hA (c_X2_putFloor l D cI cJ cZ en q_t q_t_ground q_t_windows q_t_lawParts H.size v_t_columns v_t_rows v_t_fade v_t_laws v_t_nightHours v_t_nightTimes v_t_ground v_t_windows v_t_lawParts x1 hz10_4) (gv_X2_putFloor w_761) hd_X2_putFloor ⟨rfl, rfl⟩ ⟨by decide, by decide⟩ [0, 1, 2, 3] rfl rfl rfl 2 rfl rfl 0 rfl  hl rfl (Nat.le_of_ble_eq_true rfl) ⟨Nat.zero_le _, Nat.zero_le _⟩ dX2_flip_10 (fun H locs hP hD hS => ?_)
    have hP : va_P D vwCl [(q_t, .inr (2, [.int v_t_columns, .int v_t_rows, .int v_t_fade, .int v_t_laws, .int v_t_nightHours, .int v_t_nightTimes, .ref q_t_ground, .ref q_t_windows, .ref q_t_lawParts])), (q_t_ground, .inl (cI, 36, .inl z10_4)), (q_t_windows, .inl (cI, 6, .inl v_t_windows)), (q_t_lawParts, .inl (cI, 18, .inl v_t_lawParts))] H := hP
    have hD : va_D A [(q_t, .inr (2, [.int v_t_columns, .int v_t_rows, .int v_t_fade, .int v_t_laws, .int v_t_nightHours, .int v_t_nightTimes, .ref q_t_ground, .ref q_t_windows, .ref q_t_lawParts])), (q_t_ground, .inl (cI, 36, .inl z10_4)), (q_t_windows, .inl (cI, 6, .inl v_t_windows)), (q_t_lawParts, .inl (cI, 18, .inl v_t_lawParts))] := hD
    refine lv_goto (tgt := 22) hx hb dX2_flip_13 (by decide) ?_
    cases hf
    exact rt_v hx hb hr hlocks hK hP hS dX2_flip_22

def f_X2_place (v_t_windows : Nat → Int32) (x1 : Int32) (x2 : Int32) : Option ((Nat → Int32)) :=
  (f_X9_isPerson x1).bind (fun z1 => (if z1 = 0 then (some v_t_windows) else gd (ib x1 6) ((some (upd v_t_windows (Int32.toNatClampNeg x1) x2)))))
theorem gv_X2_place {own : String} {idx : Nat} (h : Cond.methodLink own idx yX2_place ∈ lw_g) : GoodIn lw_g (wsV own idx RX2 yX2_place (Cond.code yX2_place cX2_place 3 none :: lw_g)) := gV h w_485 w_486 w_60 w_487
theorem hd_X2_place : yX2_place.cls = RX2 ∧ yX2_place.cls ≠ "java/lang/invoke/MethodHandle" ∧ yX2_place.cls ≠ "java/lang/invoke/VarHandle" ∧ (parseMethodDescriptor yX2_place.desc).map (fun d => d.parameters.length) = some 2 := by decide +kernel
set_option maxHeartbeats 4000000 in
set_option maxRecDepth 100000 in
theorem c_X2_place (l : Launch) (D : va_G) (cI cJ cZ : ClassId) (en : EnT) (q_t q_t_ground q_t_windows q_t_lawParts : Nat) (sz : Nat) (v_t_columns : Int32) (v_t_rows : Int32) (v_t_fade : Int32) (v_t_laws : Int32) (v_t_nightHours : Int32) (v_t_nightTimes : Int32) (v_t_ground : Nat → Int32) (v_t_windows : Nat → Int32) (v_t_lawParts : Nat → Int32) (x1 : Int32) (x2 : Int32) {z : (Nat → Int32)} (hf : f_X2_place v_t_windows x1 x2 = some z) : Met l yX2_place (Cond.code yX2_place cX2_place 3 none :: lw_g) ({ frames := 1, cells := 0, slots := 0, locals := 20 } : Room) (PC D cI cJ cZ en ([.ref q_t, .int x1, .int x2] : List Value) [(q_t, .inr (2, [.int v_t_columns, .int v_t_rows, .int v_t_fade, .int v_t_laws, .int v_t_nightHours, .int v_t_nightTimes, .ref q_t_ground, .ref q_t_windows, .ref q_t_lawParts])), (q_t_ground, .inl (cI, 36, .inl v_t_ground)), (q_t_windows, .inl (cI, 6, .inl v_t_windows)), (q_t_lawParts, .inl (cI, 18, .inl v_t_lawParts))] sz) (QV D cI cJ cZ [(q_t, .inr (2, [.int v_t_columns, .int v_t_rows, .int v_t_fade, .int v_t_laws, .int v_t_nightHours, .int v_t_nightTimes, .ref q_t_ground, .ref q_t_windows, .ref q_t_lawParts])), (q_t_ground, .inl (cI, 36, .inl v_t_ground)), (q_t_windows, .inl (cI, 6, .inl z)), (q_t_lawParts, .inl (cI, 18, .inl v_t_lawParts))] (va_A [(q_t, .inr (2, [.int v_t_columns, .int v_t_rows, .int v_t_fade, .int v_t_laws, .int v_t_nightHours, .int v_t_nightTimes, .ref q_t_ground, .ref q_t_windows, .ref q_t_lawParts])), (q_t_ground, .inl (cI, 36, .inl v_t_ground)), (q_t_windows, .inl (cI, 6, .inl v_t_windows)), (q_t_lawParts, .inl (cI, 18, .inl v_t_lawParts))] sz)) 0 0 (va_A [(q_t, .inr (2, [.int v_t_columns, .int v_t_rows, .int v_t_fade, .int v_t_laws, .int v_t_nightHours, .int v_t_nightTimes, .ref q_t_ground, .ref q_t_windows, .ref q_t_lawParts])), (q_t_ground, .inl (cI, 36, .inl v_t_ground)), (q_t_windows, .inl (cI, 6, .inl v_t_windows)), (q_t_lawParts, .inl (cI, 18, .inl v_t_lawParts))] sz) := by
  refine mk_met (Qc := fun A => (QV D cI cJ cZ [(q_t, .inr (2, [.int v_t_columns, .int v_t_rows, .int v_t_fade, .int v_t_laws, .int v_t_nightHours, .int v_t_nightTimes, .ref q_t_ground, .ref q_t_windows, .ref q_t_lawParts])), (q_t_ground, .inl (cI, 36, .inl v_t_ground)), (q_t_windows, .inl (cI, 6, .inl z)), (q_t_lawParts, .inl (cI, 18, .inl v_t_lawParts))] A)) RX2 (by decide) rfl (Nat.le_of_ble_eq_true rfl) ?_
  intro p e s m below meth c ls A hx hb hr hml hown hts hlocks hA hK hE hl hD H locs hP hS
  have hl : lv_has ls 3 [(0, .ref q_t), (1, .int x1), (2, .int x2)] := hl
  unfold f_X2_place at hf
  refine lv_iload_n hx hb dX2_place_0 rfl (lv_at hl 1 rfl) ?_
  obtain ⟨z1_1, hz1_1, hf⟩ := bd_some hf
  refine cNi (host := RX9) (rest := []) ⟨hx, hb, hml, hown, hts⟩ hE hK hP hD hS hA (c_X9_isPerson l D cI cJ cZ en  H.size x1 hz1_1) w_490 (by decide +kernel) w_57 w_489 hd_X9_isPerson ⟨rfl, rfl⟩ ⟨by decide, by decide⟩ [] rfl rfl rfl  hl rfl (Nat.le_of_ble_eq_true rfl) ⟨Nat.zero_le _, Nat.zero_le _⟩ dX2_place_1 (fun H locs hP hD hS => ?_)
  have hP : va_P D vwCl [(q_t, .inr (2, [.int v_t_columns, .int v_t_rows, .int v_t_fade, .int v_t_laws, .int v_t_nightHours, .int v_t_nightTimes, .ref q_t_ground, .ref q_t_windows, .ref q_t_lawParts])), (q_t_ground, .inl (cI, 36, .inl v_t_ground)), (q_t_windows, .inl (cI, 6, .inl v_t_windows)), (q_t_lawParts, .inl (cI, 18, .inl v_t_lawParts))] H := hP
  have hD : va_D A [(q_t, .inr (2, [.int v_t_columns, .int v_t_rows, .int v_t_fade, .int v_t_laws, .int v_t_nightHours, .int v_t_nightTimes, .ref q_t_ground, .ref q_t_windows, .ref q_t_lawParts])), (q_t_ground, .inl (cI, 36, .inl v_t_ground)), (q_t_windows, .inl (cI, 6, .inl v_t_windows)), (q_t_lawParts, .inl (cI, 18, .inl v_t_lawParts))] := hD
  refine lv_if_eq (tgt := 14) hx hb dX2_place_4 (by decide) (fun h_2 => ?_) (fun h_2 => ?_)
  · have hf := (if_pos h_2).symm.trans hf
    cases hf
    exact rt_v hx hb hr hlocks hK hP hS dX2_place_14
  · have hf := (if_neg h_2).symm.trans hf
    refine lv_aload_n hx hb dX2_place_7 rfl (lv_at hl 0 rfl) ?_
    refine va_get (D := D) (ci := 2) (v := .ref q_t_windows) (C := RX2) (T := TX2) (N := 9) hx hb hts inX2 hown hK hP 0 rfl rfl 7 (by decide) (hts _ w_151) (fun _ h9 => h9) rfl dX2_place_8 ?_
    refine lv_iload_n hx hb dX2_place_11 rfl (lv_at hl 1 rfl) ?_
    refine lv_iload_n hx hb dX2_place_12 rfl (lv_at hl 2 rfl) ?_
    obtain ⟨hin, hf⟩ := gd_some hf
    refine va_iast hx hb hK hP hD hS 2 0 rfl rfl hin dX2_place_13 (fun H locs hP hD hS => ?_)
    have hP : va_P D vwCl [(q_t, .inr (2, [.int v_t_columns, .int v_t_rows, .int v_t_fade, .int v_t_laws, .int v_t_nightHours, .int v_t_nightTimes, .ref q_t_ground, .ref q_t_windows, .ref q_t_lawParts])), (q_t_ground, .inl (cI, 36, .inl v_t_ground)), (q_t_windows, .inl (cI, 6, .inl (upd v_t_windows (Int32.toNatClampNeg x1) x2))), (q_t_lawParts, .inl (cI, 18, .inl v_t_lawParts))] H := hP
    have hD : va_D A [(q_t, .inr (2, [.int v_t_columns, .int v_t_rows, .int v_t_fade, .int v_t_laws, .int v_t_nightHours, .int v_t_nightTimes, .ref q_t_ground, .ref q_t_windows, .ref q_t_lawParts])), (q_t_ground, .inl (cI, 36, .inl v_t_ground)), (q_t_windows, .inl (cI, 6, .inl (upd v_t_windows (Int32.toNatClampNeg x1) x2))), (q_t_lawParts, .inl (cI, 18, .inl v_t_lawParts))] := hD
    cases hf
    exact rt_v hx hb hr hlocks hK hP hS dX2_place_14

def f_X2_windowOf (v_t_windows : Nat → Int32) (x1 : Int32) : Option (Int32) :=
  (f_X9_isPerson x1).bind (fun z1 => (if z1 = 0 then (some (-1)) else gd (ib x1 6) ((some (v_t_windows (Int32.toNatClampNeg x1))))))
theorem gv_X2_windowOf {own : String} {idx : Nat} (h : Cond.methodLink own idx yX2_windowOf ∈ lw_g) : GoodIn lw_g (wsV own idx RX2 yX2_windowOf (Cond.code yX2_windowOf cX2_windowOf 2 (some .int) :: lw_g)) := gV h w_535 w_536 w_60 w_537
theorem hd_X2_windowOf : yX2_windowOf.cls = RX2 ∧ yX2_windowOf.cls ≠ "java/lang/invoke/MethodHandle" ∧ yX2_windowOf.cls ≠ "java/lang/invoke/VarHandle" ∧ (parseMethodDescriptor yX2_windowOf.desc).map (fun d => d.parameters.length) = some 1 := by decide +kernel
set_option maxHeartbeats 4000000 in
set_option maxRecDepth 100000 in
theorem c_X2_windowOf (l : Launch) (D : va_G) (cI cJ cZ : ClassId) (en : EnT) (q_t q_t_ground q_t_windows q_t_lawParts : Nat) (sz : Nat) (v_t_columns : Int32) (v_t_rows : Int32) (v_t_fade : Int32) (v_t_laws : Int32) (v_t_nightHours : Int32) (v_t_nightTimes : Int32) (v_t_ground : Nat → Int32) (v_t_windows : Nat → Int32) (v_t_lawParts : Nat → Int32) (x1 : Int32) {z : Int32} (hf : f_X2_windowOf v_t_windows x1 = some z) : Met l yX2_windowOf (Cond.code yX2_windowOf cX2_windowOf 2 (some .int) :: lw_g) ({ frames := 1, cells := 0, slots := 0, locals := 20 } : Room) (PC D cI cJ cZ en ([.ref q_t, .int x1] : List Value) [(q_t, .inr (2, [.int v_t_columns, .int v_t_rows, .int v_t_fade, .int v_t_laws, .int v_t_nightHours, .int v_t_nightTimes, .ref q_t_ground, .ref q_t_windows, .ref q_t_lawParts])), (q_t_ground, .inl (cI, 36, .inl v_t_ground)), (q_t_windows, .inl (cI, 6, .inl v_t_windows)), (q_t_lawParts, .inl (cI, 18, .inl v_t_lawParts))] sz) (QI D cI cJ cZ [(q_t, .inr (2, [.int v_t_columns, .int v_t_rows, .int v_t_fade, .int v_t_laws, .int v_t_nightHours, .int v_t_nightTimes, .ref q_t_ground, .ref q_t_windows, .ref q_t_lawParts])), (q_t_ground, .inl (cI, 36, .inl v_t_ground)), (q_t_windows, .inl (cI, 6, .inl v_t_windows)), (q_t_lawParts, .inl (cI, 18, .inl v_t_lawParts))] z (va_A [(q_t, .inr (2, [.int v_t_columns, .int v_t_rows, .int v_t_fade, .int v_t_laws, .int v_t_nightHours, .int v_t_nightTimes, .ref q_t_ground, .ref q_t_windows, .ref q_t_lawParts])), (q_t_ground, .inl (cI, 36, .inl v_t_ground)), (q_t_windows, .inl (cI, 6, .inl v_t_windows)), (q_t_lawParts, .inl (cI, 18, .inl v_t_lawParts))] sz)) 0 0 (va_A [(q_t, .inr (2, [.int v_t_columns, .int v_t_rows, .int v_t_fade, .int v_t_laws, .int v_t_nightHours, .int v_t_nightTimes, .ref q_t_ground, .ref q_t_windows, .ref q_t_lawParts])), (q_t_ground, .inl (cI, 36, .inl v_t_ground)), (q_t_windows, .inl (cI, 6, .inl v_t_windows)), (q_t_lawParts, .inl (cI, 18, .inl v_t_lawParts))] sz) := by
  refine mk_met (Qc := fun A => (QI D cI cJ cZ [(q_t, .inr (2, [.int v_t_columns, .int v_t_rows, .int v_t_fade, .int v_t_laws, .int v_t_nightHours, .int v_t_nightTimes, .ref q_t_ground, .ref q_t_windows, .ref q_t_lawParts])), (q_t_ground, .inl (cI, 36, .inl v_t_ground)), (q_t_windows, .inl (cI, 6, .inl v_t_windows)), (q_t_lawParts, .inl (cI, 18, .inl v_t_lawParts))] z A)) RX2 (by decide) rfl (Nat.le_of_ble_eq_true rfl) ?_
  intro p e s m below meth c ls A hx hb hr hml hown hts hlocks hA hK hE hl hD H locs hP hS
  have hl : lv_has ls 2 [(0, .ref q_t), (1, .int x1)] := hl
  unfold f_X2_windowOf at hf
  refine lv_iload_n hx hb dX2_windowOf_0 rfl (lv_at hl 1 rfl) ?_
  obtain ⟨z1_1, hz1_1, hf⟩ := bd_some hf
  refine cNi (host := RX9) (rest := []) ⟨hx, hb, hml, hown, hts⟩ hE hK hP hD hS hA (c_X9_isPerson l D cI cJ cZ en  H.size x1 hz1_1) w_490 (by decide +kernel) w_57 w_489 hd_X9_isPerson ⟨rfl, rfl⟩ ⟨by decide, by decide⟩ [] rfl rfl rfl  hl rfl (Nat.le_of_ble_eq_true rfl) ⟨Nat.zero_le _, Nat.zero_le _⟩ dX2_windowOf_1 (fun H locs hP hD hS => ?_)
  have hP : va_P D vwCl [(q_t, .inr (2, [.int v_t_columns, .int v_t_rows, .int v_t_fade, .int v_t_laws, .int v_t_nightHours, .int v_t_nightTimes, .ref q_t_ground, .ref q_t_windows, .ref q_t_lawParts])), (q_t_ground, .inl (cI, 36, .inl v_t_ground)), (q_t_windows, .inl (cI, 6, .inl v_t_windows)), (q_t_lawParts, .inl (cI, 18, .inl v_t_lawParts))] H := hP
  have hD : va_D A [(q_t, .inr (2, [.int v_t_columns, .int v_t_rows, .int v_t_fade, .int v_t_laws, .int v_t_nightHours, .int v_t_nightTimes, .ref q_t_ground, .ref q_t_windows, .ref q_t_lawParts])), (q_t_ground, .inl (cI, 36, .inl v_t_ground)), (q_t_windows, .inl (cI, 6, .inl v_t_windows)), (q_t_lawParts, .inl (cI, 18, .inl v_t_lawParts))] := hD
  refine lv_if_eq (tgt := 16) hx hb dX2_windowOf_4 (by decide) (fun h_2 => ?_) (fun h_2 => ?_)
  · have hf := (if_pos h_2).symm.trans hf
    refine lv_iconst (v := (-1)) hx hb dX2_windowOf_16 (by decide) ?_
    cases hf
    exact rt_i hx hb hr hlocks hK hP hS dX2_windowOf_17
  · have hf := (if_neg h_2).symm.trans hf
    refine lv_aload_n hx hb dX2_windowOf_7 rfl (lv_at hl 0 rfl) ?_
    refine va_get (D := D) (ci := 2) (v := .ref q_t_windows) (C := RX2) (T := TX2) (N := 9) hx hb hts inX2 hown hK hP 0 rfl rfl 7 (by decide) (hts _ w_151) (fun _ h9 => h9) rfl dX2_windowOf_8 ?_
    refine lv_iload_n hx hb dX2_windowOf_11 rfl (lv_at hl 1 rfl) ?_
    obtain ⟨hin, hf⟩ := gd_some hf
    refine va_iald hx hb hK hP 2 0 rfl rfl hin dX2_windowOf_12 ?_
    refine lv_goto (tgt := 17) hx hb dX2_windowOf_13 (by decide) ?_
    cases hf
    exact rt_i hx hb hr hlocks hK hP hS dX2_windowOf_17

def f_X2_personsAt_J36 (rc14 : (Int32) → (Int32) → Option (Int32)) (x2 : Int32) (x3 : Int32) : Option (Int32) :=
  (rc14 x2 (x3 + 1))
def f_X2_personsAt_L14 (v_t_windows : Nat → Int32) (x1 : Int32) : Nat → (Int32) → (Int32) → Option (Int32)
  | 0, _, _ => none
  | n + 1, x2, x3 => (if 6 ≤ x3 then (some x2) else gd (ib x3 6) ((if (v_t_windows (Int32.toNatClampNeg x3)) = x1 then (f_X2_personsAt_J36 (f_X2_personsAt_L14 v_t_windows x1 n) (x2 ||| (1 <<< (x3 &&& 31))) x3) else (f_X2_personsAt_J36 (f_X2_personsAt_L14 v_t_windows x1 n) x2 x3))))
def f_X2_personsAt (v_t_columns : Int32) (v_t_rows : Int32) (v_t_windows : Nat → Int32) (x1 : Int32) : Option (Int32) :=
  (f_X2_has v_t_columns v_t_rows x1).bind (fun z2 => (if z2 = 0 then (some 0) else (f_X2_personsAt_L14 v_t_windows x1 FU 0 0)))
theorem gv_X2_personsAt {own : String} {idx : Nat} (h : Cond.methodLink own idx yX2_personsAt ∈ lw_g) : GoodIn lw_g (wsV own idx RX2 yX2_personsAt (Cond.code yX2_personsAt cX2_personsAt 4 (some .int) :: lw_g)) := gV h w_526 w_527 w_60 w_528
theorem hd_X2_personsAt : yX2_personsAt.cls = RX2 ∧ yX2_personsAt.cls ≠ "java/lang/invoke/MethodHandle" ∧ yX2_personsAt.cls ≠ "java/lang/invoke/VarHandle" ∧ (parseMethodDescriptor yX2_personsAt.desc).map (fun d => d.parameters.length) = some 1 := by decide +kernel
set_option maxHeartbeats 4000000 in
set_option maxRecDepth 100000 in
theorem c_X2_personsAt (l : Launch) (D : va_G) (cI cJ cZ : ClassId) (en : EnT) (q_t q_t_ground q_t_windows q_t_lawParts : Nat) (sz : Nat) (v_t_columns : Int32) (v_t_rows : Int32) (v_t_fade : Int32) (v_t_laws : Int32) (v_t_nightHours : Int32) (v_t_nightTimes : Int32) (v_t_ground : Nat → Int32) (v_t_windows : Nat → Int32) (v_t_lawParts : Nat → Int32) (x1 : Int32) {z : Int32} (hf : f_X2_personsAt v_t_columns v_t_rows v_t_windows x1 = some z) : Met l yX2_personsAt (Cond.code yX2_personsAt cX2_personsAt 4 (some .int) :: lw_g) ({ frames := 1, cells := 0, slots := 0, locals := 21 } : Room) (PC D cI cJ cZ en ([.ref q_t, .int x1] : List Value) [(q_t, .inr (2, [.int v_t_columns, .int v_t_rows, .int v_t_fade, .int v_t_laws, .int v_t_nightHours, .int v_t_nightTimes, .ref q_t_ground, .ref q_t_windows, .ref q_t_lawParts])), (q_t_ground, .inl (cI, 36, .inl v_t_ground)), (q_t_windows, .inl (cI, 6, .inl v_t_windows)), (q_t_lawParts, .inl (cI, 18, .inl v_t_lawParts))] sz) (QI D cI cJ cZ [(q_t, .inr (2, [.int v_t_columns, .int v_t_rows, .int v_t_fade, .int v_t_laws, .int v_t_nightHours, .int v_t_nightTimes, .ref q_t_ground, .ref q_t_windows, .ref q_t_lawParts])), (q_t_ground, .inl (cI, 36, .inl v_t_ground)), (q_t_windows, .inl (cI, 6, .inl v_t_windows)), (q_t_lawParts, .inl (cI, 18, .inl v_t_lawParts))] z (va_A [(q_t, .inr (2, [.int v_t_columns, .int v_t_rows, .int v_t_fade, .int v_t_laws, .int v_t_nightHours, .int v_t_nightTimes, .ref q_t_ground, .ref q_t_windows, .ref q_t_lawParts])), (q_t_ground, .inl (cI, 36, .inl v_t_ground)), (q_t_windows, .inl (cI, 6, .inl v_t_windows)), (q_t_lawParts, .inl (cI, 18, .inl v_t_lawParts))] sz)) 0 0 (va_A [(q_t, .inr (2, [.int v_t_columns, .int v_t_rows, .int v_t_fade, .int v_t_laws, .int v_t_nightHours, .int v_t_nightTimes, .ref q_t_ground, .ref q_t_windows, .ref q_t_lawParts])), (q_t_ground, .inl (cI, 36, .inl v_t_ground)), (q_t_windows, .inl (cI, 6, .inl v_t_windows)), (q_t_lawParts, .inl (cI, 18, .inl v_t_lawParts))] sz) := by
  refine mk_met (Qc := fun A => (QI D cI cJ cZ [(q_t, .inr (2, [.int v_t_columns, .int v_t_rows, .int v_t_fade, .int v_t_laws, .int v_t_nightHours, .int v_t_nightTimes, .ref q_t_ground, .ref q_t_windows, .ref q_t_lawParts])), (q_t_ground, .inl (cI, 36, .inl v_t_ground)), (q_t_windows, .inl (cI, 6, .inl v_t_windows)), (q_t_lawParts, .inl (cI, 18, .inl v_t_lawParts))] z A)) RX2 (by decide) rfl (Nat.le_of_ble_eq_true rfl) ?_
  intro p e s m below meth c ls A hx hb hr hml hown hts hlocks hA hK hE hl hD H locs hP hS
  have hl : lv_has ls 4 [(0, .ref q_t), (1, .int x1)] := hl
  unfold f_X2_personsAt at hf
  refine lv_aload_n hx hb dX2_personsAt_0 rfl (lv_at hl 0 rfl) ?_
  refine lv_iload_n hx hb dX2_personsAt_1 rfl (lv_at hl 1 rfl) ?_
  obtain ⟨z2_1, hz2_1, hf⟩ := bd_some hf
  refine cVi (rest := []) ⟨hx, hb, hml, hown, hts⟩ hE hK hP hD hS hA (c_X2_has l D cI cJ cZ en q_t q_t_ground q_t_windows q_t_lawParts H.size v_t_columns v_t_rows v_t_fade v_t_laws v_t_nightHours v_t_nightTimes v_t_ground v_t_windows v_t_lawParts x1 hz2_1) (gv_X2_has w_464) hd_X2_has ⟨rfl, rfl⟩ ⟨by decide, by decide⟩ [0, 1, 2, 3] rfl rfl rfl 2 rfl rfl 0 rfl  hl rfl (Nat.le_of_ble_eq_true rfl) ⟨Nat.zero_le _, Nat.zero_le _⟩ dX2_personsAt_2 (fun H locs hP hD hS => ?_)
  have hP : va_P D vwCl [(q_t, .inr (2, [.int v_t_columns, .int v_t_rows, .int v_t_fade, .int v_t_laws, .int v_t_nightHours, .int v_t_nightTimes, .ref q_t_ground, .ref q_t_windows, .ref q_t_lawParts])), (q_t_ground, .inl (cI, 36, .inl v_t_ground)), (q_t_windows, .inl (cI, 6, .inl v_t_windows)), (q_t_lawParts, .inl (cI, 18, .inl v_t_lawParts))] H := hP
  have hD : va_D A [(q_t, .inr (2, [.int v_t_columns, .int v_t_rows, .int v_t_fade, .int v_t_laws, .int v_t_nightHours, .int v_t_nightTimes, .ref q_t_ground, .ref q_t_windows, .ref q_t_lawParts])), (q_t_ground, .inl (cI, 36, .inl v_t_ground)), (q_t_windows, .inl (cI, 6, .inl v_t_windows)), (q_t_lawParts, .inl (cI, 18, .inl v_t_lawParts))] := hD
  refine lv_if_ne (tgt := 10) hx hb dX2_personsAt_5 (by decide) (fun h_2 => ?_) (fun h_2 => ?_)
  · have hf := (if_neg h_2).symm.trans hf
    refine lv_iconst (v := 0) hx hb dX2_personsAt_10 (by decide) ?_
    refine lv_istore_n (lv' := [(2, .int 0), (0, .ref q_t), (1, .int x1)]) hx hb dX2_personsAt_11 rfl hl (by decide) rfl (fun ls hl => ?_)
    refine lv_iconst (v := 0) hx hb dX2_personsAt_12 (by decide) ?_
    refine lv_istore_n (lv' := [(3, .int 0), (2, .int 0), (0, .ref q_t), (1, .int x1)]) hx hb dX2_personsAt_13 rfl hl (by decide) rfl (fun ls hl => ?_)
    have L14_5 : ∀ (n : Nat) (x2_3 : Int32) (x3_4 : Int32), f_X2_personsAt_L14 v_t_windows x1 n x2_3 x3_4 = some z → ∀ (H : Heap) (locs : List Loc) (ls : Array Slot), va_P D vwCl [(q_t, .inr (2, [.int v_t_columns, .int v_t_rows, .int v_t_fade, .int v_t_laws, .int v_t_nightHours, .int v_t_nightTimes, .ref q_t_ground, .ref q_t_windows, .ref q_t_lawParts])), (q_t_ground, .inl (cI, 36, .inl v_t_ground)), (q_t_windows, .inl (cI, 6, .inl v_t_windows)), (q_t_lawParts, .inl (cI, 18, .inl v_t_lawParts))] H → va_D A [(q_t, .inr (2, [.int v_t_columns, .int v_t_rows, .int v_t_fade, .int v_t_laws, .int v_t_nightHours, .int v_t_nightTimes, .ref q_t_ground, .ref q_t_windows, .ref q_t_lawParts])), (q_t_ground, .inl (cI, 36, .inl v_t_ground)), (q_t_windows, .inl (cI, 6, .inl v_t_windows)), (q_t_lawParts, .inl (cI, 18, .inl v_t_lawParts))] → va_S A s.heap H locs → lv_has ls 4 [(0, .ref q_t), (1, .int x1), (2, .int x2_3), (3, .int x3_4)] → W p l e ({ frames := 1, cells := 0, slots := 0, locals := 21 } : Room) s m ([.ref q_t, .int x1] : List Value).toArray below meth c H locs 0 0 (MQ below (QI D cI cJ cZ [(q_t, .inr (2, [.int v_t_columns, .int v_t_rows, .int v_t_fade, .int v_t_laws, .int v_t_nightHours, .int v_t_nightTimes, .ref q_t_ground, .ref q_t_windows, .ref q_t_lawParts])), (q_t_ground, .inl (cI, 36, .inl v_t_ground)), (q_t_windows, .inl (cI, 6, .inl v_t_windows)), (q_t_lawParts, .inl (cI, 18, .inl v_t_lawParts))] z A) ([.ref q_t, .int x1] : List Value).toArray s 0 0 A) (F0 m 14 ls []) := by
      intro n
      induction n with
      | zero =>
        intro x2_3 x3_4 hf
        cases hf
      | succ n ih_6 =>
        intro x2_3 x3_4 hf H locs ls hP hD hS hl
        rw [f_X2_personsAt_L14] at hf
        refine lv_iload_n hx hb dX2_personsAt_14 rfl (lv_at hl 3 rfl) ?_
        refine lv_bipush (v := 6) hx hb dX2_personsAt_15 (by decide) ?_
        refine lv_icmp_ge (tgt := 42) hx hb dX2_personsAt_17 (by decide) (fun h_7 => ?_) (fun h_7 => ?_)
        · have hf := (if_pos h_7).symm.trans hf
          refine lv_iload_n hx hb dX2_personsAt_42 rfl (lv_at hl 2 rfl) ?_
          cases hf
          exact rt_i hx hb hr hlocks hK hP hS dX2_personsAt_43
        · have hf := (if_neg h_7).symm.trans hf
          refine lv_aload_n hx hb dX2_personsAt_20 rfl (lv_at hl 0 rfl) ?_
          refine va_get (D := D) (ci := 2) (v := .ref q_t_windows) (C := RX2) (T := TX2) (N := 9) hx hb hts inX2 hown hK hP 0 rfl rfl 7 (by decide) (hts _ w_151) (fun _ h9 => h9) rfl dX2_personsAt_21 ?_
          refine lv_iload_n hx hb dX2_personsAt_24 rfl (lv_at hl 3 rfl) ?_
          obtain ⟨hin, hf⟩ := gd_some hf
          refine va_iald hx hb hK hP 2 0 rfl rfl hin dX2_personsAt_25 ?_
          refine lv_iload_n hx hb dX2_personsAt_26 rfl (lv_at hl 1 rfl) ?_
          have J36_9 : ∀ (x2_8 : Int32), f_X2_personsAt_J36 (f_X2_personsAt_L14 v_t_windows x1 n) x2_8 x3_4 = some z → ∀ (H : Heap) (locs : List Loc) (ls : Array Slot), va_P D vwCl [(q_t, .inr (2, [.int v_t_columns, .int v_t_rows, .int v_t_fade, .int v_t_laws, .int v_t_nightHours, .int v_t_nightTimes, .ref q_t_ground, .ref q_t_windows, .ref q_t_lawParts])), (q_t_ground, .inl (cI, 36, .inl v_t_ground)), (q_t_windows, .inl (cI, 6, .inl v_t_windows)), (q_t_lawParts, .inl (cI, 18, .inl v_t_lawParts))] H → va_D A [(q_t, .inr (2, [.int v_t_columns, .int v_t_rows, .int v_t_fade, .int v_t_laws, .int v_t_nightHours, .int v_t_nightTimes, .ref q_t_ground, .ref q_t_windows, .ref q_t_lawParts])), (q_t_ground, .inl (cI, 36, .inl v_t_ground)), (q_t_windows, .inl (cI, 6, .inl v_t_windows)), (q_t_lawParts, .inl (cI, 18, .inl v_t_lawParts))] → va_S A s.heap H locs → lv_has ls 4 [(0, .ref q_t), (1, .int x1), (2, .int x2_8), (3, .int x3_4)] → W p l e ({ frames := 1, cells := 0, slots := 0, locals := 21 } : Room) s m ([.ref q_t, .int x1] : List Value).toArray below meth c H locs 0 0 (MQ below (QI D cI cJ cZ [(q_t, .inr (2, [.int v_t_columns, .int v_t_rows, .int v_t_fade, .int v_t_laws, .int v_t_nightHours, .int v_t_nightTimes, .ref q_t_ground, .ref q_t_windows, .ref q_t_lawParts])), (q_t_ground, .inl (cI, 36, .inl v_t_ground)), (q_t_windows, .inl (cI, 6, .inl v_t_windows)), (q_t_lawParts, .inl (cI, 18, .inl v_t_lawParts))] z A) ([.ref q_t, .int x1] : List Value).toArray s 0 0 A) (F0 m 36 ls []) := by
            intro x2_8 hf H locs ls hP hD hS hl
            unfold f_X2_personsAt_J36 at hf
            refine lv_iinc (v := (x3_4 + 1)) (lv' := [(3, .int (x3_4 + 1)), (0, .ref q_t), (1, .int x1), (2, .int x2_8)]) hx hb dX2_personsAt_36 hl (k := 3) rfl rfl (by decide) rfl (fun ls hl => ?_)
            refine lv_goto (tgt := 14) hx hb dX2_personsAt_39 (by decide) ?_
            exact ih_6 x2_8 (x3_4 + 1) hf _ _ _ hP hD hS (lv_sub hl [1, 2, 3, 0] rfl)
          refine lv_icmp_ne (tgt := 36) hx hb dX2_personsAt_27 (by decide) (fun h_10 => ?_) (fun h_10 => ?_)
          · have hf := (if_neg h_10).symm.trans hf
            exact J36_9 x2_3 hf _ _ _ hP hD hS (lv_sub hl [0, 1, 2, 3] rfl)
          · have hf := (if_pos h_10).symm.trans hf
            refine lv_iload_n hx hb dX2_personsAt_30 rfl (lv_at hl 2 rfl) ?_
            refine lv_iconst (v := 1) hx hb dX2_personsAt_31 (by decide) ?_
            refine lv_iload_n hx hb dX2_personsAt_32 rfl (lv_at hl 3 rfl) ?_
            refine lv_ishl hx hb dX2_personsAt_33 ?_
            refine lv_ior hx hb dX2_personsAt_34 ?_
            refine lv_istore_n (lv' := [(2, .int (x2_3 ||| (1 <<< (x3_4 &&& 31)))), (0, .ref q_t), (1, .int x1), (3, .int x3_4)]) hx hb dX2_personsAt_35 rfl hl (by decide) rfl (fun ls hl => ?_)
            exact J36_9 (x2_3 ||| (1 <<< (x3_4 &&& 31))) hf _ _ _ hP hD hS (lv_sub hl [1, 2, 0, 3] rfl)
    exact L14_5 FU 0 0 hf _ _ _ hP hD hS (lv_sub hl [2, 3, 1, 0] rfl)
  · have hf := (if_pos h_2).symm.trans hf
    refine lv_iconst (v := 0) hx hb dX2_personsAt_8 (by decide) ?_
    cases hf
    exact rt_i hx hb hr hlocks hK hP hS dX2_personsAt_9

def f_X2_personsSomewhere_J26 (rc4 : (Int32) → (Int32) → Option (Int32)) (x1 : Int32) (x2 : Int32) : Option (Int32) :=
  (rc4 x1 (x2 + 1))
def f_X2_personsSomewhere_L4 (v_t_windows : Nat → Int32) : Nat → (Int32) → (Int32) → Option (Int32)
  | 0, _, _ => none
  | n + 1, x1, x2 => (if 6 ≤ x2 then (some x1) else gd (ib x2 6) ((if (v_t_windows (Int32.toNatClampNeg x2)) = (-1) then (f_X2_personsSomewhere_J26 (f_X2_personsSomewhere_L4 v_t_windows n) x1 x2) else (f_X2_personsSomewhere_J26 (f_X2_personsSomewhere_L4 v_t_windows n) (x1 ||| (1 <<< (x2 &&& 31))) x2))))
def f_X2_personsSomewhere (v_t_windows : Nat → Int32) : Option (Int32) :=
  (f_X2_personsSomewhere_L4 v_t_windows FU 0 0)
theorem gv_X2_personsSomewhere {own : String} {idx : Nat} (h : Cond.methodLink own idx yX2_personsSomewhere ∈ lw_g) : GoodIn lw_g (wsV own idx RX2 yX2_personsSomewhere (Cond.code yX2_personsSomewhere cX2_personsSomewhere 3 (some .int) :: lw_g)) := gV h w_896 w_897 w_60 w_898
theorem hd_X2_personsSomewhere : yX2_personsSomewhere.cls = RX2 ∧ yX2_personsSomewhere.cls ≠ "java/lang/invoke/MethodHandle" ∧ yX2_personsSomewhere.cls ≠ "java/lang/invoke/VarHandle" ∧ (parseMethodDescriptor yX2_personsSomewhere.desc).map (fun d => d.parameters.length) = some 0 := by decide +kernel
set_option maxHeartbeats 4000000 in
set_option maxRecDepth 100000 in
theorem c_X2_personsSomewhere (l : Launch) (D : va_G) (cI cJ cZ : ClassId) (en : EnT) (q_t q_t_ground q_t_windows q_t_lawParts : Nat) (sz : Nat) (v_t_columns : Int32) (v_t_rows : Int32) (v_t_fade : Int32) (v_t_laws : Int32) (v_t_nightHours : Int32) (v_t_nightTimes : Int32) (v_t_ground : Nat → Int32) (v_t_windows : Nat → Int32) (v_t_lawParts : Nat → Int32) {z : Int32} (hf : f_X2_personsSomewhere v_t_windows = some z) : Met l yX2_personsSomewhere (Cond.code yX2_personsSomewhere cX2_personsSomewhere 3 (some .int) :: lw_g) ({ frames := 0, cells := 0, slots := 0, locals := 0 } : Room) (PC D cI cJ cZ en ([.ref q_t] : List Value) [(q_t, .inr (2, [.int v_t_columns, .int v_t_rows, .int v_t_fade, .int v_t_laws, .int v_t_nightHours, .int v_t_nightTimes, .ref q_t_ground, .ref q_t_windows, .ref q_t_lawParts])), (q_t_ground, .inl (cI, 36, .inl v_t_ground)), (q_t_windows, .inl (cI, 6, .inl v_t_windows)), (q_t_lawParts, .inl (cI, 18, .inl v_t_lawParts))] sz) (QI D cI cJ cZ [(q_t, .inr (2, [.int v_t_columns, .int v_t_rows, .int v_t_fade, .int v_t_laws, .int v_t_nightHours, .int v_t_nightTimes, .ref q_t_ground, .ref q_t_windows, .ref q_t_lawParts])), (q_t_ground, .inl (cI, 36, .inl v_t_ground)), (q_t_windows, .inl (cI, 6, .inl v_t_windows)), (q_t_lawParts, .inl (cI, 18, .inl v_t_lawParts))] z (va_A [(q_t, .inr (2, [.int v_t_columns, .int v_t_rows, .int v_t_fade, .int v_t_laws, .int v_t_nightHours, .int v_t_nightTimes, .ref q_t_ground, .ref q_t_windows, .ref q_t_lawParts])), (q_t_ground, .inl (cI, 36, .inl v_t_ground)), (q_t_windows, .inl (cI, 6, .inl v_t_windows)), (q_t_lawParts, .inl (cI, 18, .inl v_t_lawParts))] sz)) 0 0 (va_A [(q_t, .inr (2, [.int v_t_columns, .int v_t_rows, .int v_t_fade, .int v_t_laws, .int v_t_nightHours, .int v_t_nightTimes, .ref q_t_ground, .ref q_t_windows, .ref q_t_lawParts])), (q_t_ground, .inl (cI, 36, .inl v_t_ground)), (q_t_windows, .inl (cI, 6, .inl v_t_windows)), (q_t_lawParts, .inl (cI, 18, .inl v_t_lawParts))] sz) := by
  refine mk_met (Qc := fun A => (QI D cI cJ cZ [(q_t, .inr (2, [.int v_t_columns, .int v_t_rows, .int v_t_fade, .int v_t_laws, .int v_t_nightHours, .int v_t_nightTimes, .ref q_t_ground, .ref q_t_windows, .ref q_t_lawParts])), (q_t_ground, .inl (cI, 36, .inl v_t_ground)), (q_t_windows, .inl (cI, 6, .inl v_t_windows)), (q_t_lawParts, .inl (cI, 18, .inl v_t_lawParts))] z A)) RX2 (by decide) rfl (Nat.le_of_ble_eq_true rfl) ?_
  intro p e s m below meth c ls A hx hb hr hml hown hts hlocks hA hK hE hl hD H locs hP hS
  have hl : lv_has ls 3 [(0, .ref q_t)] := hl
  unfold f_X2_personsSomewhere at hf
  refine lv_iconst (v := 0) hx hb dX2_personsSomewhere_0 (by decide) ?_
  refine lv_istore_n (lv' := [(1, .int 0), (0, .ref q_t)]) hx hb dX2_personsSomewhere_1 rfl hl (by decide) rfl (fun ls hl => ?_)
  refine lv_iconst (v := 0) hx hb dX2_personsSomewhere_2 (by decide) ?_
  refine lv_istore_n (lv' := [(2, .int 0), (1, .int 0), (0, .ref q_t)]) hx hb dX2_personsSomewhere_3 rfl hl (by decide) rfl (fun ls hl => ?_)
  have L4_3 : ∀ (n : Nat) (x1_1 : Int32) (x2_2 : Int32), f_X2_personsSomewhere_L4 v_t_windows n x1_1 x2_2 = some z → ∀ (H : Heap) (locs : List Loc) (ls : Array Slot), va_P D vwCl [(q_t, .inr (2, [.int v_t_columns, .int v_t_rows, .int v_t_fade, .int v_t_laws, .int v_t_nightHours, .int v_t_nightTimes, .ref q_t_ground, .ref q_t_windows, .ref q_t_lawParts])), (q_t_ground, .inl (cI, 36, .inl v_t_ground)), (q_t_windows, .inl (cI, 6, .inl v_t_windows)), (q_t_lawParts, .inl (cI, 18, .inl v_t_lawParts))] H → va_D A [(q_t, .inr (2, [.int v_t_columns, .int v_t_rows, .int v_t_fade, .int v_t_laws, .int v_t_nightHours, .int v_t_nightTimes, .ref q_t_ground, .ref q_t_windows, .ref q_t_lawParts])), (q_t_ground, .inl (cI, 36, .inl v_t_ground)), (q_t_windows, .inl (cI, 6, .inl v_t_windows)), (q_t_lawParts, .inl (cI, 18, .inl v_t_lawParts))] → va_S A s.heap H locs → lv_has ls 3 [(0, .ref q_t), (1, .int x1_1), (2, .int x2_2)] → W p l e ({ frames := 0, cells := 0, slots := 0, locals := 0 } : Room) s m ([.ref q_t] : List Value).toArray below meth c H locs 0 0 (MQ below (QI D cI cJ cZ [(q_t, .inr (2, [.int v_t_columns, .int v_t_rows, .int v_t_fade, .int v_t_laws, .int v_t_nightHours, .int v_t_nightTimes, .ref q_t_ground, .ref q_t_windows, .ref q_t_lawParts])), (q_t_ground, .inl (cI, 36, .inl v_t_ground)), (q_t_windows, .inl (cI, 6, .inl v_t_windows)), (q_t_lawParts, .inl (cI, 18, .inl v_t_lawParts))] z A) ([.ref q_t] : List Value).toArray s 0 0 A) (F0 m 4 ls []) := by
    intro n
    induction n with
    | zero =>
      intro x1_1 x2_2 hf
      cases hf
    | succ n ih_4 =>
      intro x1_1 x2_2 hf H locs ls hP hD hS hl
      rw [f_X2_personsSomewhere_L4] at hf
      refine lv_iload_n hx hb dX2_personsSomewhere_4 rfl (lv_at hl 2 rfl) ?_
      refine lv_bipush (v := 6) hx hb dX2_personsSomewhere_5 (by decide) ?_
      refine lv_icmp_ge (tgt := 32) hx hb dX2_personsSomewhere_7 (by decide) (fun h_5 => ?_) (fun h_5 => ?_)
      · have hf := (if_pos h_5).symm.trans hf
        refine lv_iload_n hx hb dX2_personsSomewhere_32 rfl (lv_at hl 1 rfl) ?_
        cases hf
        exact rt_i hx hb hr hlocks hK hP hS dX2_personsSomewhere_33
      · have hf := (if_neg h_5).symm.trans hf
        refine lv_aload_n hx hb dX2_personsSomewhere_10 rfl (lv_at hl 0 rfl) ?_
        refine va_get (D := D) (ci := 2) (v := .ref q_t_windows) (C := RX2) (T := TX2) (N := 9) hx hb hts inX2 hown hK hP 0 rfl rfl 7 (by decide) (hts _ w_151) (fun _ h9 => h9) rfl dX2_personsSomewhere_11 ?_
        refine lv_iload_n hx hb dX2_personsSomewhere_14 rfl (lv_at hl 2 rfl) ?_
        obtain ⟨hin, hf⟩ := gd_some hf
        refine va_iald hx hb hK hP 2 0 rfl rfl hin dX2_personsSomewhere_15 ?_
        refine lv_iconst (v := (-1)) hx hb dX2_personsSomewhere_16 (by decide) ?_
        have J26_7 : ∀ (x1_6 : Int32), f_X2_personsSomewhere_J26 (f_X2_personsSomewhere_L4 v_t_windows n) x1_6 x2_2 = some z → ∀ (H : Heap) (locs : List Loc) (ls : Array Slot), va_P D vwCl [(q_t, .inr (2, [.int v_t_columns, .int v_t_rows, .int v_t_fade, .int v_t_laws, .int v_t_nightHours, .int v_t_nightTimes, .ref q_t_ground, .ref q_t_windows, .ref q_t_lawParts])), (q_t_ground, .inl (cI, 36, .inl v_t_ground)), (q_t_windows, .inl (cI, 6, .inl v_t_windows)), (q_t_lawParts, .inl (cI, 18, .inl v_t_lawParts))] H → va_D A [(q_t, .inr (2, [.int v_t_columns, .int v_t_rows, .int v_t_fade, .int v_t_laws, .int v_t_nightHours, .int v_t_nightTimes, .ref q_t_ground, .ref q_t_windows, .ref q_t_lawParts])), (q_t_ground, .inl (cI, 36, .inl v_t_ground)), (q_t_windows, .inl (cI, 6, .inl v_t_windows)), (q_t_lawParts, .inl (cI, 18, .inl v_t_lawParts))] → va_S A s.heap H locs → lv_has ls 3 [(0, .ref q_t), (1, .int x1_6), (2, .int x2_2)] → W p l e ({ frames := 0, cells := 0, slots := 0, locals := 0 } : Room) s m ([.ref q_t] : List Value).toArray below meth c H locs 0 0 (MQ below (QI D cI cJ cZ [(q_t, .inr (2, [.int v_t_columns, .int v_t_rows, .int v_t_fade, .int v_t_laws, .int v_t_nightHours, .int v_t_nightTimes, .ref q_t_ground, .ref q_t_windows, .ref q_t_lawParts])), (q_t_ground, .inl (cI, 36, .inl v_t_ground)), (q_t_windows, .inl (cI, 6, .inl v_t_windows)), (q_t_lawParts, .inl (cI, 18, .inl v_t_lawParts))] z A) ([.ref q_t] : List Value).toArray s 0 0 A) (F0 m 26 ls []) := by
          intro x1_6 hf H locs ls hP hD hS hl
          unfold f_X2_personsSomewhere_J26 at hf
          refine lv_iinc (v := (x2_2 + 1)) (lv' := [(2, .int (x2_2 + 1)), (0, .ref q_t), (1, .int x1_6)]) hx hb dX2_personsSomewhere_26 hl (k := 2) rfl rfl (by decide) rfl (fun ls hl => ?_)
          refine lv_goto (tgt := 4) hx hb dX2_personsSomewhere_29 (by decide) ?_
          exact ih_4 x1_6 (x2_2 + 1) hf _ _ _ hP hD hS (lv_sub hl [1, 2, 0] rfl)
        refine lv_icmp_eq (tgt := 26) hx hb dX2_personsSomewhere_17 (by decide) (fun h_8 => ?_) (fun h_8 => ?_)
        · have hf := (if_pos h_8).symm.trans hf
          exact J26_7 x1_1 hf _ _ _ hP hD hS (lv_sub hl [0, 1, 2] rfl)
        · have hf := (if_neg h_8).symm.trans hf
          refine lv_iload_n hx hb dX2_personsSomewhere_20 rfl (lv_at hl 1 rfl) ?_
          refine lv_iconst (v := 1) hx hb dX2_personsSomewhere_21 (by decide) ?_
          refine lv_iload_n hx hb dX2_personsSomewhere_22 rfl (lv_at hl 2 rfl) ?_
          refine lv_ishl hx hb dX2_personsSomewhere_23 ?_
          refine lv_ior hx hb dX2_personsSomewhere_24 ?_
          refine lv_istore_n (lv' := [(1, .int (x1_1 ||| (1 <<< (x2_2 &&& 31)))), (0, .ref q_t), (2, .int x2_2)]) hx hb dX2_personsSomewhere_25 rfl hl (by decide) rfl (fun ls hl => ?_)
          exact J26_7 (x1_1 ||| (1 <<< (x2_2 &&& 31))) hf _ _ _ hP hD hS (lv_sub hl [1, 0, 2] rfl)
  exact L4_3 FU 0 0 hf _ _ _ hP hD hS (lv_sub hl [2, 1, 0] rfl)

def f_X2_addLaw (v_t_laws : Int32) (v_t_lawParts : Nat → Int32) (x1 : Int32) (x2 : Int32) (x3 : Int32) : Option (Int32 × (Nat → Int32)) :=
  (if v_t_laws < 0 then (some (v_t_laws, v_t_lawParts)) else (if v_t_laws < 6 then gd (ib (v_t_laws * 3) 18) (gd (ib ((v_t_laws * 3) + 1) 18) (gd (ib ((v_t_laws * 3) + 2) 18) ((some ((v_t_laws + 1), (upd (upd (upd v_t_lawParts (Int32.toNatClampNeg (v_t_laws * 3)) x1) (Int32.toNatClampNeg ((v_t_laws * 3) + 1)) x2) (Int32.toNatClampNeg ((v_t_laws * 3) + 2)) x3)))))) else (some (v_t_laws, v_t_lawParts))))
theorem gv_X2_addLaw {own : String} {idx : Nat} (h : Cond.methodLink own idx yX2_addLaw ∈ lw_g) : GoodIn lw_g (wsV own idx RX2 yX2_addLaw (Cond.code yX2_addLaw cX2_addLaw 4 none :: lw_g)) := gV h w_492 w_493 w_60 w_494
theorem hd_X2_addLaw : yX2_addLaw.cls = RX2 ∧ yX2_addLaw.cls ≠ "java/lang/invoke/MethodHandle" ∧ yX2_addLaw.cls ≠ "java/lang/invoke/VarHandle" ∧ (parseMethodDescriptor yX2_addLaw.desc).map (fun d => d.parameters.length) = some 3 := by decide +kernel
set_option maxHeartbeats 4000000 in
set_option maxRecDepth 100000 in
theorem c_X2_addLaw (l : Launch) (D : va_G) (cI cJ cZ : ClassId) (en : EnT) (q_t q_t_ground q_t_windows q_t_lawParts : Nat) (sz : Nat) (v_t_columns : Int32) (v_t_rows : Int32) (v_t_fade : Int32) (v_t_laws : Int32) (v_t_nightHours : Int32) (v_t_nightTimes : Int32) (v_t_ground : Nat → Int32) (v_t_windows : Nat → Int32) (v_t_lawParts : Nat → Int32) (x1 : Int32) (x2 : Int32) (x3 : Int32) {z : Int32 × (Nat → Int32)} (hf : f_X2_addLaw v_t_laws v_t_lawParts x1 x2 x3 = some z) : Met l yX2_addLaw (Cond.code yX2_addLaw cX2_addLaw 4 none :: lw_g) ({ frames := 0, cells := 0, slots := 0, locals := 0 } : Room) (PC D cI cJ cZ en ([.ref q_t, .int x1, .int x2, .int x3] : List Value) [(q_t, .inr (2, [.int v_t_columns, .int v_t_rows, .int v_t_fade, .int v_t_laws, .int v_t_nightHours, .int v_t_nightTimes, .ref q_t_ground, .ref q_t_windows, .ref q_t_lawParts])), (q_t_ground, .inl (cI, 36, .inl v_t_ground)), (q_t_windows, .inl (cI, 6, .inl v_t_windows)), (q_t_lawParts, .inl (cI, 18, .inl v_t_lawParts))] sz) (QV D cI cJ cZ [(q_t, .inr (2, [.int v_t_columns, .int v_t_rows, .int v_t_fade, .int z.1, .int v_t_nightHours, .int v_t_nightTimes, .ref q_t_ground, .ref q_t_windows, .ref q_t_lawParts])), (q_t_ground, .inl (cI, 36, .inl v_t_ground)), (q_t_windows, .inl (cI, 6, .inl v_t_windows)), (q_t_lawParts, .inl (cI, 18, .inl z.2))] (va_A [(q_t, .inr (2, [.int v_t_columns, .int v_t_rows, .int v_t_fade, .int v_t_laws, .int v_t_nightHours, .int v_t_nightTimes, .ref q_t_ground, .ref q_t_windows, .ref q_t_lawParts])), (q_t_ground, .inl (cI, 36, .inl v_t_ground)), (q_t_windows, .inl (cI, 6, .inl v_t_windows)), (q_t_lawParts, .inl (cI, 18, .inl v_t_lawParts))] sz)) 0 0 (va_A [(q_t, .inr (2, [.int v_t_columns, .int v_t_rows, .int v_t_fade, .int v_t_laws, .int v_t_nightHours, .int v_t_nightTimes, .ref q_t_ground, .ref q_t_windows, .ref q_t_lawParts])), (q_t_ground, .inl (cI, 36, .inl v_t_ground)), (q_t_windows, .inl (cI, 6, .inl v_t_windows)), (q_t_lawParts, .inl (cI, 18, .inl v_t_lawParts))] sz) := by
  refine mk_met (Qc := fun A => (QV D cI cJ cZ [(q_t, .inr (2, [.int v_t_columns, .int v_t_rows, .int v_t_fade, .int z.1, .int v_t_nightHours, .int v_t_nightTimes, .ref q_t_ground, .ref q_t_windows, .ref q_t_lawParts])), (q_t_ground, .inl (cI, 36, .inl v_t_ground)), (q_t_windows, .inl (cI, 6, .inl v_t_windows)), (q_t_lawParts, .inl (cI, 18, .inl z.2))] A)) RX2 (by decide) rfl (Nat.le_of_ble_eq_true rfl) ?_
  intro p e s m below meth c ls A hx hb hr hml hown hts hlocks hA hK hE hl hD H locs hP hS
  have hl : lv_has ls 4 [(0, .ref q_t), (1, .int x1), (2, .int x2), (3, .int x3)] := hl
  unfold f_X2_addLaw at hf
  refine lv_aload_n hx hb dX2_addLaw_0 rfl (lv_at hl 0 rfl) ?_
  refine va_get (D := D) (ci := 2) (v := .int v_t_laws) (C := RX2) (T := TX2) (N := 9) hx hb hts inX2 hown hK hP 0 rfl rfl 3 (by decide) (hts _ w_143) (fun _ h9 => h9) rfl dX2_addLaw_1 ?_
  refine lv_if_lt (tgt := 16) hx hb dX2_addLaw_4 (by decide) (fun h_1 => ?_) (fun h_1 => ?_)
  · have hf := (if_pos h_1).symm.trans hf
    cases hf
    exact rt_v hx hb hr hlocks hK hP hS dX2_addLaw_16
  · have hf := (if_neg h_1).symm.trans hf
    refine lv_aload_n hx hb dX2_addLaw_7 rfl (lv_at hl 0 rfl) ?_
    refine va_get (D := D) (ci := 2) (v := .int v_t_laws) (C := RX2) (T := TX2) (N := 9) hx hb hts inX2 hown hK hP 0 rfl rfl 3 (by decide) (hts _ w_143) (fun _ h9 => h9) rfl dX2_addLaw_8 ?_
    refine lv_bipush (v := 6) hx hb dX2_addLaw_11 (by decide) ?_
    refine lv_icmp_lt (tgt := 17) hx hb dX2_addLaw_13 (by decide) (fun h_2 => ?_) (fun h_2 => ?_)
    · have hf := (if_pos h_2).symm.trans hf
      refine lv_aload_n hx hb dX2_addLaw_17 rfl (lv_at hl 0 rfl) ?_
      refine va_get (D := D) (ci := 2) (v := .ref q_t_lawParts) (C := RX2) (T := TX2) (N := 9) hx hb hts inX2 hown hK hP 0 rfl rfl 8 (by decide) (hts _ w_152) (fun _ h9 => h9) rfl dX2_addLaw_18 ?_
      refine lv_aload_n hx hb dX2_addLaw_21 rfl (lv_at hl 0 rfl) ?_
      refine va_get (D := D) (ci := 2) (v := .int v_t_laws) (C := RX2) (T := TX2) (N := 9) hx hb hts inX2 hown hK hP 0 rfl rfl 3 (by decide) (hts _ w_143) (fun _ h9 => h9) rfl dX2_addLaw_22 ?_
      refine lv_iconst (v := 3) hx hb dX2_addLaw_25 (by decide) ?_
      refine lv_imul hx hb dX2_addLaw_26 ?_
      refine lv_iload_n hx hb dX2_addLaw_27 rfl (lv_at hl 1 rfl) ?_
      obtain ⟨hin, hf⟩ := gd_some hf
      refine va_iast hx hb hK hP hD hS 3 0 rfl rfl hin dX2_addLaw_28 (fun H locs hP hD hS => ?_)
      have hP : va_P D vwCl [(q_t, .inr (2, [.int v_t_columns, .int v_t_rows, .int v_t_fade, .int v_t_laws, .int v_t_nightHours, .int v_t_nightTimes, .ref q_t_ground, .ref q_t_windows, .ref q_t_lawParts])), (q_t_ground, .inl (cI, 36, .inl v_t_ground)), (q_t_windows, .inl (cI, 6, .inl v_t_windows)), (q_t_lawParts, .inl (cI, 18, .inl (upd v_t_lawParts (Int32.toNatClampNeg (v_t_laws * 3)) x1)))] H := hP
      have hD : va_D A [(q_t, .inr (2, [.int v_t_columns, .int v_t_rows, .int v_t_fade, .int v_t_laws, .int v_t_nightHours, .int v_t_nightTimes, .ref q_t_ground, .ref q_t_windows, .ref q_t_lawParts])), (q_t_ground, .inl (cI, 36, .inl v_t_ground)), (q_t_windows, .inl (cI, 6, .inl v_t_windows)), (q_t_lawParts, .inl (cI, 18, .inl (upd v_t_lawParts (Int32.toNatClampNeg (v_t_laws * 3)) x1)))] := hD
      refine lv_aload_n hx hb dX2_addLaw_29 rfl (lv_at hl 0 rfl) ?_
      refine va_get (D := D) (ci := 2) (v := .ref q_t_lawParts) (C := RX2) (T := TX2) (N := 9) hx hb hts inX2 hown hK hP 0 rfl rfl 8 (by decide) (hts _ w_152) (fun _ h9 => h9) rfl dX2_addLaw_30 ?_
      refine lv_aload_n hx hb dX2_addLaw_33 rfl (lv_at hl 0 rfl) ?_
      refine va_get (D := D) (ci := 2) (v := .int v_t_laws) (C := RX2) (T := TX2) (N := 9) hx hb hts inX2 hown hK hP 0 rfl rfl 3 (by decide) (hts _ w_143) (fun _ h9 => h9) rfl dX2_addLaw_34 ?_
      refine lv_iconst (v := 3) hx hb dX2_addLaw_37 (by decide) ?_
      refine lv_imul hx hb dX2_addLaw_38 ?_
      refine lv_iconst (v := 1) hx hb dX2_addLaw_39 (by decide) ?_
      refine lv_iadd hx hb dX2_addLaw_40 ?_
      refine lv_iload_n hx hb dX2_addLaw_41 rfl (lv_at hl 2 rfl) ?_
      obtain ⟨hin, hf⟩ := gd_some hf
      refine va_iast hx hb hK hP hD hS 3 0 rfl rfl hin dX2_addLaw_42 (fun H locs hP hD hS => ?_)
      have hP : va_P D vwCl [(q_t, .inr (2, [.int v_t_columns, .int v_t_rows, .int v_t_fade, .int v_t_laws, .int v_t_nightHours, .int v_t_nightTimes, .ref q_t_ground, .ref q_t_windows, .ref q_t_lawParts])), (q_t_ground, .inl (cI, 36, .inl v_t_ground)), (q_t_windows, .inl (cI, 6, .inl v_t_windows)), (q_t_lawParts, .inl (cI, 18, .inl (upd (upd v_t_lawParts (Int32.toNatClampNeg (v_t_laws * 3)) x1) (Int32.toNatClampNeg ((v_t_laws * 3) + 1)) x2)))] H := hP
      have hD : va_D A [(q_t, .inr (2, [.int v_t_columns, .int v_t_rows, .int v_t_fade, .int v_t_laws, .int v_t_nightHours, .int v_t_nightTimes, .ref q_t_ground, .ref q_t_windows, .ref q_t_lawParts])), (q_t_ground, .inl (cI, 36, .inl v_t_ground)), (q_t_windows, .inl (cI, 6, .inl v_t_windows)), (q_t_lawParts, .inl (cI, 18, .inl (upd (upd v_t_lawParts (Int32.toNatClampNeg (v_t_laws * 3)) x1) (Int32.toNatClampNeg ((v_t_laws * 3) + 1)) x2)))] := hD
      refine lv_aload_n hx hb dX2_addLaw_43 rfl (lv_at hl 0 rfl) ?_
      refine va_get (D := D) (ci := 2) (v := .ref q_t_lawParts) (C := RX2) (T := TX2) (N := 9) hx hb hts inX2 hown hK hP 0 rfl rfl 8 (by decide) (hts _ w_152) (fun _ h9 => h9) rfl dX2_addLaw_44 ?_
      refine lv_aload_n hx hb dX2_addLaw_47 rfl (lv_at hl 0 rfl) ?_
      refine va_get (D := D) (ci := 2) (v := .int v_t_laws) (C := RX2) (T := TX2) (N := 9) hx hb hts inX2 hown hK hP 0 rfl rfl 3 (by decide) (hts _ w_143) (fun _ h9 => h9) rfl dX2_addLaw_48 ?_
      refine lv_iconst (v := 3) hx hb dX2_addLaw_51 (by decide) ?_
      refine lv_imul hx hb dX2_addLaw_52 ?_
      refine lv_iconst (v := 2) hx hb dX2_addLaw_53 (by decide) ?_
      refine lv_iadd hx hb dX2_addLaw_54 ?_
      refine lv_iload_n hx hb dX2_addLaw_55 rfl (lv_at hl 3 rfl) ?_
      obtain ⟨hin, hf⟩ := gd_some hf
      refine va_iast hx hb hK hP hD hS 3 0 rfl rfl hin dX2_addLaw_56 (fun H locs hP hD hS => ?_)
      have hP : va_P D vwCl [(q_t, .inr (2, [.int v_t_columns, .int v_t_rows, .int v_t_fade, .int v_t_laws, .int v_t_nightHours, .int v_t_nightTimes, .ref q_t_ground, .ref q_t_windows, .ref q_t_lawParts])), (q_t_ground, .inl (cI, 36, .inl v_t_ground)), (q_t_windows, .inl (cI, 6, .inl v_t_windows)), (q_t_lawParts, .inl (cI, 18, .inl (upd (upd (upd v_t_lawParts (Int32.toNatClampNeg (v_t_laws * 3)) x1) (Int32.toNatClampNeg ((v_t_laws * 3) + 1)) x2) (Int32.toNatClampNeg ((v_t_laws * 3) + 2)) x3)))] H := hP
      have hD : va_D A [(q_t, .inr (2, [.int v_t_columns, .int v_t_rows, .int v_t_fade, .int v_t_laws, .int v_t_nightHours, .int v_t_nightTimes, .ref q_t_ground, .ref q_t_windows, .ref q_t_lawParts])), (q_t_ground, .inl (cI, 36, .inl v_t_ground)), (q_t_windows, .inl (cI, 6, .inl v_t_windows)), (q_t_lawParts, .inl (cI, 18, .inl (upd (upd (upd v_t_lawParts (Int32.toNatClampNeg (v_t_laws * 3)) x1) (Int32.toNatClampNeg ((v_t_laws * 3) + 1)) x2) (Int32.toNatClampNeg ((v_t_laws * 3) + 2)) x3)))] := hD
      refine lv_aload_n hx hb dX2_addLaw_57 rfl (lv_at hl 0 rfl) ?_
      refine lv_dup hx hb dX2_addLaw_58 rfl ?_
      refine va_get (D := D) (ci := 2) (v := .int v_t_laws) (C := RX2) (T := TX2) (N := 9) hx hb hts inX2 hown hK hP 0 rfl rfl 3 (by decide) (hts _ w_143) (fun _ h9 => h9) rfl dX2_addLaw_59 ?_
      refine lv_iconst (v := 1) hx hb dX2_addLaw_62 (by decide) ?_
      refine lv_iadd hx hb dX2_addLaw_63 ?_
      refine va_put (D := D) (ci := 2) (v := .int (v_t_laws + 1)) (ty := .int) (C := RX2) (T := TX2) (N := 9) hx hb hts inX2 tyX2 tyX2_ok nmX2 hown hK hP hD hS 0 rfl rfl 3 (by decide) (hts _ w_143) (fun _ h9 => h9) rfl (by decide +kernel) rfl rfl (Nat.le_of_ble_eq_true rfl) dX2_addLaw_64 (fun H locs hP hD hS => ?_)
      have hP : va_P D vwCl [(q_t, .inr (2, [.int v_t_columns, .int v_t_rows, .int v_t_fade, .int (v_t_laws + 1), .int v_t_nightHours, .int v_t_nightTimes, .ref q_t_ground, .ref q_t_windows, .ref q_t_lawParts])), (q_t_ground, .inl (cI, 36, .inl v_t_ground)), (q_t_windows, .inl (cI, 6, .inl v_t_windows)), (q_t_lawParts, .inl (cI, 18, .inl (upd (upd (upd v_t_lawParts (Int32.toNatClampNeg (v_t_laws * 3)) x1) (Int32.toNatClampNeg ((v_t_laws * 3) + 1)) x2) (Int32.toNatClampNeg ((v_t_laws * 3) + 2)) x3)))] H := hP
      have hD : va_D A [(q_t, .inr (2, [.int v_t_columns, .int v_t_rows, .int v_t_fade, .int (v_t_laws + 1), .int v_t_nightHours, .int v_t_nightTimes, .ref q_t_ground, .ref q_t_windows, .ref q_t_lawParts])), (q_t_ground, .inl (cI, 36, .inl v_t_ground)), (q_t_windows, .inl (cI, 6, .inl v_t_windows)), (q_t_lawParts, .inl (cI, 18, .inl (upd (upd (upd v_t_lawParts (Int32.toNatClampNeg (v_t_laws * 3)) x1) (Int32.toNatClampNeg ((v_t_laws * 3) + 1)) x2) (Int32.toNatClampNeg ((v_t_laws * 3) + 2)) x3)))] := hD
      cases hf
      exact rt_v hx hb hr hlocks hK hP hS dX2_addLaw_67
    · have hf := (if_neg h_2).symm.trans hf
      cases hf
      exact rt_v hx hb hr hlocks hK hP hS dX2_addLaw_16

def f_X2_setNight_L16 (v_t_nightTimes : Int32) (x2 : Int32) : Nat → (Int32) → (Int32) → (Int32) → Option (Int32 × Int32)
  | 0, _, _, _ => none
  | n + 1, x4, x5, v_t_nightHours => (if 24 ≤ x5 then (some (v_t_nightHours, v_t_nightTimes)) else (if x4 = x2 then (some (v_t_nightHours, v_t_nightTimes)) else (f_X2_setNight_L16 v_t_nightTimes x2 n ((x4 + 1) - (x4 + 1) / 24 * 24) (x5 + 1) (v_t_nightHours ||| (1 <<< (x4 &&& 31))))))
def f_X2_setNight (v_t_nightHours : Int32) (v_t_nightTimes : Int32) (x1 : Int32) (x2 : Int32) (x3 : Int32) : Option (Int32 × Int32) :=
  (f_X2_setNight_L16 x3 x2 FU x1 0 0)
theorem gv_X2_setNight {own : String} {idx : Nat} (h : Cond.methodLink own idx yX2_setNight ∈ lw_g) : GoodIn lw_g (wsV own idx RX2 yX2_setNight (Cond.code yX2_setNight cX2_setNight 6 none :: lw_g)) := gV h w_496 w_497 w_60 w_498
theorem hd_X2_setNight : yX2_setNight.cls = RX2 ∧ yX2_setNight.cls ≠ "java/lang/invoke/MethodHandle" ∧ yX2_setNight.cls ≠ "java/lang/invoke/VarHandle" ∧ (parseMethodDescriptor yX2_setNight.desc).map (fun d => d.parameters.length) = some 3 := by decide +kernel
set_option maxHeartbeats 4000000 in
set_option maxRecDepth 100000 in
theorem c_X2_setNight (l : Launch) (D : va_G) (cI cJ cZ : ClassId) (en : EnT) (q_t q_t_ground q_t_windows q_t_lawParts : Nat) (sz : Nat) (v_t_columns : Int32) (v_t_rows : Int32) (v_t_fade : Int32) (v_t_laws : Int32) (v_t_nightHours : Int32) (v_t_nightTimes : Int32) (v_t_ground : Nat → Int32) (v_t_windows : Nat → Int32) (v_t_lawParts : Nat → Int32) (x1 : Int32) (x2 : Int32) (x3 : Int32) {z : Int32 × Int32} (hf : f_X2_setNight v_t_nightHours v_t_nightTimes x1 x2 x3 = some z) : Met l yX2_setNight (Cond.code yX2_setNight cX2_setNight 6 none :: lw_g) ({ frames := 0, cells := 0, slots := 0, locals := 0 } : Room) (PC D cI cJ cZ en ([.ref q_t, .int x1, .int x2, .int x3] : List Value) [(q_t, .inr (2, [.int v_t_columns, .int v_t_rows, .int v_t_fade, .int v_t_laws, .int v_t_nightHours, .int v_t_nightTimes, .ref q_t_ground, .ref q_t_windows, .ref q_t_lawParts])), (q_t_ground, .inl (cI, 36, .inl v_t_ground)), (q_t_windows, .inl (cI, 6, .inl v_t_windows)), (q_t_lawParts, .inl (cI, 18, .inl v_t_lawParts))] sz) (QV D cI cJ cZ [(q_t, .inr (2, [.int v_t_columns, .int v_t_rows, .int v_t_fade, .int v_t_laws, .int z.1, .int z.2, .ref q_t_ground, .ref q_t_windows, .ref q_t_lawParts])), (q_t_ground, .inl (cI, 36, .inl v_t_ground)), (q_t_windows, .inl (cI, 6, .inl v_t_windows)), (q_t_lawParts, .inl (cI, 18, .inl v_t_lawParts))] (va_A [(q_t, .inr (2, [.int v_t_columns, .int v_t_rows, .int v_t_fade, .int v_t_laws, .int v_t_nightHours, .int v_t_nightTimes, .ref q_t_ground, .ref q_t_windows, .ref q_t_lawParts])), (q_t_ground, .inl (cI, 36, .inl v_t_ground)), (q_t_windows, .inl (cI, 6, .inl v_t_windows)), (q_t_lawParts, .inl (cI, 18, .inl v_t_lawParts))] sz)) 0 0 (va_A [(q_t, .inr (2, [.int v_t_columns, .int v_t_rows, .int v_t_fade, .int v_t_laws, .int v_t_nightHours, .int v_t_nightTimes, .ref q_t_ground, .ref q_t_windows, .ref q_t_lawParts])), (q_t_ground, .inl (cI, 36, .inl v_t_ground)), (q_t_windows, .inl (cI, 6, .inl v_t_windows)), (q_t_lawParts, .inl (cI, 18, .inl v_t_lawParts))] sz) := by
  refine mk_met (Qc := fun A => (QV D cI cJ cZ [(q_t, .inr (2, [.int v_t_columns, .int v_t_rows, .int v_t_fade, .int v_t_laws, .int z.1, .int z.2, .ref q_t_ground, .ref q_t_windows, .ref q_t_lawParts])), (q_t_ground, .inl (cI, 36, .inl v_t_ground)), (q_t_windows, .inl (cI, 6, .inl v_t_windows)), (q_t_lawParts, .inl (cI, 18, .inl v_t_lawParts))] A)) RX2 (by decide) rfl (Nat.le_of_ble_eq_true rfl) ?_
  intro p e s m below meth c ls A hx hb hr hml hown hts hlocks hA hK hE hl hD H locs hP hS
  have hl : lv_has ls 6 [(0, .ref q_t), (1, .int x1), (2, .int x2), (3, .int x3)] := hl
  unfold f_X2_setNight at hf
  refine lv_aload_n hx hb dX2_setNight_0 rfl (lv_at hl 0 rfl) ?_
  refine lv_iconst (v := 0) hx hb dX2_setNight_1 (by decide) ?_
  refine va_put (D := D) (ci := 2) (v := .int 0) (ty := .int) (C := RX2) (T := TX2) (N := 9) hx hb hts inX2 tyX2 tyX2_ok nmX2 hown hK hP hD hS 0 rfl rfl 4 (by decide) (hts _ w_146) (fun _ h9 => h9) rfl (by decide +kernel) rfl rfl (Nat.le_of_ble_eq_true rfl) dX2_setNight_2 (fun H locs hP hD hS => ?_)
  have hP : va_P D vwCl [(q_t, .inr (2, [.int v_t_columns, .int v_t_rows, .int v_t_fade, .int v_t_laws, .int 0, .int v_t_nightTimes, .ref q_t_ground, .ref q_t_windows, .ref q_t_lawParts])), (q_t_ground, .inl (cI, 36, .inl v_t_ground)), (q_t_windows, .inl (cI, 6, .inl v_t_windows)), (q_t_lawParts, .inl (cI, 18, .inl v_t_lawParts))] H := hP
  have hD : va_D A [(q_t, .inr (2, [.int v_t_columns, .int v_t_rows, .int v_t_fade, .int v_t_laws, .int 0, .int v_t_nightTimes, .ref q_t_ground, .ref q_t_windows, .ref q_t_lawParts])), (q_t_ground, .inl (cI, 36, .inl v_t_ground)), (q_t_windows, .inl (cI, 6, .inl v_t_windows)), (q_t_lawParts, .inl (cI, 18, .inl v_t_lawParts))] := hD
  refine lv_aload_n hx hb dX2_setNight_5 rfl (lv_at hl 0 rfl) ?_
  refine lv_iload_n hx hb dX2_setNight_6 rfl (lv_at hl 3 rfl) ?_
  refine va_put (D := D) (ci := 2) (v := .int x3) (ty := .int) (C := RX2) (T := TX2) (N := 9) hx hb hts inX2 tyX2 tyX2_ok nmX2 hown hK hP hD hS 0 rfl rfl 5 (by decide) (hts _ w_148) (fun _ h9 => h9) rfl (by decide +kernel) rfl rfl (Nat.le_of_ble_eq_true rfl) dX2_setNight_7 (fun H locs hP hD hS => ?_)
  have hP : va_P D vwCl [(q_t, .inr (2, [.int v_t_columns, .int v_t_rows, .int v_t_fade, .int v_t_laws, .int 0, .int x3, .ref q_t_ground, .ref q_t_windows, .ref q_t_lawParts])), (q_t_ground, .inl (cI, 36, .inl v_t_ground)), (q_t_windows, .inl (cI, 6, .inl v_t_windows)), (q_t_lawParts, .inl (cI, 18, .inl v_t_lawParts))] H := hP
  have hD : va_D A [(q_t, .inr (2, [.int v_t_columns, .int v_t_rows, .int v_t_fade, .int v_t_laws, .int 0, .int x3, .ref q_t_ground, .ref q_t_windows, .ref q_t_lawParts])), (q_t_ground, .inl (cI, 36, .inl v_t_ground)), (q_t_windows, .inl (cI, 6, .inl v_t_windows)), (q_t_lawParts, .inl (cI, 18, .inl v_t_lawParts))] := hD
  refine lv_iload_n hx hb dX2_setNight_10 rfl (lv_at hl 1 rfl) ?_
  refine lv_istore (lv' := [(4, .int x1), (0, .ref q_t), (1, .int x1), (2, .int x2), (3, .int x3)]) hx hb dX2_setNight_11 hl (by decide) rfl (fun ls hl => ?_)
  refine lv_iconst (v := 0) hx hb dX2_setNight_13 (by decide) ?_
  refine lv_istore (lv' := [(5, .int 0), (4, .int x1), (0, .ref q_t), (1, .int x1), (2, .int x2), (3, .int x3)]) hx hb dX2_setNight_14 hl (by decide) rfl (fun ls hl => ?_)
  have L16_4 : ∀ (n : Nat) (x4_1 : Int32) (x5_2 : Int32) (v_t_nightHours_3 : Int32), f_X2_setNight_L16 x3 x2 n x4_1 x5_2 v_t_nightHours_3 = some z → ∀ (H : Heap) (locs : List Loc) (ls : Array Slot), va_P D vwCl [(q_t, .inr (2, [.int v_t_columns, .int v_t_rows, .int v_t_fade, .int v_t_laws, .int v_t_nightHours_3, .int x3, .ref q_t_ground, .ref q_t_windows, .ref q_t_lawParts])), (q_t_ground, .inl (cI, 36, .inl v_t_ground)), (q_t_windows, .inl (cI, 6, .inl v_t_windows)), (q_t_lawParts, .inl (cI, 18, .inl v_t_lawParts))] H → va_D A [(q_t, .inr (2, [.int v_t_columns, .int v_t_rows, .int v_t_fade, .int v_t_laws, .int v_t_nightHours_3, .int x3, .ref q_t_ground, .ref q_t_windows, .ref q_t_lawParts])), (q_t_ground, .inl (cI, 36, .inl v_t_ground)), (q_t_windows, .inl (cI, 6, .inl v_t_windows)), (q_t_lawParts, .inl (cI, 18, .inl v_t_lawParts))] → va_S A s.heap H locs → lv_has ls 6 [(0, .ref q_t), (2, .int x2), (4, .int x4_1), (5, .int x5_2)] → W p l e ({ frames := 0, cells := 0, slots := 0, locals := 0 } : Room) s m ([.ref q_t, .int x1, .int x2, .int x3] : List Value).toArray below meth c H locs 0 0 (MQ below (QV D cI cJ cZ [(q_t, .inr (2, [.int v_t_columns, .int v_t_rows, .int v_t_fade, .int v_t_laws, .int z.1, .int z.2, .ref q_t_ground, .ref q_t_windows, .ref q_t_lawParts])), (q_t_ground, .inl (cI, 36, .inl v_t_ground)), (q_t_windows, .inl (cI, 6, .inl v_t_windows)), (q_t_lawParts, .inl (cI, 18, .inl v_t_lawParts))] A) ([.ref q_t, .int x1, .int x2, .int x3] : List Value).toArray s 0 0 A) (F0 m 16 ls []) := by
    intro n
    induction n with
    | zero =>
      intro x4_1 x5_2 v_t_nightHours_3 hf
      cases hf
    | succ n ih_5 =>
      intro x4_1 x5_2 v_t_nightHours_3 hf H locs ls hP hD hS hl
      rw [f_X2_setNight_L16] at hf
      refine lv_iload hx hb dX2_setNight_16 (lv_at hl 3 rfl) ?_
      refine lv_bipush (v := 24) hx hb dX2_setNight_18 (by decide) ?_
      refine lv_icmp_ge (tgt := 57) hx hb dX2_setNight_20 (by decide) (fun h_6 => ?_) (fun h_6 => ?_)
      · have hf := (if_pos h_6).symm.trans hf
        cases hf
        exact rt_v hx hb hr hlocks hK hP hS dX2_setNight_57
      · have hf := (if_neg h_6).symm.trans hf
        refine lv_iload hx hb dX2_setNight_23 (lv_at hl 2 rfl) ?_
        refine lv_iload_n hx hb dX2_setNight_25 rfl (lv_at hl 1 rfl) ?_
        refine lv_icmp_eq (tgt := 57) hx hb dX2_setNight_26 (by decide) (fun h_7 => ?_) (fun h_7 => ?_)
        · have hf := (if_pos h_7).symm.trans hf
          cases hf
          exact rt_v hx hb hr hlocks hK hP hS dX2_setNight_57
        · have hf := (if_neg h_7).symm.trans hf
          refine lv_aload_n hx hb dX2_setNight_29 rfl (lv_at hl 0 rfl) ?_
          refine lv_dup hx hb dX2_setNight_30 rfl ?_
          refine va_get (D := D) (ci := 2) (v := .int v_t_nightHours_3) (C := RX2) (T := TX2) (N := 9) hx hb hts inX2 hown hK hP 0 rfl rfl 4 (by decide) (hts _ w_146) (fun _ h9 => h9) rfl dX2_setNight_31 ?_
          refine lv_iconst (v := 1) hx hb dX2_setNight_34 (by decide) ?_
          refine lv_iload hx hb dX2_setNight_35 (lv_at hl 2 rfl) ?_
          refine lv_ishl hx hb dX2_setNight_37 ?_
          refine lv_ior hx hb dX2_setNight_38 ?_
          refine va_put (D := D) (ci := 2) (v := .int (v_t_nightHours_3 ||| (1 <<< (x4_1 &&& 31)))) (ty := .int) (C := RX2) (T := TX2) (N := 9) hx hb hts inX2 tyX2 tyX2_ok nmX2 hown hK hP hD hS 0 rfl rfl 4 (by decide) (hts _ w_146) (fun _ h9 => h9) rfl (by decide +kernel) rfl rfl (Nat.le_of_ble_eq_true rfl) dX2_setNight_39 (fun H locs hP hD hS => ?_)
          have hP : va_P D vwCl [(q_t, .inr (2, [.int v_t_columns, .int v_t_rows, .int v_t_fade, .int v_t_laws, .int (v_t_nightHours_3 ||| (1 <<< (x4_1 &&& 31))), .int x3, .ref q_t_ground, .ref q_t_windows, .ref q_t_lawParts])), (q_t_ground, .inl (cI, 36, .inl v_t_ground)), (q_t_windows, .inl (cI, 6, .inl v_t_windows)), (q_t_lawParts, .inl (cI, 18, .inl v_t_lawParts))] H := hP
          have hD : va_D A [(q_t, .inr (2, [.int v_t_columns, .int v_t_rows, .int v_t_fade, .int v_t_laws, .int (v_t_nightHours_3 ||| (1 <<< (x4_1 &&& 31))), .int x3, .ref q_t_ground, .ref q_t_windows, .ref q_t_lawParts])), (q_t_ground, .inl (cI, 36, .inl v_t_ground)), (q_t_windows, .inl (cI, 6, .inl v_t_windows)), (q_t_lawParts, .inl (cI, 18, .inl v_t_lawParts))] := hD
          refine lv_iload hx hb dX2_setNight_42 (lv_at hl 2 rfl) ?_
          refine lv_iconst (v := 1) hx hb dX2_setNight_44 (by decide) ?_
          refine lv_iadd hx hb dX2_setNight_45 ?_
          refine lv_bipush (v := 24) hx hb dX2_setNight_46 (by decide) ?_
          refine lv_irem hx hb dX2_setNight_48 (by decide) ?_
          refine lv_istore (lv' := [(4, .int ((x4_1 + 1) - (x4_1 + 1) / 24 * 24)), (0, .ref q_t), (2, .int x2), (5, .int x5_2)]) hx hb dX2_setNight_49 hl (by decide) rfl (fun ls hl => ?_)
          refine lv_iinc (v := (x5_2 + 1)) (lv' := [(5, .int (x5_2 + 1)), (4, .int ((x4_1 + 1) - (x4_1 + 1) / 24 * 24)), (0, .ref q_t), (2, .int x2)]) hx hb dX2_setNight_51 hl (k := 3) rfl rfl (by decide) rfl (fun ls hl => ?_)
          refine lv_goto (tgt := 16) hx hb dX2_setNight_54 (by decide) ?_
          exact ih_5 ((x4_1 + 1) - (x4_1 + 1) / 24 * 24) (x5_2 + 1) (v_t_nightHours_3 ||| (1 <<< (x4_1 &&& 31))) hf _ _ _ hP hD hS (lv_sub hl [2, 3, 1, 0] rfl)
  exact L16_4 FU x1 0 0 hf _ _ _ hP hD hS (lv_sub hl [2, 4, 1, 0] rfl)

def f_X2_timesIn (v_t_nightHours : Int32) (v_t_nightTimes : Int32) (x1 : Int32) : Option (Int32) :=
  (if ((v_t_nightHours >>> (x1 &&& 31)) &&& 1) = 1 then (some v_t_nightTimes) else (some 1))
theorem gv_X2_timesIn {own : String} {idx : Nat} (h : Cond.methodLink own idx yX2_timesIn ∈ lw_g) : GoodIn lw_g (wsV own idx RX2 yX2_timesIn (Cond.code yX2_timesIn cX2_timesIn 2 (some .int) :: lw_g)) := gV h w_659 w_660 w_60 w_661
theorem hd_X2_timesIn : yX2_timesIn.cls = RX2 ∧ yX2_timesIn.cls ≠ "java/lang/invoke/MethodHandle" ∧ yX2_timesIn.cls ≠ "java/lang/invoke/VarHandle" ∧ (parseMethodDescriptor yX2_timesIn.desc).map (fun d => d.parameters.length) = some 1 := by decide +kernel
set_option maxHeartbeats 4000000 in
set_option maxRecDepth 100000 in
theorem c_X2_timesIn (l : Launch) (D : va_G) (cI cJ cZ : ClassId) (en : EnT) (q_t q_t_ground q_t_windows q_t_lawParts : Nat) (sz : Nat) (v_t_columns : Int32) (v_t_rows : Int32) (v_t_fade : Int32) (v_t_laws : Int32) (v_t_nightHours : Int32) (v_t_nightTimes : Int32) (v_t_ground : Nat → Int32) (v_t_windows : Nat → Int32) (v_t_lawParts : Nat → Int32) (x1 : Int32) {z : Int32} (hf : f_X2_timesIn v_t_nightHours v_t_nightTimes x1 = some z) : Met l yX2_timesIn (Cond.code yX2_timesIn cX2_timesIn 2 (some .int) :: lw_g) ({ frames := 0, cells := 0, slots := 0, locals := 0 } : Room) (PC D cI cJ cZ en ([.ref q_t, .int x1] : List Value) [(q_t, .inr (2, [.int v_t_columns, .int v_t_rows, .int v_t_fade, .int v_t_laws, .int v_t_nightHours, .int v_t_nightTimes, .ref q_t_ground, .ref q_t_windows, .ref q_t_lawParts])), (q_t_ground, .inl (cI, 36, .inl v_t_ground)), (q_t_windows, .inl (cI, 6, .inl v_t_windows)), (q_t_lawParts, .inl (cI, 18, .inl v_t_lawParts))] sz) (QI D cI cJ cZ [(q_t, .inr (2, [.int v_t_columns, .int v_t_rows, .int v_t_fade, .int v_t_laws, .int v_t_nightHours, .int v_t_nightTimes, .ref q_t_ground, .ref q_t_windows, .ref q_t_lawParts])), (q_t_ground, .inl (cI, 36, .inl v_t_ground)), (q_t_windows, .inl (cI, 6, .inl v_t_windows)), (q_t_lawParts, .inl (cI, 18, .inl v_t_lawParts))] z (va_A [(q_t, .inr (2, [.int v_t_columns, .int v_t_rows, .int v_t_fade, .int v_t_laws, .int v_t_nightHours, .int v_t_nightTimes, .ref q_t_ground, .ref q_t_windows, .ref q_t_lawParts])), (q_t_ground, .inl (cI, 36, .inl v_t_ground)), (q_t_windows, .inl (cI, 6, .inl v_t_windows)), (q_t_lawParts, .inl (cI, 18, .inl v_t_lawParts))] sz)) 0 0 (va_A [(q_t, .inr (2, [.int v_t_columns, .int v_t_rows, .int v_t_fade, .int v_t_laws, .int v_t_nightHours, .int v_t_nightTimes, .ref q_t_ground, .ref q_t_windows, .ref q_t_lawParts])), (q_t_ground, .inl (cI, 36, .inl v_t_ground)), (q_t_windows, .inl (cI, 6, .inl v_t_windows)), (q_t_lawParts, .inl (cI, 18, .inl v_t_lawParts))] sz) := by
  refine mk_met (Qc := fun A => (QI D cI cJ cZ [(q_t, .inr (2, [.int v_t_columns, .int v_t_rows, .int v_t_fade, .int v_t_laws, .int v_t_nightHours, .int v_t_nightTimes, .ref q_t_ground, .ref q_t_windows, .ref q_t_lawParts])), (q_t_ground, .inl (cI, 36, .inl v_t_ground)), (q_t_windows, .inl (cI, 6, .inl v_t_windows)), (q_t_lawParts, .inl (cI, 18, .inl v_t_lawParts))] z A)) RX2 (by decide) rfl (Nat.le_of_ble_eq_true rfl) ?_
  intro p e s m below meth c ls A hx hb hr hml hown hts hlocks hA hK hE hl hD H locs hP hS
  have hl : lv_has ls 2 [(0, .ref q_t), (1, .int x1)] := hl
  unfold f_X2_timesIn at hf
  refine lv_aload_n hx hb dX2_timesIn_0 rfl (lv_at hl 0 rfl) ?_
  refine va_get (D := D) (ci := 2) (v := .int v_t_nightHours) (C := RX2) (T := TX2) (N := 9) hx hb hts inX2 hown hK hP 0 rfl rfl 4 (by decide) (hts _ w_146) (fun _ h9 => h9) rfl dX2_timesIn_1 ?_
  refine lv_iload_n hx hb dX2_timesIn_4 rfl (lv_at hl 1 rfl) ?_
  refine lv_ishr hx hb dX2_timesIn_5 ?_
  refine lv_iconst (v := 1) hx hb dX2_timesIn_6 (by decide) ?_
  refine lv_iand hx hb dX2_timesIn_7 ?_
  refine lv_iconst (v := 1) hx hb dX2_timesIn_8 (by decide) ?_
  refine lv_icmp_ne (tgt := 19) hx hb dX2_timesIn_9 (by decide) (fun h_1 => ?_) (fun h_1 => ?_)
  · have hf := (if_neg h_1).symm.trans hf
    refine lv_iconst (v := 1) hx hb dX2_timesIn_19 (by decide) ?_
    cases hf
    exact rt_i hx hb hr hlocks hK hP hS dX2_timesIn_20
  · have hf := (if_pos h_1).symm.trans hf
    refine lv_aload_n hx hb dX2_timesIn_12 rfl (lv_at hl 0 rfl) ?_
    refine va_get (D := D) (ci := 2) (v := .int v_t_nightTimes) (C := RX2) (T := TX2) (N := 9) hx hb hts inX2 hown hK hP 0 rfl rfl 5 (by decide) (hts _ w_148) (fun _ h9 => h9) rfl dX2_timesIn_13 ?_
    refine lv_goto (tgt := 20) hx hb dX2_timesIn_16 (by decide) ?_
    cases hf
    exact rt_i hx hb hr hlocks hK hP hS dX2_timesIn_20

def f_X2_ahead (v_t_columns : Int32) (v_t_rows : Int32) (x1 : Int32) (x2 : Int32) : Option (Int32) :=
  (f_X2_columnOf v_t_columns x1).bind (fun z3 => gd (ib (x2 &&& 7) 8) ((f_X2_rowOf v_t_columns x1).bind (fun z17 => gd (ib (x2 &&& 7) 8) ((f_X2_cellAt v_t_columns v_t_rows (z3 + (colF (Int32.toNatClampNeg (x2 &&& 7)))) (z17 + (rowF (Int32.toNatClampNeg (x2 &&& 7))))).bind (fun z29 => (some z29))))))
theorem gv_X2_ahead {own : String} {idx : Nat} (h : Cond.methodLink own idx yX2_ahead ∈ lw_g) : GoodIn lw_g (wsV own idx RX2 yX2_ahead (Cond.code yX2_ahead cX2_ahead 3 (some .int) :: lw_g)) := gV h w_594 w_595 w_60 w_596
theorem hd_X2_ahead : yX2_ahead.cls = RX2 ∧ yX2_ahead.cls ≠ "java/lang/invoke/MethodHandle" ∧ yX2_ahead.cls ≠ "java/lang/invoke/VarHandle" ∧ (parseMethodDescriptor yX2_ahead.desc).map (fun d => d.parameters.length) = some 2 := by decide +kernel
set_option maxHeartbeats 4000000 in
set_option maxRecDepth 100000 in
theorem c_X2_ahead (l : Launch) (D : va_G) (cI cJ cZ : ClassId) (en : EnT) (q_t q_t_ground q_t_windows q_t_lawParts : Nat) (sz : Nat) (v_t_columns : Int32) (v_t_rows : Int32) (v_t_fade : Int32) (v_t_laws : Int32) (v_t_nightHours : Int32) (v_t_nightTimes : Int32) (v_t_ground : Nat → Int32) (v_t_windows : Nat → Int32) (v_t_lawParts : Nat → Int32) (x1 : Int32) (x2 : Int32) {z : Int32} (hf : f_X2_ahead v_t_columns v_t_rows x1 x2 = some z) : Met l yX2_ahead (Cond.code yX2_ahead cX2_ahead 3 (some .int) :: lw_g) ({ frames := 1, cells := 0, slots := 0, locals := 22 } : Room) (PC D cI cJ cZ en ([.ref q_t, .int x1, .int x2] : List Value) [(q_t, .inr (2, [.int v_t_columns, .int v_t_rows, .int v_t_fade, .int v_t_laws, .int v_t_nightHours, .int v_t_nightTimes, .ref q_t_ground, .ref q_t_windows, .ref q_t_lawParts])), (q_t_ground, .inl (cI, 36, .inl v_t_ground)), (q_t_windows, .inl (cI, 6, .inl v_t_windows)), (q_t_lawParts, .inl (cI, 18, .inl v_t_lawParts))] sz) (QI D cI cJ cZ [(q_t, .inr (2, [.int v_t_columns, .int v_t_rows, .int v_t_fade, .int v_t_laws, .int v_t_nightHours, .int v_t_nightTimes, .ref q_t_ground, .ref q_t_windows, .ref q_t_lawParts])), (q_t_ground, .inl (cI, 36, .inl v_t_ground)), (q_t_windows, .inl (cI, 6, .inl v_t_windows)), (q_t_lawParts, .inl (cI, 18, .inl v_t_lawParts))] z (va_A [(q_t, .inr (2, [.int v_t_columns, .int v_t_rows, .int v_t_fade, .int v_t_laws, .int v_t_nightHours, .int v_t_nightTimes, .ref q_t_ground, .ref q_t_windows, .ref q_t_lawParts])), (q_t_ground, .inl (cI, 36, .inl v_t_ground)), (q_t_windows, .inl (cI, 6, .inl v_t_windows)), (q_t_lawParts, .inl (cI, 18, .inl v_t_lawParts))] sz)) 0 0 (va_A [(q_t, .inr (2, [.int v_t_columns, .int v_t_rows, .int v_t_fade, .int v_t_laws, .int v_t_nightHours, .int v_t_nightTimes, .ref q_t_ground, .ref q_t_windows, .ref q_t_lawParts])), (q_t_ground, .inl (cI, 36, .inl v_t_ground)), (q_t_windows, .inl (cI, 6, .inl v_t_windows)), (q_t_lawParts, .inl (cI, 18, .inl v_t_lawParts))] sz) := by
  refine mk_met (Qc := fun A => (QI D cI cJ cZ [(q_t, .inr (2, [.int v_t_columns, .int v_t_rows, .int v_t_fade, .int v_t_laws, .int v_t_nightHours, .int v_t_nightTimes, .ref q_t_ground, .ref q_t_windows, .ref q_t_lawParts])), (q_t_ground, .inl (cI, 36, .inl v_t_ground)), (q_t_windows, .inl (cI, 6, .inl v_t_windows)), (q_t_lawParts, .inl (cI, 18, .inl v_t_lawParts))] z A)) RX2 (by decide) rfl (Nat.le_of_ble_eq_true rfl) ?_
  intro p e s m below meth c ls A hx hb hr hml hown hts hlocks hA hK hE hl hD H locs hP hS
  have hl : lv_has ls 3 [(0, .ref q_t), (1, .int x1), (2, .int x2)] := hl
  unfold f_X2_ahead at hf
  refine lv_aload_n hx hb dX2_ahead_0 rfl (lv_at hl 0 rfl) ?_
  refine lv_aload_n hx hb dX2_ahead_1 rfl (lv_at hl 0 rfl) ?_
  refine lv_iload_n hx hb dX2_ahead_2 rfl (lv_at hl 1 rfl) ?_
  obtain ⟨z3_1, hz3_1, hf⟩ := bd_some hf
  refine cVi (rest := [.ref q_t]) ⟨hx, hb, hml, hown, hts⟩ hE hK hP hD hS hA (c_X2_columnOf l D cI cJ cZ en q_t q_t_ground q_t_windows q_t_lawParts H.size v_t_columns v_t_rows v_t_fade v_t_laws v_t_nightHours v_t_nightTimes v_t_ground v_t_windows v_t_lawParts x1 hz3_1) (gv_X2_columnOf w_597) hd_X2_columnOf ⟨rfl, rfl⟩ ⟨by decide, by decide⟩ [0, 1, 2, 3] rfl rfl rfl 2 rfl rfl 0 rfl  hl rfl (Nat.le_of_ble_eq_true rfl) ⟨Nat.zero_le _, Nat.zero_le _⟩ dX2_ahead_3 (fun H locs hP hD hS => ?_)
  have hP : va_P D vwCl [(q_t, .inr (2, [.int v_t_columns, .int v_t_rows, .int v_t_fade, .int v_t_laws, .int v_t_nightHours, .int v_t_nightTimes, .ref q_t_ground, .ref q_t_windows, .ref q_t_lawParts])), (q_t_ground, .inl (cI, 36, .inl v_t_ground)), (q_t_windows, .inl (cI, 6, .inl v_t_windows)), (q_t_lawParts, .inl (cI, 18, .inl v_t_lawParts))] H := hP
  have hD : va_D A [(q_t, .inr (2, [.int v_t_columns, .int v_t_rows, .int v_t_fade, .int v_t_laws, .int v_t_nightHours, .int v_t_nightTimes, .ref q_t_ground, .ref q_t_windows, .ref q_t_lawParts])), (q_t_ground, .inl (cI, 36, .inl v_t_ground)), (q_t_windows, .inl (cI, 6, .inl v_t_windows)), (q_t_lawParts, .inl (cI, 18, .inl v_t_lawParts))] := hD
  refine va_gets hx hb hE.2.2.1 hS hown (hts _ w_601) (fun _ h9 => h9) dX2_ahead_6 ?_
  refine lv_iload_n hx hb dX2_ahead_9 rfl (lv_at hl 2 rfl) ?_
  refine lv_bipush (v := 7) hx hb dX2_ahead_10 (by decide) ?_
  refine lv_iand hx hb dX2_ahead_12 ?_
  obtain ⟨hin, hf⟩ := gd_some hf
  refine va_ti hx hb hE.2.2.2.1 hS hin rfl dX2_ahead_13 ?_
  refine lv_iadd hx hb dX2_ahead_14 ?_
  refine lv_aload_n hx hb dX2_ahead_15 rfl (lv_at hl 0 rfl) ?_
  refine lv_iload_n hx hb dX2_ahead_16 rfl (lv_at hl 1 rfl) ?_
  obtain ⟨z17_2, hz17_2, hf⟩ := bd_some hf
  refine cVi (rest := [.int (z3_1 + (colF (Int32.toNatClampNeg (x2 &&& 7)))), .ref q_t]) ⟨hx, hb, hml, hown, hts⟩ hE hK hP hD hS hA (c_X2_rowOf l D cI cJ cZ en q_t q_t_ground q_t_windows q_t_lawParts H.size v_t_columns v_t_rows v_t_fade v_t_laws v_t_nightHours v_t_nightTimes v_t_ground v_t_windows v_t_lawParts x1 hz17_2) (gv_X2_rowOf w_603) hd_X2_rowOf ⟨rfl, rfl⟩ ⟨by decide, by decide⟩ [0, 1, 2, 3] rfl rfl rfl 2 rfl rfl 0 rfl  hl rfl (Nat.le_of_ble_eq_true rfl) ⟨Nat.zero_le _, Nat.zero_le _⟩ dX2_ahead_17 (fun H locs hP hD hS => ?_)
  have hP : va_P D vwCl [(q_t, .inr (2, [.int v_t_columns, .int v_t_rows, .int v_t_fade, .int v_t_laws, .int v_t_nightHours, .int v_t_nightTimes, .ref q_t_ground, .ref q_t_windows, .ref q_t_lawParts])), (q_t_ground, .inl (cI, 36, .inl v_t_ground)), (q_t_windows, .inl (cI, 6, .inl v_t_windows)), (q_t_lawParts, .inl (cI, 18, .inl v_t_lawParts))] H := hP
  have hD : va_D A [(q_t, .inr (2, [.int v_t_columns, .int v_t_rows, .int v_t_fade, .int v_t_laws, .int v_t_nightHours, .int v_t_nightTimes, .ref q_t_ground, .ref q_t_windows, .ref q_t_lawParts])), (q_t_ground, .inl (cI, 36, .inl v_t_ground)), (q_t_windows, .inl (cI, 6, .inl v_t_windows)), (q_t_lawParts, .inl (cI, 18, .inl v_t_lawParts))] := hD
  refine va_gets hx hb hE.2.2.2.2.1 hS hown (hts _ w_607) (fun _ h9 => h9) dX2_ahead_20 ?_
  refine lv_iload_n hx hb dX2_ahead_23 rfl (lv_at hl 2 rfl) ?_
  refine lv_bipush (v := 7) hx hb dX2_ahead_24 (by decide) ?_
  refine lv_iand hx hb dX2_ahead_26 ?_
  obtain ⟨hin, hf⟩ := gd_some hf
  refine va_ti hx hb hE.2.2.2.2.2.1 hS hin rfl dX2_ahead_27 ?_
  refine lv_iadd hx hb dX2_ahead_28 ?_
  obtain ⟨z29_3, hz29_3, hf⟩ := bd_some hf
  refine cVi (rest := []) ⟨hx, hb, hml, hown, hts⟩ hE hK hP hD hS hA (c_X2_cellAt l D cI cJ cZ en q_t q_t_ground q_t_windows q_t_lawParts H.size v_t_columns v_t_rows v_t_fade v_t_laws v_t_nightHours v_t_nightTimes v_t_ground v_t_windows v_t_lawParts (z3_1 + (colF (Int32.toNatClampNeg (x2 &&& 7)))) (z17_2 + (rowF (Int32.toNatClampNeg (x2 &&& 7)))) hz29_3) (gv_X2_cellAt w_609) hd_X2_cellAt ⟨rfl, rfl⟩ ⟨by decide, by decide⟩ [0, 1, 2, 3] rfl rfl rfl 2 rfl rfl 0 rfl  hl rfl (Nat.le_of_ble_eq_true rfl) ⟨Nat.zero_le _, Nat.zero_le _⟩ dX2_ahead_29 (fun H locs hP hD hS => ?_)
  have hP : va_P D vwCl [(q_t, .inr (2, [.int v_t_columns, .int v_t_rows, .int v_t_fade, .int v_t_laws, .int v_t_nightHours, .int v_t_nightTimes, .ref q_t_ground, .ref q_t_windows, .ref q_t_lawParts])), (q_t_ground, .inl (cI, 36, .inl v_t_ground)), (q_t_windows, .inl (cI, 6, .inl v_t_windows)), (q_t_lawParts, .inl (cI, 18, .inl v_t_lawParts))] H := hP
  have hD : va_D A [(q_t, .inr (2, [.int v_t_columns, .int v_t_rows, .int v_t_fade, .int v_t_laws, .int v_t_nightHours, .int v_t_nightTimes, .ref q_t_ground, .ref q_t_windows, .ref q_t_lawParts])), (q_t_ground, .inl (cI, 36, .inl v_t_ground)), (q_t_windows, .inl (cI, 6, .inl v_t_windows)), (q_t_lawParts, .inl (cI, 18, .inl v_t_lawParts))] := hD
  cases hf
  exact rt_i hx hb hr hlocks hK hP hS dX2_ahead_32

def f_X2_wayBack (v_t_columns : Int32) (v_t_rows : Int32) (v_t_ground : Nat → Int32) (x1 : Int32) (x2 : Int32) : Option (Int32) :=
  (if (x2 &&& 1) = 0 then (some ((x2 + 4) &&& 7)) else (f_X2_columnOf v_t_columns x1).bind (fun z19 => gd (ib (x2 &&& 7) 8) ((f_X2_rowOf v_t_columns x1).bind (fun z33 => (f_X2_cellAt v_t_columns v_t_rows (z19 + (colF (Int32.toNatClampNeg (x2 &&& 7)))) z33).bind (fun z36 => (f_X2_isRock v_t_columns v_t_rows v_t_ground z36).bind (fun z39 => (f_X2_columnOf v_t_columns x1).bind (fun z48 => (f_X2_rowOf v_t_columns x1).bind (fun z53 => gd (ib (x2 &&& 7) 8) ((f_X2_cellAt v_t_columns v_t_rows z48 (z53 + (rowF (Int32.toNatClampNeg (x2 &&& 7))))).bind (fun z65 => (f_X2_isRock v_t_columns v_t_rows v_t_ground z65).bind (fun z68 => (if z39 = z68 then (some ((x2 + 4) &&& 7)) else (if z39 = 0 then (some ((12 - x2) &&& 7)) else (some ((8 - x2) &&& 7)))))))))))))))
theorem gv_X2_wayBack {own : String} {idx : Nat} (h : Cond.methodLink own idx yX2_wayBack ∈ lw_g) : GoodIn lw_g (wsV own idx RX2 yX2_wayBack (Cond.code yX2_wayBack cX2_wayBack 6 (some .int) :: lw_g)) := gV h w_620 w_621 w_60 w_622
theorem hd_X2_wayBack : yX2_wayBack.cls = RX2 ∧ yX2_wayBack.cls ≠ "java/lang/invoke/MethodHandle" ∧ yX2_wayBack.cls ≠ "java/lang/invoke/VarHandle" ∧ (parseMethodDescriptor yX2_wayBack.desc).map (fun d => d.parameters.length) = some 2 := by decide +kernel
set_option maxHeartbeats 4000000 in
set_option maxRecDepth 100000 in
theorem c_X2_wayBack (l : Launch) (D : va_G) (cI cJ cZ : ClassId) (en : EnT) (q_t q_t_ground q_t_windows q_t_lawParts : Nat) (sz : Nat) (v_t_columns : Int32) (v_t_rows : Int32) (v_t_fade : Int32) (v_t_laws : Int32) (v_t_nightHours : Int32) (v_t_nightTimes : Int32) (v_t_ground : Nat → Int32) (v_t_windows : Nat → Int32) (v_t_lawParts : Nat → Int32) (x1 : Int32) (x2 : Int32) {z : Int32} (hf : f_X2_wayBack v_t_columns v_t_rows v_t_ground x1 x2 = some z) : Met l yX2_wayBack (Cond.code yX2_wayBack cX2_wayBack 6 (some .int) :: lw_g) ({ frames := 2, cells := 0, slots := 0, locals := 42 } : Room) (PC D cI cJ cZ en ([.ref q_t, .int x1, .int x2] : List Value) [(q_t, .inr (2, [.int v_t_columns, .int v_t_rows, .int v_t_fade, .int v_t_laws, .int v_t_nightHours, .int v_t_nightTimes, .ref q_t_ground, .ref q_t_windows, .ref q_t_lawParts])), (q_t_ground, .inl (cI, 36, .inl v_t_ground)), (q_t_windows, .inl (cI, 6, .inl v_t_windows)), (q_t_lawParts, .inl (cI, 18, .inl v_t_lawParts))] sz) (QI D cI cJ cZ [(q_t, .inr (2, [.int v_t_columns, .int v_t_rows, .int v_t_fade, .int v_t_laws, .int v_t_nightHours, .int v_t_nightTimes, .ref q_t_ground, .ref q_t_windows, .ref q_t_lawParts])), (q_t_ground, .inl (cI, 36, .inl v_t_ground)), (q_t_windows, .inl (cI, 6, .inl v_t_windows)), (q_t_lawParts, .inl (cI, 18, .inl v_t_lawParts))] z (va_A [(q_t, .inr (2, [.int v_t_columns, .int v_t_rows, .int v_t_fade, .int v_t_laws, .int v_t_nightHours, .int v_t_nightTimes, .ref q_t_ground, .ref q_t_windows, .ref q_t_lawParts])), (q_t_ground, .inl (cI, 36, .inl v_t_ground)), (q_t_windows, .inl (cI, 6, .inl v_t_windows)), (q_t_lawParts, .inl (cI, 18, .inl v_t_lawParts))] sz)) 0 0 (va_A [(q_t, .inr (2, [.int v_t_columns, .int v_t_rows, .int v_t_fade, .int v_t_laws, .int v_t_nightHours, .int v_t_nightTimes, .ref q_t_ground, .ref q_t_windows, .ref q_t_lawParts])), (q_t_ground, .inl (cI, 36, .inl v_t_ground)), (q_t_windows, .inl (cI, 6, .inl v_t_windows)), (q_t_lawParts, .inl (cI, 18, .inl v_t_lawParts))] sz) := by
  refine mk_met (Qc := fun A => (QI D cI cJ cZ [(q_t, .inr (2, [.int v_t_columns, .int v_t_rows, .int v_t_fade, .int v_t_laws, .int v_t_nightHours, .int v_t_nightTimes, .ref q_t_ground, .ref q_t_windows, .ref q_t_lawParts])), (q_t_ground, .inl (cI, 36, .inl v_t_ground)), (q_t_windows, .inl (cI, 6, .inl v_t_windows)), (q_t_lawParts, .inl (cI, 18, .inl v_t_lawParts))] z A)) RX2 (by decide) rfl (Nat.le_of_ble_eq_true rfl) ?_
  intro p e s m below meth c ls A hx hb hr hml hown hts hlocks hA hK hE hl hD H locs hP hS
  have hl : lv_has ls 6 [(0, .ref q_t), (1, .int x1), (2, .int x2)] := hl
  unfold f_X2_wayBack at hf
  refine lv_iload_n hx hb dX2_wayBack_0 rfl (lv_at hl 2 rfl) ?_
  refine lv_iconst (v := 4) hx hb dX2_wayBack_1 (by decide) ?_
  refine lv_iadd hx hb dX2_wayBack_2 ?_
  refine lv_bipush (v := 7) hx hb dX2_wayBack_3 (by decide) ?_
  refine lv_iand hx hb dX2_wayBack_5 ?_
  refine lv_istore_n (lv' := [(3, .int ((x2 + 4) &&& 7)), (0, .ref q_t), (1, .int x1), (2, .int x2)]) hx hb dX2_wayBack_6 rfl hl (by decide) rfl (fun ls hl => ?_)
  refine lv_iload_n hx hb dX2_wayBack_7 rfl (lv_at hl 3 rfl) ?_
  refine lv_iconst (v := 1) hx hb dX2_wayBack_8 (by decide) ?_
  refine lv_iand hx hb dX2_wayBack_9 ?_
  refine lv_if_ne (tgt := 15) hx hb dX2_wayBack_10 (by decide) (fun h_1 => ?_) (fun h_1 => ?_)
  · have hf := (if_neg h_1).symm.trans hf
    refine lv_aload_n hx hb dX2_wayBack_15 rfl (lv_at hl 1 rfl) ?_
    refine lv_aload_n hx hb dX2_wayBack_16 rfl (lv_at hl 1 rfl) ?_
    refine lv_aload_n hx hb dX2_wayBack_17 rfl (lv_at hl 1 rfl) ?_
    refine lv_iload_n hx hb dX2_wayBack_18 rfl (lv_at hl 2 rfl) ?_
    obtain ⟨z19_2, hz19_2, hf⟩ := bd_some hf
    refine cVi (rest := [.ref q_t, .ref q_t]) ⟨hx, hb, hml, hown, hts⟩ hE hK hP hD hS hA (c_X2_columnOf l D cI cJ cZ en q_t q_t_ground q_t_windows q_t_lawParts H.size v_t_columns v_t_rows v_t_fade v_t_laws v_t_nightHours v_t_nightTimes v_t_ground v_t_windows v_t_lawParts x1 hz19_2) (gv_X2_columnOf w_597) hd_X2_columnOf ⟨rfl, rfl⟩ ⟨by decide, by decide⟩ [0, 1, 2, 3] rfl rfl rfl 2 rfl rfl 0 rfl  hl rfl (Nat.le_of_ble_eq_true rfl) ⟨Nat.zero_le _, Nat.zero_le _⟩ dX2_wayBack_19 (fun H locs hP hD hS => ?_)
    have hP : va_P D vwCl [(q_t, .inr (2, [.int v_t_columns, .int v_t_rows, .int v_t_fade, .int v_t_laws, .int v_t_nightHours, .int v_t_nightTimes, .ref q_t_ground, .ref q_t_windows, .ref q_t_lawParts])), (q_t_ground, .inl (cI, 36, .inl v_t_ground)), (q_t_windows, .inl (cI, 6, .inl v_t_windows)), (q_t_lawParts, .inl (cI, 18, .inl v_t_lawParts))] H := hP
    have hD : va_D A [(q_t, .inr (2, [.int v_t_columns, .int v_t_rows, .int v_t_fade, .int v_t_laws, .int v_t_nightHours, .int v_t_nightTimes, .ref q_t_ground, .ref q_t_windows, .ref q_t_lawParts])), (q_t_ground, .inl (cI, 36, .inl v_t_ground)), (q_t_windows, .inl (cI, 6, .inl v_t_windows)), (q_t_lawParts, .inl (cI, 18, .inl v_t_lawParts))] := hD
    refine va_gets hx hb hE.2.2.1 hS hown (hts _ w_601) (fun _ h9 => h9) dX2_wayBack_22 ?_
    refine lv_iload_n hx hb dX2_wayBack_25 rfl (lv_at hl 3 rfl) ?_
    refine lv_bipush (v := 7) hx hb dX2_wayBack_26 (by decide) ?_
    refine lv_iand hx hb dX2_wayBack_28 ?_
    obtain ⟨hin, hf⟩ := gd_some hf
    refine va_ti hx hb hE.2.2.2.1 hS hin rfl dX2_wayBack_29 ?_
    refine lv_iadd hx hb dX2_wayBack_30 ?_
    refine lv_aload_n hx hb dX2_wayBack_31 rfl (lv_at hl 1 rfl) ?_
    refine lv_iload_n hx hb dX2_wayBack_32 rfl (lv_at hl 2 rfl) ?_
    obtain ⟨z33_3, hz33_3, hf⟩ := bd_some hf
    refine cVi (rest := [.int (z19_2 + (colF (Int32.toNatClampNeg (x2 &&& 7)))), .ref q_t, .ref q_t]) ⟨hx, hb, hml, hown, hts⟩ hE hK hP hD hS hA (c_X2_rowOf l D cI cJ cZ en q_t q_t_ground q_t_windows q_t_lawParts H.size v_t_columns v_t_rows v_t_fade v_t_laws v_t_nightHours v_t_nightTimes v_t_ground v_t_windows v_t_lawParts x1 hz33_3) (gv_X2_rowOf w_603) hd_X2_rowOf ⟨rfl, rfl⟩ ⟨by decide, by decide⟩ [0, 1, 2, 3] rfl rfl rfl 2 rfl rfl 0 rfl  hl rfl (Nat.le_of_ble_eq_true rfl) ⟨Nat.zero_le _, Nat.zero_le _⟩ dX2_wayBack_33 (fun H locs hP hD hS => ?_)
    have hP : va_P D vwCl [(q_t, .inr (2, [.int v_t_columns, .int v_t_rows, .int v_t_fade, .int v_t_laws, .int v_t_nightHours, .int v_t_nightTimes, .ref q_t_ground, .ref q_t_windows, .ref q_t_lawParts])), (q_t_ground, .inl (cI, 36, .inl v_t_ground)), (q_t_windows, .inl (cI, 6, .inl v_t_windows)), (q_t_lawParts, .inl (cI, 18, .inl v_t_lawParts))] H := hP
    have hD : va_D A [(q_t, .inr (2, [.int v_t_columns, .int v_t_rows, .int v_t_fade, .int v_t_laws, .int v_t_nightHours, .int v_t_nightTimes, .ref q_t_ground, .ref q_t_windows, .ref q_t_lawParts])), (q_t_ground, .inl (cI, 36, .inl v_t_ground)), (q_t_windows, .inl (cI, 6, .inl v_t_windows)), (q_t_lawParts, .inl (cI, 18, .inl v_t_lawParts))] := hD
    obtain ⟨z36_4, hz36_4, hf⟩ := bd_some hf
    refine cVi (rest := [.ref q_t]) ⟨hx, hb, hml, hown, hts⟩ hE hK hP hD hS hA (c_X2_cellAt l D cI cJ cZ en q_t q_t_ground q_t_windows q_t_lawParts H.size v_t_columns v_t_rows v_t_fade v_t_laws v_t_nightHours v_t_nightTimes v_t_ground v_t_windows v_t_lawParts (z19_2 + (colF (Int32.toNatClampNeg (x2 &&& 7)))) z33_3 hz36_4) (gv_X2_cellAt w_609) hd_X2_cellAt ⟨rfl, rfl⟩ ⟨by decide, by decide⟩ [0, 1, 2, 3] rfl rfl rfl 2 rfl rfl 0 rfl  hl rfl (Nat.le_of_ble_eq_true rfl) ⟨Nat.zero_le _, Nat.zero_le _⟩ dX2_wayBack_36 (fun H locs hP hD hS => ?_)
    have hP : va_P D vwCl [(q_t, .inr (2, [.int v_t_columns, .int v_t_rows, .int v_t_fade, .int v_t_laws, .int v_t_nightHours, .int v_t_nightTimes, .ref q_t_ground, .ref q_t_windows, .ref q_t_lawParts])), (q_t_ground, .inl (cI, 36, .inl v_t_ground)), (q_t_windows, .inl (cI, 6, .inl v_t_windows)), (q_t_lawParts, .inl (cI, 18, .inl v_t_lawParts))] H := hP
    have hD : va_D A [(q_t, .inr (2, [.int v_t_columns, .int v_t_rows, .int v_t_fade, .int v_t_laws, .int v_t_nightHours, .int v_t_nightTimes, .ref q_t_ground, .ref q_t_windows, .ref q_t_lawParts])), (q_t_ground, .inl (cI, 36, .inl v_t_ground)), (q_t_windows, .inl (cI, 6, .inl v_t_windows)), (q_t_lawParts, .inl (cI, 18, .inl v_t_lawParts))] := hD
    obtain ⟨z39_5, hz39_5, hf⟩ := bd_some hf
    refine cVi (rest := []) ⟨hx, hb, hml, hown, hts⟩ hE hK hP hD hS hA (c_X2_isRock l D cI cJ cZ en q_t q_t_ground q_t_windows q_t_lawParts H.size v_t_columns v_t_rows v_t_fade v_t_laws v_t_nightHours v_t_nightTimes v_t_ground v_t_windows v_t_lawParts z36_4 hz39_5) (gv_X2_isRock w_623) hd_X2_isRock ⟨rfl, rfl⟩ ⟨by decide, by decide⟩ [0, 1, 2, 3] rfl rfl rfl 2 rfl rfl 0 rfl  hl rfl (Nat.le_of_ble_eq_true rfl) ⟨Nat.zero_le _, Nat.zero_le _⟩ dX2_wayBack_39 (fun H locs hP hD hS => ?_)
    have hP : va_P D vwCl [(q_t, .inr (2, [.int v_t_columns, .int v_t_rows, .int v_t_fade, .int v_t_laws, .int v_t_nightHours, .int v_t_nightTimes, .ref q_t_ground, .ref q_t_windows, .ref q_t_lawParts])), (q_t_ground, .inl (cI, 36, .inl v_t_ground)), (q_t_windows, .inl (cI, 6, .inl v_t_windows)), (q_t_lawParts, .inl (cI, 18, .inl v_t_lawParts))] H := hP
    have hD : va_D A [(q_t, .inr (2, [.int v_t_columns, .int v_t_rows, .int v_t_fade, .int v_t_laws, .int v_t_nightHours, .int v_t_nightTimes, .ref q_t_ground, .ref q_t_windows, .ref q_t_lawParts])), (q_t_ground, .inl (cI, 36, .inl v_t_ground)), (q_t_windows, .inl (cI, 6, .inl v_t_windows)), (q_t_lawParts, .inl (cI, 18, .inl v_t_lawParts))] := hD
    refine lv_istore (lv' := [(4, .int z39_5), (3, .int ((x2 + 4) &&& 7)), (0, .ref q_t), (1, .int x1), (2, .int x2)]) hx hb dX2_wayBack_42 hl (by decide) rfl (fun ls hl => ?_)
    refine lv_aload_n hx hb dX2_wayBack_44 rfl (lv_at hl 2 rfl) ?_
    refine lv_aload_n hx hb dX2_wayBack_45 rfl (lv_at hl 2 rfl) ?_
    refine lv_aload_n hx hb dX2_wayBack_46 rfl (lv_at hl 2 rfl) ?_
    refine lv_iload_n hx hb dX2_wayBack_47 rfl (lv_at hl 3 rfl) ?_
    obtain ⟨z48_6, hz48_6, hf⟩ := bd_some hf
    refine cVi (rest := [.ref q_t, .ref q_t]) ⟨hx, hb, hml, hown, hts⟩ hE hK hP hD hS hA (c_X2_columnOf l D cI cJ cZ en q_t q_t_ground q_t_windows q_t_lawParts H.size v_t_columns v_t_rows v_t_fade v_t_laws v_t_nightHours v_t_nightTimes v_t_ground v_t_windows v_t_lawParts x1 hz48_6) (gv_X2_columnOf w_597) hd_X2_columnOf ⟨rfl, rfl⟩ ⟨by decide, by decide⟩ [0, 1, 2, 3] rfl rfl rfl 2 rfl rfl 0 rfl  hl rfl (Nat.le_of_ble_eq_true rfl) ⟨Nat.zero_le _, Nat.zero_le _⟩ dX2_wayBack_48 (fun H locs hP hD hS => ?_)
    have hP : va_P D vwCl [(q_t, .inr (2, [.int v_t_columns, .int v_t_rows, .int v_t_fade, .int v_t_laws, .int v_t_nightHours, .int v_t_nightTimes, .ref q_t_ground, .ref q_t_windows, .ref q_t_lawParts])), (q_t_ground, .inl (cI, 36, .inl v_t_ground)), (q_t_windows, .inl (cI, 6, .inl v_t_windows)), (q_t_lawParts, .inl (cI, 18, .inl v_t_lawParts))] H := hP
    have hD : va_D A [(q_t, .inr (2, [.int v_t_columns, .int v_t_rows, .int v_t_fade, .int v_t_laws, .int v_t_nightHours, .int v_t_nightTimes, .ref q_t_ground, .ref q_t_windows, .ref q_t_lawParts])), (q_t_ground, .inl (cI, 36, .inl v_t_ground)), (q_t_windows, .inl (cI, 6, .inl v_t_windows)), (q_t_lawParts, .inl (cI, 18, .inl v_t_lawParts))] := hD
    refine lv_aload_n hx hb dX2_wayBack_51 rfl (lv_at hl 2 rfl) ?_
    refine lv_iload_n hx hb dX2_wayBack_52 rfl (lv_at hl 3 rfl) ?_
    obtain ⟨z53_7, hz53_7, hf⟩ := bd_some hf
    refine cVi (rest := [.int z48_6, .ref q_t, .ref q_t]) ⟨hx, hb, hml, hown, hts⟩ hE hK hP hD hS hA (c_X2_rowOf l D cI cJ cZ en q_t q_t_ground q_t_windows q_t_lawParts H.size v_t_columns v_t_rows v_t_fade v_t_laws v_t_nightHours v_t_nightTimes v_t_ground v_t_windows v_t_lawParts x1 hz53_7) (gv_X2_rowOf w_603) hd_X2_rowOf ⟨rfl, rfl⟩ ⟨by decide, by decide⟩ [0, 1, 2, 3] rfl rfl rfl 2 rfl rfl 0 rfl  hl rfl (Nat.le_of_ble_eq_true rfl) ⟨Nat.zero_le _, Nat.zero_le _⟩ dX2_wayBack_53 (fun H locs hP hD hS => ?_)
    have hP : va_P D vwCl [(q_t, .inr (2, [.int v_t_columns, .int v_t_rows, .int v_t_fade, .int v_t_laws, .int v_t_nightHours, .int v_t_nightTimes, .ref q_t_ground, .ref q_t_windows, .ref q_t_lawParts])), (q_t_ground, .inl (cI, 36, .inl v_t_ground)), (q_t_windows, .inl (cI, 6, .inl v_t_windows)), (q_t_lawParts, .inl (cI, 18, .inl v_t_lawParts))] H := hP
    have hD : va_D A [(q_t, .inr (2, [.int v_t_columns, .int v_t_rows, .int v_t_fade, .int v_t_laws, .int v_t_nightHours, .int v_t_nightTimes, .ref q_t_ground, .ref q_t_windows, .ref q_t_lawParts])), (q_t_ground, .inl (cI, 36, .inl v_t_ground)), (q_t_windows, .inl (cI, 6, .inl v_t_windows)), (q_t_lawParts, .inl (cI, 18, .inl v_t_lawParts))] := hD
    refine va_gets hx hb hE.2.2.2.2.1 hS hown (hts _ w_607) (fun _ h9 => h9) dX2_wayBack_56 ?_
    refine lv_iload_n hx hb dX2_wayBack_59 rfl (lv_at hl 4 rfl) ?_
    refine lv_bipush (v := 7) hx hb dX2_wayBack_60 (by decide) ?_
    refine lv_iand hx hb dX2_wayBack_62 ?_
    obtain ⟨hin, hf⟩ := gd_some hf
    refine va_ti hx hb hE.2.2.2.2.2.1 hS hin rfl dX2_wayBack_63 ?_
    refine lv_iadd hx hb dX2_wayBack_64 ?_
    obtain ⟨z65_8, hz65_8, hf⟩ := bd_some hf
    refine cVi (rest := [.ref q_t]) ⟨hx, hb, hml, hown, hts⟩ hE hK hP hD hS hA (c_X2_cellAt l D cI cJ cZ en q_t q_t_ground q_t_windows q_t_lawParts H.size v_t_columns v_t_rows v_t_fade v_t_laws v_t_nightHours v_t_nightTimes v_t_ground v_t_windows v_t_lawParts z48_6 (z53_7 + (rowF (Int32.toNatClampNeg (x2 &&& 7)))) hz65_8) (gv_X2_cellAt w_609) hd_X2_cellAt ⟨rfl, rfl⟩ ⟨by decide, by decide⟩ [0, 1, 2, 3] rfl rfl rfl 2 rfl rfl 0 rfl  hl rfl (Nat.le_of_ble_eq_true rfl) ⟨Nat.zero_le _, Nat.zero_le _⟩ dX2_wayBack_65 (fun H locs hP hD hS => ?_)
    have hP : va_P D vwCl [(q_t, .inr (2, [.int v_t_columns, .int v_t_rows, .int v_t_fade, .int v_t_laws, .int v_t_nightHours, .int v_t_nightTimes, .ref q_t_ground, .ref q_t_windows, .ref q_t_lawParts])), (q_t_ground, .inl (cI, 36, .inl v_t_ground)), (q_t_windows, .inl (cI, 6, .inl v_t_windows)), (q_t_lawParts, .inl (cI, 18, .inl v_t_lawParts))] H := hP
    have hD : va_D A [(q_t, .inr (2, [.int v_t_columns, .int v_t_rows, .int v_t_fade, .int v_t_laws, .int v_t_nightHours, .int v_t_nightTimes, .ref q_t_ground, .ref q_t_windows, .ref q_t_lawParts])), (q_t_ground, .inl (cI, 36, .inl v_t_ground)), (q_t_windows, .inl (cI, 6, .inl v_t_windows)), (q_t_lawParts, .inl (cI, 18, .inl v_t_lawParts))] := hD
    obtain ⟨z68_9, hz68_9, hf⟩ := bd_some hf
    refine cVi (rest := []) ⟨hx, hb, hml, hown, hts⟩ hE hK hP hD hS hA (c_X2_isRock l D cI cJ cZ en q_t q_t_ground q_t_windows q_t_lawParts H.size v_t_columns v_t_rows v_t_fade v_t_laws v_t_nightHours v_t_nightTimes v_t_ground v_t_windows v_t_lawParts z65_8 hz68_9) (gv_X2_isRock w_623) hd_X2_isRock ⟨rfl, rfl⟩ ⟨by decide, by decide⟩ [0, 1, 2, 3] rfl rfl rfl 2 rfl rfl 0 rfl  hl rfl (Nat.le_of_ble_eq_true rfl) ⟨Nat.zero_le _, Nat.zero_le _⟩ dX2_wayBack_68 (fun H locs hP hD hS => ?_)
    have hP : va_P D vwCl [(q_t, .inr (2, [.int v_t_columns, .int v_t_rows, .int v_t_fade, .int v_t_laws, .int v_t_nightHours, .int v_t_nightTimes, .ref q_t_ground, .ref q_t_windows, .ref q_t_lawParts])), (q_t_ground, .inl (cI, 36, .inl v_t_ground)), (q_t_windows, .inl (cI, 6, .inl v_t_windows)), (q_t_lawParts, .inl (cI, 18, .inl v_t_lawParts))] H := hP
    have hD : va_D A [(q_t, .inr (2, [.int v_t_columns, .int v_t_rows, .int v_t_fade, .int v_t_laws, .int v_t_nightHours, .int v_t_nightTimes, .ref q_t_ground, .ref q_t_windows, .ref q_t_lawParts])), (q_t_ground, .inl (cI, 36, .inl v_t_ground)), (q_t_windows, .inl (cI, 6, .inl v_t_windows)), (q_t_lawParts, .inl (cI, 18, .inl v_t_lawParts))] := hD
    refine lv_istore (lv' := [(5, .int z68_9), (4, .int z39_5), (3, .int ((x2 + 4) &&& 7)), (0, .ref q_t), (1, .int x1), (2, .int x2)]) hx hb dX2_wayBack_71 hl (by decide) rfl (fun ls hl => ?_)
    refine lv_iload hx hb dX2_wayBack_73 (lv_at hl 1 rfl) ?_
    refine lv_iload hx hb dX2_wayBack_75 (lv_at hl 0 rfl) ?_
    refine lv_icmp_ne (tgt := 82) hx hb dX2_wayBack_77 (by decide) (fun h_10 => ?_) (fun h_10 => ?_)
    · have hf := (if_neg h_10).symm.trans hf
      refine lv_iload hx hb dX2_wayBack_82 (lv_at hl 1 rfl) ?_
      refine lv_if_eq (tgt := 97) hx hb dX2_wayBack_84 (by decide) (fun h_11 => ?_) (fun h_11 => ?_)
      · have hf := (if_pos h_11).symm.trans hf
        refine lv_bipush (v := 12) hx hb dX2_wayBack_97 (by decide) ?_
        refine lv_iload_n hx hb dX2_wayBack_99 rfl (lv_at hl 5 rfl) ?_
        refine lv_isub hx hb dX2_wayBack_100 ?_
        refine lv_bipush (v := 7) hx hb dX2_wayBack_101 (by decide) ?_
        refine lv_iand hx hb dX2_wayBack_103 ?_
        cases hf
        exact rt_i hx hb hr hlocks hK hP hS dX2_wayBack_104
      · have hf := (if_neg h_11).symm.trans hf
        refine lv_bipush (v := 8) hx hb dX2_wayBack_87 (by decide) ?_
        refine lv_iload_n hx hb dX2_wayBack_89 rfl (lv_at hl 5 rfl) ?_
        refine lv_isub hx hb dX2_wayBack_90 ?_
        refine lv_bipush (v := 7) hx hb dX2_wayBack_91 (by decide) ?_
        refine lv_iand hx hb dX2_wayBack_93 ?_
        refine lv_goto (tgt := 104) hx hb dX2_wayBack_94 (by decide) ?_
        cases hf
        exact rt_i hx hb hr hlocks hK hP hS dX2_wayBack_104
    · have hf := (if_pos h_10).symm.trans hf
      refine lv_iload_n hx hb dX2_wayBack_80 rfl (lv_at hl 2 rfl) ?_
      cases hf
      exact rt_i hx hb hr hlocks hK hP hS dX2_wayBack_81
  · have hf := (if_pos h_1).symm.trans hf
    refine lv_iload_n hx hb dX2_wayBack_13 rfl (lv_at hl 0 rfl) ?_
    cases hf
    exact rt_i hx hb hr hlocks hK hP hS dX2_wayBack_14

def f_X2_loudThrownBack_J24 (x2 : Int32) (k0 : Int32) : Option (Int32) :=
  (some (x2 - ((x2 * k0) / 100)))
def f_X2_loudThrownBack (v_t_columns : Int32) (v_t_rows : Int32) (v_t_ground : Nat → Int32) (x1 : Int32) (x2 : Int32) (x3 : Int32) : Option (Int32) :=
  (if x3 = 0 then (f_X2_softOf v_t_columns v_t_rows v_t_ground x1).bind (fun z21 => (f_X2_loudThrownBack_J24 x2 z21)) else (f_X2_softOf v_t_columns v_t_rows v_t_ground x1).bind (fun z9 => (f_X2_loudThrownBack_J24 x2 (if (2 * z9) < 100 then (2 * z9) else 100))))
theorem gv_X2_loudThrownBack {own : String} {idx : Nat} (h : Cond.methodLink own idx yX2_loudThrownBack ∈ lw_g) : GoodIn lw_g (wsV own idx RX2 yX2_loudThrownBack (Cond.code yX2_loudThrownBack cX2_loudThrownBack 5 (some .int) :: lw_g)) := gV h w_612 w_613 w_60 w_614
theorem hd_X2_loudThrownBack : yX2_loudThrownBack.cls = RX2 ∧ yX2_loudThrownBack.cls ≠ "java/lang/invoke/MethodHandle" ∧ yX2_loudThrownBack.cls ≠ "java/lang/invoke/VarHandle" ∧ (parseMethodDescriptor yX2_loudThrownBack.desc).map (fun d => d.parameters.length) = some 3 := by decide +kernel
set_option maxHeartbeats 4000000 in
set_option maxRecDepth 100000 in
theorem c_X2_loudThrownBack (l : Launch) (D : va_G) (cI cJ cZ : ClassId) (en : EnT) (q_t q_t_ground q_t_windows q_t_lawParts : Nat) (sz : Nat) (v_t_columns : Int32) (v_t_rows : Int32) (v_t_fade : Int32) (v_t_laws : Int32) (v_t_nightHours : Int32) (v_t_nightTimes : Int32) (v_t_ground : Nat → Int32) (v_t_windows : Nat → Int32) (v_t_lawParts : Nat → Int32) (x1 : Int32) (x2 : Int32) (x3 : Int32) {z : Int32} (hf : f_X2_loudThrownBack v_t_columns v_t_rows v_t_ground x1 x2 x3 = some z) : Met l yX2_loudThrownBack (Cond.code yX2_loudThrownBack cX2_loudThrownBack 5 (some .int) :: lw_g) ({ frames := 2, cells := 0, slots := 0, locals := 42 } : Room) (PC D cI cJ cZ en ([.ref q_t, .int x1, .int x2, .int x3] : List Value) [(q_t, .inr (2, [.int v_t_columns, .int v_t_rows, .int v_t_fade, .int v_t_laws, .int v_t_nightHours, .int v_t_nightTimes, .ref q_t_ground, .ref q_t_windows, .ref q_t_lawParts])), (q_t_ground, .inl (cI, 36, .inl v_t_ground)), (q_t_windows, .inl (cI, 6, .inl v_t_windows)), (q_t_lawParts, .inl (cI, 18, .inl v_t_lawParts))] sz) (QI D cI cJ cZ [(q_t, .inr (2, [.int v_t_columns, .int v_t_rows, .int v_t_fade, .int v_t_laws, .int v_t_nightHours, .int v_t_nightTimes, .ref q_t_ground, .ref q_t_windows, .ref q_t_lawParts])), (q_t_ground, .inl (cI, 36, .inl v_t_ground)), (q_t_windows, .inl (cI, 6, .inl v_t_windows)), (q_t_lawParts, .inl (cI, 18, .inl v_t_lawParts))] z (va_A [(q_t, .inr (2, [.int v_t_columns, .int v_t_rows, .int v_t_fade, .int v_t_laws, .int v_t_nightHours, .int v_t_nightTimes, .ref q_t_ground, .ref q_t_windows, .ref q_t_lawParts])), (q_t_ground, .inl (cI, 36, .inl v_t_ground)), (q_t_windows, .inl (cI, 6, .inl v_t_windows)), (q_t_lawParts, .inl (cI, 18, .inl v_t_lawParts))] sz)) 0 0 (va_A [(q_t, .inr (2, [.int v_t_columns, .int v_t_rows, .int v_t_fade, .int v_t_laws, .int v_t_nightHours, .int v_t_nightTimes, .ref q_t_ground, .ref q_t_windows, .ref q_t_lawParts])), (q_t_ground, .inl (cI, 36, .inl v_t_ground)), (q_t_windows, .inl (cI, 6, .inl v_t_windows)), (q_t_lawParts, .inl (cI, 18, .inl v_t_lawParts))] sz) := by
  refine mk_met (Qc := fun A => (QI D cI cJ cZ [(q_t, .inr (2, [.int v_t_columns, .int v_t_rows, .int v_t_fade, .int v_t_laws, .int v_t_nightHours, .int v_t_nightTimes, .ref q_t_ground, .ref q_t_windows, .ref q_t_lawParts])), (q_t_ground, .inl (cI, 36, .inl v_t_ground)), (q_t_windows, .inl (cI, 6, .inl v_t_windows)), (q_t_lawParts, .inl (cI, 18, .inl v_t_lawParts))] z A)) RX2 (by decide) rfl (Nat.le_of_ble_eq_true rfl) ?_
  intro p e s m below meth c ls A hx hb hr hml hown hts hlocks hA hK hE hl hD H locs hP hS
  have hl : lv_has ls 5 [(0, .ref q_t), (1, .int x1), (2, .int x2), (3, .int x3)] := hl
  unfold f_X2_loudThrownBack at hf
  refine lv_iload_n hx hb dX2_loudThrownBack_0 rfl (lv_at hl 3 rfl) ?_
  have J24_2 : ∀ (k0_1 : Int32), f_X2_loudThrownBack_J24 x2 k0_1 = some z → ∀ (H : Heap) (locs : List Loc) (ls : Array Slot), va_P D vwCl [(q_t, .inr (2, [.int v_t_columns, .int v_t_rows, .int v_t_fade, .int v_t_laws, .int v_t_nightHours, .int v_t_nightTimes, .ref q_t_ground, .ref q_t_windows, .ref q_t_lawParts])), (q_t_ground, .inl (cI, 36, .inl v_t_ground)), (q_t_windows, .inl (cI, 6, .inl v_t_windows)), (q_t_lawParts, .inl (cI, 18, .inl v_t_lawParts))] H → va_D A [(q_t, .inr (2, [.int v_t_columns, .int v_t_rows, .int v_t_fade, .int v_t_laws, .int v_t_nightHours, .int v_t_nightTimes, .ref q_t_ground, .ref q_t_windows, .ref q_t_lawParts])), (q_t_ground, .inl (cI, 36, .inl v_t_ground)), (q_t_windows, .inl (cI, 6, .inl v_t_windows)), (q_t_lawParts, .inl (cI, 18, .inl v_t_lawParts))] → va_S A s.heap H locs → lv_has ls 5 [(2, .int x2)] → W p l e ({ frames := 2, cells := 0, slots := 0, locals := 42 } : Room) s m ([.ref q_t, .int x1, .int x2, .int x3] : List Value).toArray below meth c H locs 0 0 (MQ below (QI D cI cJ cZ [(q_t, .inr (2, [.int v_t_columns, .int v_t_rows, .int v_t_fade, .int v_t_laws, .int v_t_nightHours, .int v_t_nightTimes, .ref q_t_ground, .ref q_t_windows, .ref q_t_lawParts])), (q_t_ground, .inl (cI, 36, .inl v_t_ground)), (q_t_windows, .inl (cI, 6, .inl v_t_windows)), (q_t_lawParts, .inl (cI, 18, .inl v_t_lawParts))] z A) ([.ref q_t, .int x1, .int x2, .int x3] : List Value).toArray s 0 0 A) (F0 m 24 ls [.int k0_1]) := by
    intro k0_1 hf H locs ls hP hD hS hl
    unfold f_X2_loudThrownBack_J24 at hf
    refine lv_istore (lv' := [(4, .int k0_1), (2, .int x2)]) hx hb dX2_loudThrownBack_24 hl (by decide) rfl (fun ls hl => ?_)
    refine lv_iload_n hx hb dX2_loudThrownBack_26 rfl (lv_at hl 1 rfl) ?_
    refine lv_iload_n hx hb dX2_loudThrownBack_27 rfl (lv_at hl 1 rfl) ?_
    refine lv_iload hx hb dX2_loudThrownBack_28 (lv_at hl 0 rfl) ?_
    refine lv_imul hx hb dX2_loudThrownBack_30 ?_
    refine lv_bipush (v := 100) hx hb dX2_loudThrownBack_31 (by decide) ?_
    refine lv_idiv hx hb dX2_loudThrownBack_33 (by decide) ?_
    refine lv_isub hx hb dX2_loudThrownBack_34 ?_
    cases hf
    exact rt_i hx hb hr hlocks hK hP hS dX2_loudThrownBack_35
  refine lv_if_eq (tgt := 19) hx hb dX2_loudThrownBack_1 (by decide) (fun h_3 => ?_) (fun h_3 => ?_)
  · have hf := (if_pos h_3).symm.trans hf
    refine lv_aload_n hx hb dX2_loudThrownBack_19 rfl (lv_at hl 0 rfl) ?_
    refine lv_iload_n hx hb dX2_loudThrownBack_20 rfl (lv_at hl 1 rfl) ?_
    obtain ⟨z21_4, hz21_4, hf⟩ := bd_some hf
    refine cVi (rest := []) ⟨hx, hb, hml, hown, hts⟩ hE hK hP hD hS hA (c_X2_softOf l D cI cJ cZ en q_t q_t_ground q_t_windows q_t_lawParts H.size v_t_columns v_t_rows v_t_fade v_t_laws v_t_nightHours v_t_nightTimes v_t_ground v_t_windows v_t_lawParts x1 hz21_4) (gv_X2_softOf w_615) hd_X2_softOf ⟨rfl, rfl⟩ ⟨by decide, by decide⟩ [0, 1, 2, 3] rfl rfl rfl 2 rfl rfl 0 rfl  hl rfl (Nat.le_of_ble_eq_true rfl) ⟨Nat.zero_le _, Nat.zero_le _⟩ dX2_loudThrownBack_21 (fun H locs hP hD hS => ?_)
    have hP : va_P D vwCl [(q_t, .inr (2, [.int v_t_columns, .int v_t_rows, .int v_t_fade, .int v_t_laws, .int v_t_nightHours, .int v_t_nightTimes, .ref q_t_ground, .ref q_t_windows, .ref q_t_lawParts])), (q_t_ground, .inl (cI, 36, .inl v_t_ground)), (q_t_windows, .inl (cI, 6, .inl v_t_windows)), (q_t_lawParts, .inl (cI, 18, .inl v_t_lawParts))] H := hP
    have hD : va_D A [(q_t, .inr (2, [.int v_t_columns, .int v_t_rows, .int v_t_fade, .int v_t_laws, .int v_t_nightHours, .int v_t_nightTimes, .ref q_t_ground, .ref q_t_windows, .ref q_t_lawParts])), (q_t_ground, .inl (cI, 36, .inl v_t_ground)), (q_t_windows, .inl (cI, 6, .inl v_t_windows)), (q_t_lawParts, .inl (cI, 18, .inl v_t_lawParts))] := hD
    exact J24_2 z21_4 hf _ _ _ hP hD hS (lv_sub hl [2] rfl)
  · have hf := (if_neg h_3).symm.trans hf
    refine lv_bipush (v := 100) hx hb dX2_loudThrownBack_4 (by decide) ?_
    refine lv_iconst (v := 2) hx hb dX2_loudThrownBack_6 (by decide) ?_
    refine lv_aload_n hx hb dX2_loudThrownBack_7 rfl (lv_at hl 0 rfl) ?_
    refine lv_iload_n hx hb dX2_loudThrownBack_8 rfl (lv_at hl 1 rfl) ?_
    obtain ⟨z9_5, hz9_5, hf⟩ := bd_some hf
    refine cVi (rest := [.int 2, .int 100]) ⟨hx, hb, hml, hown, hts⟩ hE hK hP hD hS hA (c_X2_softOf l D cI cJ cZ en q_t q_t_ground q_t_windows q_t_lawParts H.size v_t_columns v_t_rows v_t_fade v_t_laws v_t_nightHours v_t_nightTimes v_t_ground v_t_windows v_t_lawParts x1 hz9_5) (gv_X2_softOf w_615) hd_X2_softOf ⟨rfl, rfl⟩ ⟨by decide, by decide⟩ [0, 1, 2, 3] rfl rfl rfl 2 rfl rfl 0 rfl  hl rfl (Nat.le_of_ble_eq_true rfl) ⟨Nat.zero_le _, Nat.zero_le _⟩ dX2_loudThrownBack_9 (fun H locs hP hD hS => ?_)
    have hP : va_P D vwCl [(q_t, .inr (2, [.int v_t_columns, .int v_t_rows, .int v_t_fade, .int v_t_laws, .int v_t_nightHours, .int v_t_nightTimes, .ref q_t_ground, .ref q_t_windows, .ref q_t_lawParts])), (q_t_ground, .inl (cI, 36, .inl v_t_ground)), (q_t_windows, .inl (cI, 6, .inl v_t_windows)), (q_t_lawParts, .inl (cI, 18, .inl v_t_lawParts))] H := hP
    have hD : va_D A [(q_t, .inr (2, [.int v_t_columns, .int v_t_rows, .int v_t_fade, .int v_t_laws, .int v_t_nightHours, .int v_t_nightTimes, .ref q_t_ground, .ref q_t_windows, .ref q_t_lawParts])), (q_t_ground, .inl (cI, 36, .inl v_t_ground)), (q_t_windows, .inl (cI, 6, .inl v_t_windows)), (q_t_lawParts, .inl (cI, 18, .inl v_t_lawParts))] := hD
    refine lv_imul hx hb dX2_loudThrownBack_12 ?_
    refine va_mmin hx hb (hml.trans hl.1.symm) hown (hts _ w_616) (hts _ w_617) (hts _ w_73) (hts _ w_618) (by decide) (Nat.le_of_ble_eq_true rfl) (Nat.zero_le _) (Nat.zero_le _) dX2_loudThrownBack_13 ?_
    refine lv_goto (tgt := 24) hx hb dX2_loudThrownBack_16 (by decide) ?_
    exact J24_2 (if (2 * z9_5) < 100 then (2 * z9_5) else 100) hf _ _ _ hP hD hS (lv_sub hl [2] rfl)

def f_J7_fill_d0a16_L6 (n_a0 : Nat) (x1 : Int64) (x4 : Int32) : Nat → (Int32) → (Nat → Int64) → Option ((Nat → Int64))
  | 0, _, _ => none
  | n + 1, x3, v_a0 => (if x4 ≤ x3 then (some v_a0) else gd (ib x3 n_a0) ((f_J7_fill_d0a16_L6 n_a0 x1 x4 n (x3 + 1) (vp_updL v_a0 (Int32.toNatClampNeg x3) x1))))
def f_J7_fill_d0a16 (n_a0 : Nat) (v_a0 : Nat → Int64) (x1 : Int64) : Option ((Nat → Int64)) :=
  (f_J7_fill_d0a16_L6 n_a0 x1 (Int32.ofNat n_a0) FU 0 v_a0)
theorem gs_J7_fill_d0a16 {own : String} {idx : Nat} (h : Cond.methodLink own idx yJ7_fill_d0a16 ∈ lw_g) : GoodIn lw_g (va_wsS own idx yJ7_fill_d0a16 (Cond.code yJ7_fill_d0a16 cJ7_fill_d0a16 5 none :: lw_g)) := gS h w_804 w_61 w_805
theorem hd_J7_fill_d0a16 : yJ7_fill_d0a16.cls ≠ "java/lang/invoke/MethodHandle" ∧ yJ7_fill_d0a16.cls ≠ "java/lang/invoke/VarHandle" ∧ (parseMethodDescriptor yJ7_fill_d0a16.desc).map (fun d => d.parameters.length) = some 2 := by decide +kernel
set_option maxHeartbeats 4000000 in
set_option maxRecDepth 100000 in
theorem c_J7_fill_d0a16 (l : Launch) (D : va_G) (cI cJ cZ : ClassId) (en : EnT) (q_a0 : Nat) (n_a0 : Nat) (sz : Nat) (v_a0 : Nat → Int64) (x1 : Int64) {z : (Nat → Int64)} (hf : f_J7_fill_d0a16 n_a0 v_a0 x1 = some z) : Met l yJ7_fill_d0a16 (Cond.code yJ7_fill_d0a16 cJ7_fill_d0a16 5 none :: lw_g) ({ frames := 0, cells := 0, slots := 0, locals := 0 } : Room) (PC D cI cJ cZ en ([.ref q_a0, .long x1] : List Value) [(q_a0, .inl (cJ, n_a0, .inr (.inl v_a0)))] sz) (QV D cI cJ cZ [(q_a0, .inl (cJ, n_a0, .inr (.inl z)))] (va_A [(q_a0, .inl (cJ, n_a0, .inr (.inl v_a0)))] sz)) 0 0 (va_A [(q_a0, .inl (cJ, n_a0, .inr (.inl v_a0)))] sz) := by
  refine mk_met (Qc := fun A => (QV D cI cJ cZ [(q_a0, .inl (cJ, n_a0, .inr (.inl z)))] A)) RJ7 (by decide) rfl (Nat.le_of_ble_eq_true rfl) ?_
  intro p e s m below meth c ls A hx hb hr hml hown hts hlocks hA hK hE hl hD H locs hP hS
  have hl : lv_has ls 5 [(0, .ref q_a0), (1, .long x1)] := hl
  unfold f_J7_fill_d0a16 at hf
  refine lv_iconst (v := 0) hx hb dJ7_fill_d0a16_0 (by decide) ?_
  refine lv_istore_n (lv' := [(3, .int 0), (0, .ref q_a0), (1, .long x1)]) hx hb dJ7_fill_d0a16_1 rfl hl (by decide) rfl (fun ls hl => ?_)
  refine lv_aload_n hx hb dJ7_fill_d0a16_2 rfl (lv_at hl 1 rfl) ?_
  refine va_alen (v := (Int32.ofNat n_a0)) hx hb hK hP 0 1 rfl rfl rfl dJ7_fill_d0a16_3 ?_
  refine lv_istore (lv' := [(4, .int (Int32.ofNat n_a0)), (3, .int 0), (0, .ref q_a0), (1, .long x1)]) hx hb dJ7_fill_d0a16_4 hl (by decide) rfl (fun ls hl => ?_)
  have L6_3 : ∀ (n : Nat) (x3_1 : Int32) (v_a0_2 : Nat → Int64), f_J7_fill_d0a16_L6 n_a0 x1 (Int32.ofNat n_a0) n x3_1 v_a0_2 = some z → ∀ (H : Heap) (locs : List Loc) (ls : Array Slot), va_P D vwCl [(q_a0, .inl (cJ, n_a0, .inr (.inl v_a0_2)))] H → va_D A [(q_a0, .inl (cJ, n_a0, .inr (.inl v_a0_2)))] → va_S A s.heap H locs → lv_has ls 5 [(0, .ref q_a0), (1, .long x1), (3, .int x3_1), (4, .int (Int32.ofNat n_a0))] → W p l e ({ frames := 0, cells := 0, slots := 0, locals := 0 } : Room) s m ([.ref q_a0, .long x1] : List Value).toArray below meth c H locs 0 0 (MQ below (QV D cI cJ cZ [(q_a0, .inl (cJ, n_a0, .inr (.inl z)))] A) ([.ref q_a0, .long x1] : List Value).toArray s 0 0 A) (F0 m 6 ls []) := by
    intro n
    induction n with
    | zero =>
      intro x3_1 v_a0_2 hf
      cases hf
    | succ n ih_4 =>
      intro x3_1 v_a0_2 hf H locs ls hP hD hS hl
      rw [f_J7_fill_d0a16_L6] at hf
      refine lv_iload_n hx hb dJ7_fill_d0a16_6 rfl (lv_at hl 2 rfl) ?_
      refine lv_iload hx hb dJ7_fill_d0a16_7 (lv_at hl 3 rfl) ?_
      refine lv_icmp_ge (tgt := 22) hx hb dJ7_fill_d0a16_9 (by decide) (fun h_5 => ?_) (fun h_5 => ?_)
      · have hf := (if_pos h_5).symm.trans hf
        cases hf
        exact rt_v hx hb hr hlocks hK hP hS dJ7_fill_d0a16_22
      · have hf := (if_neg h_5).symm.trans hf
        refine lv_aload_n hx hb dJ7_fill_d0a16_12 rfl (lv_at hl 0 rfl) ?_
        refine lv_iload_n hx hb dJ7_fill_d0a16_13 rfl (lv_at hl 2 rfl) ?_
        refine lv_lload_n hx hb dJ7_fill_d0a16_14 rfl (lv_at hl 1 rfl) ?_
        obtain ⟨hin, hf⟩ := gd_some hf
        refine va_last hx hb hK hP hD hS 0 1 rfl rfl hin dJ7_fill_d0a16_15 (fun H locs hP hD hS => ?_)
        have hP : va_P D vwCl [(q_a0, .inl (cJ, n_a0, .inr (.inl (vp_updL v_a0_2 (Int32.toNatClampNeg x3_1) x1))))] H := hP
        have hD : va_D A [(q_a0, .inl (cJ, n_a0, .inr (.inl (vp_updL v_a0_2 (Int32.toNatClampNeg x3_1) x1))))] := hD
        refine lv_iinc (v := (x3_1 + 1)) (lv' := [(3, .int (x3_1 + 1)), (0, .ref q_a0), (1, .long x1), (4, .int (Int32.ofNat n_a0))]) hx hb dJ7_fill_d0a16_16 hl (k := 2) rfl rfl (by decide) rfl (fun ls hl => ?_)
        refine lv_goto (tgt := 6) hx hb dJ7_fill_d0a16_19 (by decide) ?_
        exact ih_4 (x3_1 + 1) (vp_updL v_a0_2 (Int32.toNatClampNeg x3_1) x1) hf _ _ _ hP hD hS (lv_sub hl [1, 2, 0, 3] rfl)
  exact L6_3 FU 0 v_a0 hf _ _ _ hP hD hS (lv_sub hl [2, 3, 1, 0] rfl)

def f_X3_listen_J69 (rc10 : (Int32) → (Nat → Int64) → Option ((Nat → Int64))) (v_t_ticksHeard : Nat → Int64) (x2 : Int32) : Option ((Nat → Int64)) :=
  (rc10 (x2 + 1) v_t_ticksHeard)
def f_X3_listen_J63 (rc18 : (Int32) → (Nat → Int64) → Option ((Nat → Int64))) (v_t_ticksHeard : Nat → Int64) (x3 : Int32) : Option ((Nat → Int64)) :=
  (rc18 (x3 + 1) v_t_ticksHeard)
def f_X3_listen_L18 (rc10 : (Int32) → (Nat → Int64) → Option ((Nat → Int64))) (v_a1_marks : Nat → Int32) (v_a1_lasting : Nat → Int32) (x2 : Int32) : Nat → (Int32) → (Nat → Int64) → Option ((Nat → Int64))
  | 0, _, _ => none
  | n + 1, x3, v_t_ticksHeard => (f_X8_lastTickOf v_a1_lasting x2).bind (fun z21 => (if z21 < x3 then (f_X3_listen_J69 rc10 v_t_ticksHeard x2) else (f_X8_soundOf v_a1_marks v_a1_lasting x2 x3).bind (fun z30 => (f_X8_cellOf z30).bind (fun z33 => (if z33 < 0 then (f_X3_listen_J63 (f_X3_listen_L18 rc10 v_a1_marks v_a1_lasting x2 n) v_t_ticksHeard x3) else (if 36 ≤ z33 then (f_X3_listen_J63 (f_X3_listen_L18 rc10 v_a1_marks v_a1_lasting x2 n) v_t_ticksHeard x3) else gd (ib z33 36) (gd (ib z33 36) ((f_X3_listen_J63 (f_X3_listen_L18 rc10 v_a1_marks v_a1_lasting x2 n) (vp_updL v_t_ticksHeard (Int32.toNatClampNeg z33) ((v_t_ticksHeard (Int32.toNatClampNeg z33)) ||| (1 <<< (Int32.toInt64 x3 &&& 63)))) x3)))))))))
def f_X3_listen_L10 (v_a1_marks : Nat → Int32) (v_a1_lasting : Nat → Int32) : Nat → (Int32) → (Nat → Int64) → Option ((Nat → Int64))
  | 0, _, _ => none
  | n + 1, x2, v_t_ticksHeard => (if 8 ≤ x2 then (some v_t_ticksHeard) else (f_X3_listen_L18 (f_X3_listen_L10 v_a1_marks v_a1_lasting n) v_a1_marks v_a1_lasting x2 FU 1 v_t_ticksHeard))
def f_X3_listen (v_t_ticksHeard : Nat → Int64) (v_a1_marks : Nat → Int32) (v_a1_lasting : Nat → Int32) : Option ((Nat → Int64)) :=
  (f_J7_fill_d0a16 36 v_t_ticksHeard 0).bind (fun z5 => (f_X3_listen_L10 v_a1_marks v_a1_lasting FU 0 z5))
theorem gv_X3_listen {own : String} {idx : Nat} (h : Cond.methodLink own idx yX3_listen ∈ lw_g) : GoodIn lw_g (wsV own idx RX3 yX3_listen (Cond.code yX3_listen cX3_listen 5 none :: lw_g)) := gV h w_800 w_801 w_66 w_802
theorem hd_X3_listen : yX3_listen.cls = RX3 ∧ yX3_listen.cls ≠ "java/lang/invoke/MethodHandle" ∧ yX3_listen.cls ≠ "java/lang/invoke/VarHandle" ∧ (parseMethodDescriptor yX3_listen.desc).map (fun d => d.parameters.length) = some 1 := by decide +kernel
set_option maxHeartbeats 4000000 in
set_option maxRecDepth 100000 in
theorem c_X3_listen (l : Launch) (D : va_G) (cI cJ cZ : ClassId) (en : EnT) (q_t q_t_ticksHeard q_a1 q_a1_marks q_a1_lasting : Nat) (sz : Nat) (v_t_ticksHeard : Nat → Int64) (v_a1_marks : Nat → Int32) (v_a1_lasting : Nat → Int32) {z : (Nat → Int64)} (hf : f_X3_listen v_t_ticksHeard v_a1_marks v_a1_lasting = some z) : Met l yX3_listen (Cond.code yX3_listen cX3_listen 5 none :: lw_g) ({ frames := 1, cells := 0, slots := 0, locals := 24 } : Room) (PC D cI cJ cZ en ([.ref q_t, .ref q_a1] : List Value) [(q_t, .inr (3, [.ref q_t_ticksHeard])), (q_t_ticksHeard, .inl (cJ, 36, .inr (.inl v_t_ticksHeard))), (q_a1, .inr (8, [.ref q_a1_marks, .ref q_a1_lasting])), (q_a1_marks, .inl (cI, 480, .inl v_a1_marks)), (q_a1_lasting, .inl (cI, 8, .inl v_a1_lasting))] sz) (QV D cI cJ cZ [(q_t, .inr (3, [.ref q_t_ticksHeard])), (q_t_ticksHeard, .inl (cJ, 36, .inr (.inl z))), (q_a1, .inr (8, [.ref q_a1_marks, .ref q_a1_lasting])), (q_a1_marks, .inl (cI, 480, .inl v_a1_marks)), (q_a1_lasting, .inl (cI, 8, .inl v_a1_lasting))] (va_A [(q_t, .inr (3, [.ref q_t_ticksHeard])), (q_t_ticksHeard, .inl (cJ, 36, .inr (.inl v_t_ticksHeard))), (q_a1, .inr (8, [.ref q_a1_marks, .ref q_a1_lasting])), (q_a1_marks, .inl (cI, 480, .inl v_a1_marks)), (q_a1_lasting, .inl (cI, 8, .inl v_a1_lasting))] sz)) 0 0 (va_A [(q_t, .inr (3, [.ref q_t_ticksHeard])), (q_t_ticksHeard, .inl (cJ, 36, .inr (.inl v_t_ticksHeard))), (q_a1, .inr (8, [.ref q_a1_marks, .ref q_a1_lasting])), (q_a1_marks, .inl (cI, 480, .inl v_a1_marks)), (q_a1_lasting, .inl (cI, 8, .inl v_a1_lasting))] sz) := by
  refine mk_met (Qc := fun A => (QV D cI cJ cZ [(q_t, .inr (3, [.ref q_t_ticksHeard])), (q_t_ticksHeard, .inl (cJ, 36, .inr (.inl z))), (q_a1, .inr (8, [.ref q_a1_marks, .ref q_a1_lasting])), (q_a1_marks, .inl (cI, 480, .inl v_a1_marks)), (q_a1_lasting, .inl (cI, 8, .inl v_a1_lasting))] A)) RX3 (by decide) rfl (Nat.le_of_ble_eq_true rfl) ?_
  intro p e s m below meth c ls A hx hb hr hml hown hts hlocks hA hK hE hl hD H locs hP hS
  have hl : lv_has ls 5 [(0, .ref q_t), (1, .ref q_a1)] := hl
  unfold f_X3_listen at hf
  refine lv_aload_n hx hb dX3_listen_0 rfl (lv_at hl 0 rfl) ?_
  refine va_get (D := D) (ci := 3) (v := .ref q_t_ticksHeard) (C := RX3) (T := TX3) (N := 1) hx hb hts inX3 hown hK hP 0 rfl rfl 0 (by decide) (hts _ w_262) (fun _ h9 => h9) rfl dX3_listen_1 ?_
  refine lv_lconst (v := 0) hx hb dX3_listen_4 (by decide) ?_
  obtain ⟨z5_1, hz5_1, hf⟩ := bd_some hf
  refine cSv (rest := []) ⟨hx, hb, hml, hown, hts⟩ hE hK hP hD hS hA (c_J7_fill_d0a16 l D cI cJ cZ en q_t_ticksHeard 36 H.size v_t_ticksHeard 0 hz5_1) (gs_J7_fill_d0a16 w_803) hd_J7_fill_d0a16 ⟨rfl, rfl⟩ ⟨by decide, by decide⟩ [1] rfl rfl rfl  hl rfl (Nat.le_of_ble_eq_true rfl) ⟨Nat.zero_le _, Nat.zero_le _⟩ dX3_listen_5 (fun H locs hP hD hS => ?_)
  have hP : va_P D vwCl [(q_t, .inr (3, [.ref q_t_ticksHeard])), (q_t_ticksHeard, .inl (cJ, 36, .inr (.inl z5_1))), (q_a1, .inr (8, [.ref q_a1_marks, .ref q_a1_lasting])), (q_a1_marks, .inl (cI, 480, .inl v_a1_marks)), (q_a1_lasting, .inl (cI, 8, .inl v_a1_lasting))] H := hP
  have hD : va_D A [(q_t, .inr (3, [.ref q_t_ticksHeard])), (q_t_ticksHeard, .inl (cJ, 36, .inr (.inl z5_1))), (q_a1, .inr (8, [.ref q_a1_marks, .ref q_a1_lasting])), (q_a1_marks, .inl (cI, 480, .inl v_a1_marks)), (q_a1_lasting, .inl (cI, 8, .inl v_a1_lasting))] := hD
  refine lv_iconst (v := 0) hx hb dX3_listen_8 (by decide) ?_
  refine lv_istore_n (lv' := [(2, .int 0), (0, .ref q_t), (1, .ref q_a1)]) hx hb dX3_listen_9 rfl hl (by decide) rfl (fun ls hl => ?_)
  have L10_4 : ∀ (n : Nat) (x2_2 : Int32) (v_t_ticksHeard_3 : Nat → Int64), f_X3_listen_L10 v_a1_marks v_a1_lasting n x2_2 v_t_ticksHeard_3 = some z → ∀ (H : Heap) (locs : List Loc) (ls : Array Slot), va_P D vwCl [(q_t, .inr (3, [.ref q_t_ticksHeard])), (q_t_ticksHeard, .inl (cJ, 36, .inr (.inl v_t_ticksHeard_3))), (q_a1, .inr (8, [.ref q_a1_marks, .ref q_a1_lasting])), (q_a1_marks, .inl (cI, 480, .inl v_a1_marks)), (q_a1_lasting, .inl (cI, 8, .inl v_a1_lasting))] H → va_D A [(q_t, .inr (3, [.ref q_t_ticksHeard])), (q_t_ticksHeard, .inl (cJ, 36, .inr (.inl v_t_ticksHeard_3))), (q_a1, .inr (8, [.ref q_a1_marks, .ref q_a1_lasting])), (q_a1_marks, .inl (cI, 480, .inl v_a1_marks)), (q_a1_lasting, .inl (cI, 8, .inl v_a1_lasting))] → va_S A s.heap H locs → lv_has ls 5 [(0, .ref q_t), (1, .ref q_a1), (2, .int x2_2)] → W p l e ({ frames := 1, cells := 0, slots := 0, locals := 24 } : Room) s m ([.ref q_t, .ref q_a1] : List Value).toArray below meth c H locs 0 0 (MQ below (QV D cI cJ cZ [(q_t, .inr (3, [.ref q_t_ticksHeard])), (q_t_ticksHeard, .inl (cJ, 36, .inr (.inl z))), (q_a1, .inr (8, [.ref q_a1_marks, .ref q_a1_lasting])), (q_a1_marks, .inl (cI, 480, .inl v_a1_marks)), (q_a1_lasting, .inl (cI, 8, .inl v_a1_lasting))] A) ([.ref q_t, .ref q_a1] : List Value).toArray s 0 0 A) (F0 m 10 ls []) := by
    intro n
    induction n with
    | zero =>
      intro x2_2 v_t_ticksHeard_3 hf
      cases hf
    | succ n ih_5 =>
      intro x2_2 v_t_ticksHeard_3 hf H locs ls hP hD hS hl
      rw [f_X3_listen_L10] at hf
      refine lv_iload_n hx hb dX3_listen_10 rfl (lv_at hl 2 rfl) ?_
      refine lv_bipush (v := 8) hx hb dX3_listen_11 (by decide) ?_
      refine lv_icmp_ge (tgt := 75) hx hb dX3_listen_13 (by decide) (fun h_6 => ?_) (fun h_6 => ?_)
      · have hf := (if_pos h_6).symm.trans hf
        cases hf
        exact rt_v hx hb hr hlocks hK hP hS dX3_listen_75
      · have hf := (if_neg h_6).symm.trans hf
        refine lv_iconst (v := 1) hx hb dX3_listen_16 (by decide) ?_
        refine lv_istore_n (lv' := [(3, .int 1), (0, .ref q_t), (1, .ref q_a1), (2, .int x2_2)]) hx hb dX3_listen_17 rfl hl (by decide) rfl (fun ls hl => ?_)
        have L18_9 : ∀ (n : Nat) (x3_7 : Int32) (v_t_ticksHeard_8 : Nat → Int64), f_X3_listen_L18 (f_X3_listen_L10 v_a1_marks v_a1_lasting n) v_a1_marks v_a1_lasting x2_2 n x3_7 v_t_ticksHeard_8 = some z → ∀ (H : Heap) (locs : List Loc) (ls : Array Slot), va_P D vwCl [(q_t, .inr (3, [.ref q_t_ticksHeard])), (q_t_ticksHeard, .inl (cJ, 36, .inr (.inl v_t_ticksHeard_8))), (q_a1, .inr (8, [.ref q_a1_marks, .ref q_a1_lasting])), (q_a1_marks, .inl (cI, 480, .inl v_a1_marks)), (q_a1_lasting, .inl (cI, 8, .inl v_a1_lasting))] H → va_D A [(q_t, .inr (3, [.ref q_t_ticksHeard])), (q_t_ticksHeard, .inl (cJ, 36, .inr (.inl v_t_ticksHeard_8))), (q_a1, .inr (8, [.ref q_a1_marks, .ref q_a1_lasting])), (q_a1_marks, .inl (cI, 480, .inl v_a1_marks)), (q_a1_lasting, .inl (cI, 8, .inl v_a1_lasting))] → va_S A s.heap H locs → lv_has ls 5 [(0, .ref q_t), (1, .ref q_a1), (2, .int x2_2), (3, .int x3_7)] → W p l e ({ frames := 1, cells := 0, slots := 0, locals := 24 } : Room) s m ([.ref q_t, .ref q_a1] : List Value).toArray below meth c H locs 0 0 (MQ below (QV D cI cJ cZ [(q_t, .inr (3, [.ref q_t_ticksHeard])), (q_t_ticksHeard, .inl (cJ, 36, .inr (.inl z))), (q_a1, .inr (8, [.ref q_a1_marks, .ref q_a1_lasting])), (q_a1_marks, .inl (cI, 480, .inl v_a1_marks)), (q_a1_lasting, .inl (cI, 8, .inl v_a1_lasting))] A) ([.ref q_t, .ref q_a1] : List Value).toArray s 0 0 A) (F0 m 18 ls []) := by
          intro n
          induction n with
          | zero =>
            intro x3_7 v_t_ticksHeard_8 hf
            cases hf
          | succ n ih_10 =>
            intro x3_7 v_t_ticksHeard_8 hf H locs ls hP hD hS hl
            rw [f_X3_listen_L18] at hf
            refine lv_iload_n hx hb dX3_listen_18 rfl (lv_at hl 3 rfl) ?_
            refine lv_aload_n hx hb dX3_listen_19 rfl (lv_at hl 1 rfl) ?_
            refine lv_iload_n hx hb dX3_listen_20 rfl (lv_at hl 2 rfl) ?_
            obtain ⟨z21_11, hz21_11, hf⟩ := bd_some hf
            refine cVi (rest := [.int x3_7]) ⟨hx, hb, hml, hown, hts⟩ hE hK hP hD hS hA (c_X8_lastTickOf l D cI cJ cZ en q_a1 q_a1_marks q_a1_lasting H.size v_a1_marks v_a1_lasting x2_2 hz21_11) (gv_X8_lastTickOf w_806) hd_X8_lastTickOf ⟨rfl, rfl⟩ ⟨by decide, by decide⟩ [2, 3, 4] rfl rfl rfl 8 rfl rfl 2 rfl  hl rfl (Nat.le_of_ble_eq_true rfl) ⟨Nat.zero_le _, Nat.zero_le _⟩ dX3_listen_21 (fun H locs hP hD hS => ?_)
            have hP : va_P D vwCl [(q_t, .inr (3, [.ref q_t_ticksHeard])), (q_t_ticksHeard, .inl (cJ, 36, .inr (.inl v_t_ticksHeard_8))), (q_a1, .inr (8, [.ref q_a1_marks, .ref q_a1_lasting])), (q_a1_marks, .inl (cI, 480, .inl v_a1_marks)), (q_a1_lasting, .inl (cI, 8, .inl v_a1_lasting))] H := hP
            have hD : va_D A [(q_t, .inr (3, [.ref q_t_ticksHeard])), (q_t_ticksHeard, .inl (cJ, 36, .inr (.inl v_t_ticksHeard_8))), (q_a1, .inr (8, [.ref q_a1_marks, .ref q_a1_lasting])), (q_a1_marks, .inl (cI, 480, .inl v_a1_marks)), (q_a1_lasting, .inl (cI, 8, .inl v_a1_lasting))] := hD
            refine lv_icmp_gt (tgt := 69) hx hb dX3_listen_24 (by decide) (fun h_12 => ?_) (fun h_12 => ?_)
            · have hf := (if_pos h_12).symm.trans hf
              unfold f_X3_listen_J69 at hf
              refine lv_iinc (v := (x2_2 + 1)) (lv' := [(2, .int (x2_2 + 1)), (0, .ref q_t), (1, .ref q_a1), (3, .int x3_7)]) hx hb dX3_listen_69 hl (k := 2) rfl rfl (by decide) rfl (fun ls hl => ?_)
              refine lv_goto (tgt := 10) hx hb dX3_listen_72 (by decide) ?_
              exact ih_5 (x2_2 + 1) v_t_ticksHeard_8 hf _ _ _ hP hD hS (lv_sub hl [1, 2, 0] rfl)
            · have hf := (if_neg h_12).symm.trans hf
              refine lv_aload_n hx hb dX3_listen_27 rfl (lv_at hl 1 rfl) ?_
              refine lv_iload_n hx hb dX3_listen_28 rfl (lv_at hl 2 rfl) ?_
              refine lv_iload_n hx hb dX3_listen_29 rfl (lv_at hl 3 rfl) ?_
              obtain ⟨z30_13, hz30_13, hf⟩ := bd_some hf
              refine cVi (rest := []) ⟨hx, hb, hml, hown, hts⟩ hE hK hP hD hS hA (c_X8_soundOf l D cI cJ cZ en q_a1 q_a1_marks q_a1_lasting H.size v_a1_marks v_a1_lasting x2_2 x3_7 hz30_13) (gv_X8_soundOf w_807) hd_X8_soundOf ⟨rfl, rfl⟩ ⟨by decide, by decide⟩ [2, 3, 4] rfl rfl rfl 8 rfl rfl 2 rfl  hl rfl (Nat.le_of_ble_eq_true rfl) ⟨Nat.zero_le _, Nat.zero_le _⟩ dX3_listen_30 (fun H locs hP hD hS => ?_)
              have hP : va_P D vwCl [(q_t, .inr (3, [.ref q_t_ticksHeard])), (q_t_ticksHeard, .inl (cJ, 36, .inr (.inl v_t_ticksHeard_8))), (q_a1, .inr (8, [.ref q_a1_marks, .ref q_a1_lasting])), (q_a1_marks, .inl (cI, 480, .inl v_a1_marks)), (q_a1_lasting, .inl (cI, 8, .inl v_a1_lasting))] H := hP
              have hD : va_D A [(q_t, .inr (3, [.ref q_t_ticksHeard])), (q_t_ticksHeard, .inl (cJ, 36, .inr (.inl v_t_ticksHeard_8))), (q_a1, .inr (8, [.ref q_a1_marks, .ref q_a1_lasting])), (q_a1_marks, .inl (cI, 480, .inl v_a1_marks)), (q_a1_lasting, .inl (cI, 8, .inl v_a1_lasting))] := hD
              obtain ⟨z33_14, hz33_14, hf⟩ := bd_some hf
              refine cSi (rest := []) ⟨hx, hb, hml, hown, hts⟩ hE hK hP hD hS hA (c_X8_cellOf l D cI cJ cZ en  H.size z30_13 hz33_14) (gs_X8_cellOf w_808) hd_X8_cellOf ⟨rfl, rfl⟩ ⟨by decide, by decide⟩ [] rfl rfl rfl  hl rfl (Nat.le_of_ble_eq_true rfl) ⟨Nat.zero_le _, Nat.zero_le _⟩ dX3_listen_33 (fun H locs hP hD hS => ?_)
              have hP : va_P D vwCl [(q_t, .inr (3, [.ref q_t_ticksHeard])), (q_t_ticksHeard, .inl (cJ, 36, .inr (.inl v_t_ticksHeard_8))), (q_a1, .inr (8, [.ref q_a1_marks, .ref q_a1_lasting])), (q_a1_marks, .inl (cI, 480, .inl v_a1_marks)), (q_a1_lasting, .inl (cI, 8, .inl v_a1_lasting))] H := hP
              have hD : va_D A [(q_t, .inr (3, [.ref q_t_ticksHeard])), (q_t_ticksHeard, .inl (cJ, 36, .inr (.inl v_t_ticksHeard_8))), (q_a1, .inr (8, [.ref q_a1_marks, .ref q_a1_lasting])), (q_a1_marks, .inl (cI, 480, .inl v_a1_marks)), (q_a1_lasting, .inl (cI, 8, .inl v_a1_lasting))] := hD
              refine lv_istore (lv' := [(4, .int z33_14), (0, .ref q_t), (1, .ref q_a1), (2, .int x2_2), (3, .int x3_7)]) hx hb dX3_listen_36 hl (by decide) rfl (fun ls hl => ?_)
              refine lv_iload hx hb dX3_listen_38 (lv_at hl 0 rfl) ?_
              have J63_16 : ∀ (v_t_ticksHeard_15 : Nat → Int64), f_X3_listen_J63 (f_X3_listen_L18 (f_X3_listen_L10 v_a1_marks v_a1_lasting n) v_a1_marks v_a1_lasting x2_2 n) v_t_ticksHeard_15 x3_7 = some z → ∀ (H : Heap) (locs : List Loc) (ls : Array Slot), va_P D vwCl [(q_t, .inr (3, [.ref q_t_ticksHeard])), (q_t_ticksHeard, .inl (cJ, 36, .inr (.inl v_t_ticksHeard_15))), (q_a1, .inr (8, [.ref q_a1_marks, .ref q_a1_lasting])), (q_a1_marks, .inl (cI, 480, .inl v_a1_marks)), (q_a1_lasting, .inl (cI, 8, .inl v_a1_lasting))] H → va_D A [(q_t, .inr (3, [.ref q_t_ticksHeard])), (q_t_ticksHeard, .inl (cJ, 36, .inr (.inl v_t_ticksHeard_15))), (q_a1, .inr (8, [.ref q_a1_marks, .ref q_a1_lasting])), (q_a1_marks, .inl (cI, 480, .inl v_a1_marks)), (q_a1_lasting, .inl (cI, 8, .inl v_a1_lasting))] → va_S A s.heap H locs → lv_has ls 5 [(0, .ref q_t), (1, .ref q_a1), (2, .int x2_2), (3, .int x3_7)] → W p l e ({ frames := 1, cells := 0, slots := 0, locals := 24 } : Room) s m ([.ref q_t, .ref q_a1] : List Value).toArray below meth c H locs 0 0 (MQ below (QV D cI cJ cZ [(q_t, .inr (3, [.ref q_t_ticksHeard])), (q_t_ticksHeard, .inl (cJ, 36, .inr (.inl z))), (q_a1, .inr (8, [.ref q_a1_marks, .ref q_a1_lasting])), (q_a1_marks, .inl (cI, 480, .inl v_a1_marks)), (q_a1_lasting, .inl (cI, 8, .inl v_a1_lasting))] A) ([.ref q_t, .ref q_a1] : List Value).toArray s 0 0 A) (F0 m 63 ls []) := by
                intro v_t_ticksHeard_15 hf H locs ls hP hD hS hl
                unfold f_X3_listen_J63 at hf
                refine lv_iinc (v := (x3_7 + 1)) (lv' := [(3, .int (x3_7 + 1)), (0, .ref q_t), (1, .ref q_a1), (2, .int x2_2)]) hx hb dX3_listen_63 hl (k := 3) rfl rfl (by decide) rfl (fun ls hl => ?_)
                refine lv_goto (tgt := 18) hx hb dX3_listen_66 (by decide) ?_
                exact ih_10 (x3_7 + 1) v_t_ticksHeard_15 hf _ _ _ hP hD hS (lv_sub hl [1, 2, 3, 0] rfl)
              refine lv_if_lt (tgt := 63) hx hb dX3_listen_40 (by decide) (fun h_17 => ?_) (fun h_17 => ?_)
              · have hf := (if_pos h_17).symm.trans hf
                exact J63_16 v_t_ticksHeard_8 hf _ _ _ hP hD hS (lv_sub hl [1, 2, 3, 4] rfl)
              · have hf := (if_neg h_17).symm.trans hf
                refine lv_iload hx hb dX3_listen_43 (lv_at hl 0 rfl) ?_
                refine lv_bipush (v := 36) hx hb dX3_listen_45 (by decide) ?_
                refine lv_icmp_ge (tgt := 63) hx hb dX3_listen_47 (by decide) (fun h_18 => ?_) (fun h_18 => ?_)
                · have hf := (if_pos h_18).symm.trans hf
                  exact J63_16 v_t_ticksHeard_8 hf _ _ _ hP hD hS (lv_sub hl [1, 2, 3, 4] rfl)
                · have hf := (if_neg h_18).symm.trans hf
                  refine lv_aload_n hx hb dX3_listen_50 rfl (lv_at hl 1 rfl) ?_
                  refine va_get (D := D) (ci := 3) (v := .ref q_t_ticksHeard) (C := RX3) (T := TX3) (N := 1) hx hb hts inX3 hown hK hP 0 rfl rfl 0 (by decide) (hts _ w_262) (fun _ h9 => h9) rfl dX3_listen_51 ?_
                  refine lv_iload hx hb dX3_listen_54 (lv_at hl 0 rfl) ?_
                  refine lv_dup2_11 hx hb dX3_listen_56 rfl rfl ?_
                  obtain ⟨hin, hf⟩ := gd_some hf
                  refine va_lald hx hb hK hP 1 1 rfl rfl hin dX3_listen_57 ?_
                  refine lv_lconst (v := 1) hx hb dX3_listen_58 (by decide) ?_
                  refine lv_iload_n hx hb dX3_listen_59 rfl (lv_at hl 4 rfl) ?_
                  refine lv_lshl (v := (1 <<< (Int32.toInt64 x3_7 &&& 63))) hx hb dX3_listen_60 rfl ?_
                  refine lv_lor hx hb dX3_listen_61 ?_
                  obtain ⟨hin, hf⟩ := gd_some hf
                  refine va_last hx hb hK hP hD hS 1 1 rfl rfl hin dX3_listen_62 (fun H locs hP hD hS => ?_)
                  have hP : va_P D vwCl [(q_t, .inr (3, [.ref q_t_ticksHeard])), (q_t_ticksHeard, .inl (cJ, 36, .inr (.inl (vp_updL v_t_ticksHeard_8 (Int32.toNatClampNeg z33_14) ((v_t_ticksHeard_8 (Int32.toNatClampNeg z33_14)) ||| (1 <<< (Int32.toInt64 x3_7 &&& 63))))))), (q_a1, .inr (8, [.ref q_a1_marks, .ref q_a1_lasting])), (q_a1_marks, .inl (cI, 480, .inl v_a1_marks)), (q_a1_lasting, .inl (cI, 8, .inl v_a1_lasting))] H := hP
                  have hD : va_D A [(q_t, .inr (3, [.ref q_t_ticksHeard])), (q_t_ticksHeard, .inl (cJ, 36, .inr (.inl (vp_updL v_t_ticksHeard_8 (Int32.toNatClampNeg z33_14) ((v_t_ticksHeard_8 (Int32.toNatClampNeg z33_14)) ||| (1 <<< (Int32.toInt64 x3_7 &&& 63))))))), (q_a1, .inr (8, [.ref q_a1_marks, .ref q_a1_lasting])), (q_a1_marks, .inl (cI, 480, .inl v_a1_marks)), (q_a1_lasting, .inl (cI, 8, .inl v_a1_lasting))] := hD
                  exact J63_16 (vp_updL v_t_ticksHeard_8 (Int32.toNatClampNeg z33_14) ((v_t_ticksHeard_8 (Int32.toNatClampNeg z33_14)) ||| (1 <<< (Int32.toInt64 x3_7 &&& 63)))) hf _ _ _ hP hD hS (lv_sub hl [1, 2, 3, 4] rfl)
        exact L18_9 FU 1 v_t_ticksHeard_3 hf _ _ _ hP hD hS (lv_sub hl [1, 2, 3, 0] rfl)
  exact L10_4 FU 0 z5_1 hf _ _ _ hP hD hS (lv_sub hl [1, 2, 0] rfl)

def f_X3_isHeard (v_t_ticksHeard : Nat → Int64) (x1 : Int32) (x2 : Int32) : Option (Int32) :=
  (if x1 < 0 then (some 0) else (if 36 ≤ x1 then (some 0) else (if x2 < 1 then (some 0) else (if x2 ≤ 60 then gd (ib x1 36) ((if (lg_cmp (((v_t_ticksHeard (Int32.toNatClampNeg x1)) >>> (Int32.toInt64 x2 &&& 63)) &&& 1) 1) = 0 then (some 1) else (some 0))) else (some 0)))))
theorem gv_X3_isHeard {own : String} {idx : Nat} (h : Cond.methodLink own idx yX3_isHeard ∈ lw_g) : GoodIn lw_g (wsV own idx RX3 yX3_isHeard (Cond.code yX3_isHeard cX3_isHeard 3 (some .boolean) :: lw_g)) := gV h w_831 w_20 w_66 w_832
theorem hd_X3_isHeard : yX3_isHeard.cls = RX3 ∧ yX3_isHeard.cls ≠ "java/lang/invoke/MethodHandle" ∧ yX3_isHeard.cls ≠ "java/lang/invoke/VarHandle" ∧ (parseMethodDescriptor yX3_isHeard.desc).map (fun d => d.parameters.length) = some 2 := by decide +kernel
set_option maxHeartbeats 4000000 in
set_option maxRecDepth 100000 in
theorem c_X3_isHeard (l : Launch) (D : va_G) (cI cJ cZ : ClassId) (en : EnT) (q_t q_t_ticksHeard : Nat) (sz : Nat) (v_t_ticksHeard : Nat → Int64) (x1 : Int32) (x2 : Int32) {z : Int32} (hf : f_X3_isHeard v_t_ticksHeard x1 x2 = some z) : Met l yX3_isHeard (Cond.code yX3_isHeard cX3_isHeard 3 (some .boolean) :: lw_g) ({ frames := 0, cells := 0, slots := 0, locals := 0 } : Room) (PC D cI cJ cZ en ([.ref q_t, .int x1, .int x2] : List Value) [(q_t, .inr (3, [.ref q_t_ticksHeard])), (q_t_ticksHeard, .inl (cJ, 36, .inr (.inl v_t_ticksHeard)))] sz) (QI D cI cJ cZ [(q_t, .inr (3, [.ref q_t_ticksHeard])), (q_t_ticksHeard, .inl (cJ, 36, .inr (.inl v_t_ticksHeard)))] z (va_A [(q_t, .inr (3, [.ref q_t_ticksHeard])), (q_t_ticksHeard, .inl (cJ, 36, .inr (.inl v_t_ticksHeard)))] sz)) 0 0 (va_A [(q_t, .inr (3, [.ref q_t_ticksHeard])), (q_t_ticksHeard, .inl (cJ, 36, .inr (.inl v_t_ticksHeard)))] sz) := by
  refine mk_met (Qc := fun A => (QI D cI cJ cZ [(q_t, .inr (3, [.ref q_t_ticksHeard])), (q_t_ticksHeard, .inl (cJ, 36, .inr (.inl v_t_ticksHeard)))] z A)) RX3 (by decide) rfl (Nat.le_of_ble_eq_true rfl) ?_
  intro p e s m below meth c ls A hx hb hr hml hown hts hlocks hA hK hE hl hD H locs hP hS
  have hl : lv_has ls 3 [(0, .ref q_t), (1, .int x1), (2, .int x2)] := hl
  unfold f_X3_isHeard at hf
  refine lv_iload_n hx hb dX3_isHeard_0 rfl (lv_at hl 1 rfl) ?_
  refine lv_if_lt (tgt := 21) hx hb dX3_isHeard_1 (by decide) (fun h_1 => ?_) (fun h_1 => ?_)
  · have hf := (if_pos h_1).symm.trans hf
    refine lv_iconst (v := 0) hx hb dX3_isHeard_21 (by decide) ?_
    cases hf
    exact rt_z hx hb hr hlocks hK hP hS (Or.inl rfl) dX3_isHeard_22
  · have hf := (if_neg h_1).symm.trans hf
    refine lv_iload_n hx hb dX3_isHeard_4 rfl (lv_at hl 1 rfl) ?_
    refine lv_bipush (v := 36) hx hb dX3_isHeard_5 (by decide) ?_
    refine lv_icmp_ge (tgt := 21) hx hb dX3_isHeard_7 (by decide) (fun h_2 => ?_) (fun h_2 => ?_)
    · have hf := (if_pos h_2).symm.trans hf
      refine lv_iconst (v := 0) hx hb dX3_isHeard_21 (by decide) ?_
      cases hf
      exact rt_z hx hb hr hlocks hK hP hS (Or.inl rfl) dX3_isHeard_22
    · have hf := (if_neg h_2).symm.trans hf
      refine lv_iload_n hx hb dX3_isHeard_10 rfl (lv_at hl 2 rfl) ?_
      refine lv_iconst (v := 1) hx hb dX3_isHeard_11 (by decide) ?_
      refine lv_icmp_lt (tgt := 21) hx hb dX3_isHeard_12 (by decide) (fun h_3 => ?_) (fun h_3 => ?_)
      · have hf := (if_pos h_3).symm.trans hf
        refine lv_iconst (v := 0) hx hb dX3_isHeard_21 (by decide) ?_
        cases hf
        exact rt_z hx hb hr hlocks hK hP hS (Or.inl rfl) dX3_isHeard_22
      · have hf := (if_neg h_3).symm.trans hf
        refine lv_iload_n hx hb dX3_isHeard_15 rfl (lv_at hl 2 rfl) ?_
        refine lv_bipush (v := 60) hx hb dX3_isHeard_16 (by decide) ?_
        refine lv_icmp_le (tgt := 23) hx hb dX3_isHeard_18 (by decide) (fun h_4 => ?_) (fun h_4 => ?_)
        · have hf := (if_pos h_4).symm.trans hf
          refine lv_aload_n hx hb dX3_isHeard_23 rfl (lv_at hl 0 rfl) ?_
          refine va_get (D := D) (ci := 3) (v := .ref q_t_ticksHeard) (C := RX3) (T := TX3) (N := 1) hx hb hts inX3 hown hK hP 0 rfl rfl 0 (by decide) (hts _ w_262) (fun _ h9 => h9) rfl dX3_isHeard_24 ?_
          refine lv_iload_n hx hb dX3_isHeard_27 rfl (lv_at hl 1 rfl) ?_
          obtain ⟨hin, hf⟩ := gd_some hf
          refine va_lald hx hb hK hP 1 1 rfl rfl hin dX3_isHeard_28 ?_
          refine lv_iload_n hx hb dX3_isHeard_29 rfl (lv_at hl 2 rfl) ?_
          refine lv_lshr (v := ((v_t_ticksHeard (Int32.toNatClampNeg x1)) >>> (Int32.toInt64 x2 &&& 63))) hx hb dX3_isHeard_30 rfl ?_
          refine lv_lconst (v := 1) hx hb dX3_isHeard_31 (by decide) ?_
          refine lv_land hx hb dX3_isHeard_32 ?_
          refine lv_lconst (v := 1) hx hb dX3_isHeard_33 (by decide) ?_
          refine W.lcmp hx hb dX3_isHeard_34 ?_
          refine lv_if_ne (tgt := 42) hx hb dX3_isHeard_35 (by decide) (fun h_5 => ?_) (fun h_5 => ?_)
          · have hf := (if_neg h_5).symm.trans hf
            refine lv_iconst (v := 0) hx hb dX3_isHeard_42 (by decide) ?_
            cases hf
            exact rt_z hx hb hr hlocks hK hP hS (Or.inl rfl) dX3_isHeard_43
          · have hf := (if_pos h_5).symm.trans hf
            refine lv_iconst (v := 1) hx hb dX3_isHeard_38 (by decide) ?_
            refine lv_goto (tgt := 43) hx hb dX3_isHeard_39 (by decide) ?_
            cases hf
            exact rt_z hx hb hr hlocks hK hP hS (Or.inr rfl) dX3_isHeard_43
        · have hf := (if_neg h_4).symm.trans hf
          refine lv_iconst (v := 0) hx hb dX3_isHeard_21 (by decide) ?_
          cases hf
          exact rt_z hx hb hr hlocks hK hP hS (Or.inl rfl) dX3_isHeard_22

def f_X3_fits_L3 (v_t_ticksHeard : Nat → Int64) (v_a3_windows : Nat → Int32) (v_a4_notes : Int32) (v_a4_hearers : Nat → Int32) (v_a4_minutes : Nat → Int32) (x1 : Int32) (x2 : Int32) : Nat → (Int32) → Option (Int32)
  | 0, _ => none
  | n + 1, x5 => (if v_a4_notes ≤ x5 then (some 1) else (f_X1_hearerOf v_a4_hearers x5).bind (fun z17 => (f_X1_minuteOf v_a4_minutes x5).bind (fun z26 => (if z17 = x1 then (some 0) else (f_X2_windowOf v_a3_windows z17).bind (fun z43 => (f_X3_isHeard v_t_ticksHeard z43 (z26 - x2)).bind (fun z48 => (if z48 = 0 then (some 0) else (f_X3_fits_L3 v_t_ticksHeard v_a3_windows v_a4_notes v_a4_hearers v_a4_minutes x1 x2 n (x5 + 1)))))))))
def f_X3_fits (v_t_ticksHeard : Nat → Int64) (v_a3_windows : Nat → Int32) (v_a4_notes : Int32) (v_a4_hearers : Nat → Int32) (v_a4_minutes : Nat → Int32) (x1 : Int32) (x2 : Int32) : Option (Int32) :=
  (f_X3_fits_L3 v_t_ticksHeard v_a3_windows v_a4_notes v_a4_hearers v_a4_minutes x1 x2 FU 0)
theorem gv_X3_fits {own : String} {idx : Nat} (h : Cond.methodLink own idx yX3_fits ∈ lw_g) : GoodIn lw_g (wsV own idx RX3 yX3_fits (Cond.code yX3_fits cX3_fits 8 (some .boolean) :: lw_g)) := gV h w_815 w_19 w_66 w_816
theorem hd_X3_fits : yX3_fits.cls = RX3 ∧ yX3_fits.cls ≠ "java/lang/invoke/MethodHandle" ∧ yX3_fits.cls ≠ "java/lang/invoke/VarHandle" ∧ (parseMethodDescriptor yX3_fits.desc).map (fun d => d.parameters.length) = some 4 := by decide +kernel
set_option maxHeartbeats 4000000 in
set_option maxRecDepth 100000 in
theorem c_X3_fits (l : Launch) (D : va_G) (cI cJ cZ : ClassId) (en : EnT) (q_t q_t_ticksHeard q_a3 q_a3_ground q_a3_windows q_a3_lawParts q_a4 q_a4_debts q_a4_criers q_a4_louds q_a4_highs q_a4_hours q_a4_hearers q_a4_minutes : Nat) (sz : Nat) (v_t_ticksHeard : Nat → Int64) (v_a3_columns : Int32) (v_a3_rows : Int32) (v_a3_fade : Int32) (v_a3_laws : Int32) (v_a3_nightHours : Int32) (v_a3_nightTimes : Int32) (v_a3_ground : Nat → Int32) (v_a3_windows : Nat → Int32) (v_a3_lawParts : Nat → Int32) (v_a4_cries : Int32) (v_a4_notes : Int32) (v_a4_debts : Nat → Int32) (v_a4_criers : Nat → Int32) (v_a4_louds : Nat → Int32) (v_a4_highs : Nat → Int32) (v_a4_hours : Nat → Int32) (v_a4_hearers : Nat → Int32) (v_a4_minutes : Nat → Int32) (x1 : Int32) (x2 : Int32) {z : Int32} (hf : f_X3_fits v_t_ticksHeard v_a3_windows v_a4_notes v_a4_hearers v_a4_minutes x1 x2 = some z) : Met l yX3_fits (Cond.code yX3_fits cX3_fits 8 (some .boolean) :: lw_g) ({ frames := 2, cells := 0, slots := 0, locals := 41 } : Room) (PC D cI cJ cZ en ([.ref q_t, .int x1, .int x2, .ref q_a3, .ref q_a4] : List Value) [(q_t, .inr (3, [.ref q_t_ticksHeard])), (q_t_ticksHeard, .inl (cJ, 36, .inr (.inl v_t_ticksHeard))), (q_a3, .inr (2, [.int v_a3_columns, .int v_a3_rows, .int v_a3_fade, .int v_a3_laws, .int v_a3_nightHours, .int v_a3_nightTimes, .ref q_a3_ground, .ref q_a3_windows, .ref q_a3_lawParts])), (q_a3_ground, .inl (cI, 36, .inl v_a3_ground)), (q_a3_windows, .inl (cI, 6, .inl v_a3_windows)), (q_a3_lawParts, .inl (cI, 18, .inl v_a3_lawParts)), (q_a4, .inr (1, [.ref q_a4_debts, .ref q_a4_criers, .ref q_a4_louds, .ref q_a4_highs, .ref q_a4_hours, .ref q_a4_hearers, .ref q_a4_minutes, .int v_a4_cries, .int v_a4_notes])), (q_a4_debts, .inl (cI, 36, .inl v_a4_debts)), (q_a4_criers, .inl (cI, 20, .inl v_a4_criers)), (q_a4_louds, .inl (cI, 20, .inl v_a4_louds)), (q_a4_highs, .inl (cZ, 20, .inl v_a4_highs)), (q_a4_hours, .inl (cI, 20, .inl v_a4_hours)), (q_a4_hearers, .inl (cI, 12, .inl v_a4_hearers)), (q_a4_minutes, .inl (cI, 12, .inl v_a4_minutes))] sz) (QI D cI cJ cZ [(q_t, .inr (3, [.ref q_t_ticksHeard])), (q_t_ticksHeard, .inl (cJ, 36, .inr (.inl v_t_ticksHeard))), (q_a3, .inr (2, [.int v_a3_columns, .int v_a3_rows, .int v_a3_fade, .int v_a3_laws, .int v_a3_nightHours, .int v_a3_nightTimes, .ref q_a3_ground, .ref q_a3_windows, .ref q_a3_lawParts])), (q_a3_ground, .inl (cI, 36, .inl v_a3_ground)), (q_a3_windows, .inl (cI, 6, .inl v_a3_windows)), (q_a3_lawParts, .inl (cI, 18, .inl v_a3_lawParts)), (q_a4, .inr (1, [.ref q_a4_debts, .ref q_a4_criers, .ref q_a4_louds, .ref q_a4_highs, .ref q_a4_hours, .ref q_a4_hearers, .ref q_a4_minutes, .int v_a4_cries, .int v_a4_notes])), (q_a4_debts, .inl (cI, 36, .inl v_a4_debts)), (q_a4_criers, .inl (cI, 20, .inl v_a4_criers)), (q_a4_louds, .inl (cI, 20, .inl v_a4_louds)), (q_a4_highs, .inl (cZ, 20, .inl v_a4_highs)), (q_a4_hours, .inl (cI, 20, .inl v_a4_hours)), (q_a4_hearers, .inl (cI, 12, .inl v_a4_hearers)), (q_a4_minutes, .inl (cI, 12, .inl v_a4_minutes))] z (va_A [(q_t, .inr (3, [.ref q_t_ticksHeard])), (q_t_ticksHeard, .inl (cJ, 36, .inr (.inl v_t_ticksHeard))), (q_a3, .inr (2, [.int v_a3_columns, .int v_a3_rows, .int v_a3_fade, .int v_a3_laws, .int v_a3_nightHours, .int v_a3_nightTimes, .ref q_a3_ground, .ref q_a3_windows, .ref q_a3_lawParts])), (q_a3_ground, .inl (cI, 36, .inl v_a3_ground)), (q_a3_windows, .inl (cI, 6, .inl v_a3_windows)), (q_a3_lawParts, .inl (cI, 18, .inl v_a3_lawParts)), (q_a4, .inr (1, [.ref q_a4_debts, .ref q_a4_criers, .ref q_a4_louds, .ref q_a4_highs, .ref q_a4_hours, .ref q_a4_hearers, .ref q_a4_minutes, .int v_a4_cries, .int v_a4_notes])), (q_a4_debts, .inl (cI, 36, .inl v_a4_debts)), (q_a4_criers, .inl (cI, 20, .inl v_a4_criers)), (q_a4_louds, .inl (cI, 20, .inl v_a4_louds)), (q_a4_highs, .inl (cZ, 20, .inl v_a4_highs)), (q_a4_hours, .inl (cI, 20, .inl v_a4_hours)), (q_a4_hearers, .inl (cI, 12, .inl v_a4_hearers)), (q_a4_minutes, .inl (cI, 12, .inl v_a4_minutes))] sz)) 0 0 (va_A [(q_t, .inr (3, [.ref q_t_ticksHeard])), (q_t_ticksHeard, .inl (cJ, 36, .inr (.inl v_t_ticksHeard))), (q_a3, .inr (2, [.int v_a3_columns, .int v_a3_rows, .int v_a3_fade, .int v_a3_laws, .int v_a3_nightHours, .int v_a3_nightTimes, .ref q_a3_ground, .ref q_a3_windows, .ref q_a3_lawParts])), (q_a3_ground, .inl (cI, 36, .inl v_a3_ground)), (q_a3_windows, .inl (cI, 6, .inl v_a3_windows)), (q_a3_lawParts, .inl (cI, 18, .inl v_a3_lawParts)), (q_a4, .inr (1, [.ref q_a4_debts, .ref q_a4_criers, .ref q_a4_louds, .ref q_a4_highs, .ref q_a4_hours, .ref q_a4_hearers, .ref q_a4_minutes, .int v_a4_cries, .int v_a4_notes])), (q_a4_debts, .inl (cI, 36, .inl v_a4_debts)), (q_a4_criers, .inl (cI, 20, .inl v_a4_criers)), (q_a4_louds, .inl (cI, 20, .inl v_a4_louds)), (q_a4_highs, .inl (cZ, 20, .inl v_a4_highs)), (q_a4_hours, .inl (cI, 20, .inl v_a4_hours)), (q_a4_hearers, .inl (cI, 12, .inl v_a4_hearers)), (q_a4_minutes, .inl (cI, 12, .inl v_a4_minutes))] sz) := by
  refine mk_met (Qc := fun A => (QI D cI cJ cZ [(q_t, .inr (3, [.ref q_t_ticksHeard])), (q_t_ticksHeard, .inl (cJ, 36, .inr (.inl v_t_ticksHeard))), (q_a3, .inr (2, [.int v_a3_columns, .int v_a3_rows, .int v_a3_fade, .int v_a3_laws, .int v_a3_nightHours, .int v_a3_nightTimes, .ref q_a3_ground, .ref q_a3_windows, .ref q_a3_lawParts])), (q_a3_ground, .inl (cI, 36, .inl v_a3_ground)), (q_a3_windows, .inl (cI, 6, .inl v_a3_windows)), (q_a3_lawParts, .inl (cI, 18, .inl v_a3_lawParts)), (q_a4, .inr (1, [.ref q_a4_debts, .ref q_a4_criers, .ref q_a4_louds, .ref q_a4_highs, .ref q_a4_hours, .ref q_a4_hearers, .ref q_a4_minutes, .int v_a4_cries, .int v_a4_notes])), (q_a4_debts, .inl (cI, 36, .inl v_a4_debts)), (q_a4_criers, .inl (cI, 20, .inl v_a4_criers)), (q_a4_louds, .inl (cI, 20, .inl v_a4_louds)), (q_a4_highs, .inl (cZ, 20, .inl v_a4_highs)), (q_a4_hours, .inl (cI, 20, .inl v_a4_hours)), (q_a4_hearers, .inl (cI, 12, .inl v_a4_hearers)), (q_a4_minutes, .inl (cI, 12, .inl v_a4_minutes))] z A)) RX3 (by decide) rfl (Nat.le_of_ble_eq_true rfl) ?_
  intro p e s m below meth c ls A hx hb hr hml hown hts hlocks hA hK hE hl hD H locs hP hS
  have hl : lv_has ls 8 [(0, .ref q_t), (1, .int x1), (2, .int x2), (3, .ref q_a3), (4, .ref q_a4)] := hl
  unfold f_X3_fits at hf
  refine lv_iconst (v := 0) hx hb dX3_fits_0 (by decide) ?_
  refine lv_istore (lv' := [(5, .int 0), (0, .ref q_t), (1, .int x1), (2, .int x2), (3, .ref q_a3), (4, .ref q_a4)]) hx hb dX3_fits_1 hl (by decide) rfl (fun ls hl => ?_)
  have L3_2 : ∀ (n : Nat) (x5_1 : Int32), f_X3_fits_L3 v_t_ticksHeard v_a3_windows v_a4_notes v_a4_hearers v_a4_minutes x1 x2 n x5_1 = some z → ∀ (H : Heap) (locs : List Loc) (ls : Array Slot), va_P D vwCl [(q_t, .inr (3, [.ref q_t_ticksHeard])), (q_t_ticksHeard, .inl (cJ, 36, .inr (.inl v_t_ticksHeard))), (q_a3, .inr (2, [.int v_a3_columns, .int v_a3_rows, .int v_a3_fade, .int v_a3_laws, .int v_a3_nightHours, .int v_a3_nightTimes, .ref q_a3_ground, .ref q_a3_windows, .ref q_a3_lawParts])), (q_a3_ground, .inl (cI, 36, .inl v_a3_ground)), (q_a3_windows, .inl (cI, 6, .inl v_a3_windows)), (q_a3_lawParts, .inl (cI, 18, .inl v_a3_lawParts)), (q_a4, .inr (1, [.ref q_a4_debts, .ref q_a4_criers, .ref q_a4_louds, .ref q_a4_highs, .ref q_a4_hours, .ref q_a4_hearers, .ref q_a4_minutes, .int v_a4_cries, .int v_a4_notes])), (q_a4_debts, .inl (cI, 36, .inl v_a4_debts)), (q_a4_criers, .inl (cI, 20, .inl v_a4_criers)), (q_a4_louds, .inl (cI, 20, .inl v_a4_louds)), (q_a4_highs, .inl (cZ, 20, .inl v_a4_highs)), (q_a4_hours, .inl (cI, 20, .inl v_a4_hours)), (q_a4_hearers, .inl (cI, 12, .inl v_a4_hearers)), (q_a4_minutes, .inl (cI, 12, .inl v_a4_minutes))] H → va_D A [(q_t, .inr (3, [.ref q_t_ticksHeard])), (q_t_ticksHeard, .inl (cJ, 36, .inr (.inl v_t_ticksHeard))), (q_a3, .inr (2, [.int v_a3_columns, .int v_a3_rows, .int v_a3_fade, .int v_a3_laws, .int v_a3_nightHours, .int v_a3_nightTimes, .ref q_a3_ground, .ref q_a3_windows, .ref q_a3_lawParts])), (q_a3_ground, .inl (cI, 36, .inl v_a3_ground)), (q_a3_windows, .inl (cI, 6, .inl v_a3_windows)), (q_a3_lawParts, .inl (cI, 18, .inl v_a3_lawParts)), (q_a4, .inr (1, [.ref q_a4_debts, .ref q_a4_criers, .ref q_a4_louds, .ref q_a4_highs, .ref q_a4_hours, .ref q_a4_hearers, .ref q_a4_minutes, .int v_a4_cries, .int v_a4_notes])), (q_a4_debts, .inl (cI, 36, .inl v_a4_debts)), (q_a4_criers, .inl (cI, 20, .inl v_a4_criers)), (q_a4_louds, .inl (cI, 20, .inl v_a4_louds)), (q_a4_highs, .inl (cZ, 20, .inl v_a4_highs)), (q_a4_hours, .inl (cI, 20, .inl v_a4_hours)), (q_a4_hearers, .inl (cI, 12, .inl v_a4_hearers)), (q_a4_minutes, .inl (cI, 12, .inl v_a4_minutes))] → va_S A s.heap H locs → lv_has ls 8 [(0, .ref q_t), (1, .int x1), (2, .int x2), (3, .ref q_a3), (4, .ref q_a4), (5, .int x5_1)] → W p l e ({ frames := 2, cells := 0, slots := 0, locals := 41 } : Room) s m ([.ref q_t, .int x1, .int x2, .ref q_a3, .ref q_a4] : List Value).toArray below meth c H locs 0 0 (MQ below (QI D cI cJ cZ [(q_t, .inr (3, [.ref q_t_ticksHeard])), (q_t_ticksHeard, .inl (cJ, 36, .inr (.inl v_t_ticksHeard))), (q_a3, .inr (2, [.int v_a3_columns, .int v_a3_rows, .int v_a3_fade, .int v_a3_laws, .int v_a3_nightHours, .int v_a3_nightTimes, .ref q_a3_ground, .ref q_a3_windows, .ref q_a3_lawParts])), (q_a3_ground, .inl (cI, 36, .inl v_a3_ground)), (q_a3_windows, .inl (cI, 6, .inl v_a3_windows)), (q_a3_lawParts, .inl (cI, 18, .inl v_a3_lawParts)), (q_a4, .inr (1, [.ref q_a4_debts, .ref q_a4_criers, .ref q_a4_louds, .ref q_a4_highs, .ref q_a4_hours, .ref q_a4_hearers, .ref q_a4_minutes, .int v_a4_cries, .int v_a4_notes])), (q_a4_debts, .inl (cI, 36, .inl v_a4_debts)), (q_a4_criers, .inl (cI, 20, .inl v_a4_criers)), (q_a4_louds, .inl (cI, 20, .inl v_a4_louds)), (q_a4_highs, .inl (cZ, 20, .inl v_a4_highs)), (q_a4_hours, .inl (cI, 20, .inl v_a4_hours)), (q_a4_hearers, .inl (cI, 12, .inl v_a4_hearers)), (q_a4_minutes, .inl (cI, 12, .inl v_a4_minutes))] z A) ([.ref q_t, .int x1, .int x2, .ref q_a3, .ref q_a4] : List Value).toArray s 0 0 A) (F0 m 3 ls []) := by
    intro n
    induction n with
    | zero =>
      intro x5_1 hf
      cases hf
    | succ n ih_3 =>
      intro x5_1 hf H locs ls hP hD hS hl
      rw [f_X3_fits_L3] at hf
      refine lv_iload hx hb dX3_fits_3 (lv_at hl 5 rfl) ?_
      refine lv_aload hx hb dX3_fits_5 (lv_at hl 4 rfl) ?_
      refine va_get (D := D) (ci := 1) (v := .int v_a4_notes) (C := RX1) (T := TX1) (N := 9) hx hb hts inX1 hown hK hP 6 rfl rfl 8 (by decide) (hts _ w_188) (fun _ h9 => h9) rfl dX3_fits_7 ?_
      refine lv_icmp_ge (tgt := 62) hx hb dX3_fits_10 (by decide) (fun h_4 => ?_) (fun h_4 => ?_)
      · have hf := (if_pos h_4).symm.trans hf
        refine lv_iconst (v := 1) hx hb dX3_fits_62 (by decide) ?_
        cases hf
        exact rt_z hx hb hr hlocks hK hP hS (Or.inr rfl) dX3_fits_63
      · have hf := (if_neg h_4).symm.trans hf
        refine lv_aload hx hb dX3_fits_13 (lv_at hl 4 rfl) ?_
        refine lv_iload hx hb dX3_fits_15 (lv_at hl 5 rfl) ?_
        obtain ⟨z17_5, hz17_5, hf⟩ := bd_some hf
        refine cVi (rest := []) ⟨hx, hb, hml, hown, hts⟩ hE hK hP hD hS hA (c_X1_hearerOf l D cI cJ cZ en q_a4 q_a4_debts q_a4_criers q_a4_louds q_a4_highs q_a4_hours q_a4_hearers q_a4_minutes H.size v_a4_cries v_a4_notes v_a4_debts v_a4_criers v_a4_louds v_a4_highs v_a4_hours v_a4_hearers v_a4_minutes x5_1 hz17_5) (gv_X1_hearerOf w_817) hd_X1_hearerOf ⟨rfl, rfl⟩ ⟨by decide, by decide⟩ [6, 7, 8, 9, 10, 11, 12, 13] rfl rfl rfl 1 rfl rfl 6 rfl  hl rfl (Nat.le_of_ble_eq_true rfl) ⟨Nat.zero_le _, Nat.zero_le _⟩ dX3_fits_17 (fun H locs hP hD hS => ?_)
        have hP : va_P D vwCl [(q_t, .inr (3, [.ref q_t_ticksHeard])), (q_t_ticksHeard, .inl (cJ, 36, .inr (.inl v_t_ticksHeard))), (q_a3, .inr (2, [.int v_a3_columns, .int v_a3_rows, .int v_a3_fade, .int v_a3_laws, .int v_a3_nightHours, .int v_a3_nightTimes, .ref q_a3_ground, .ref q_a3_windows, .ref q_a3_lawParts])), (q_a3_ground, .inl (cI, 36, .inl v_a3_ground)), (q_a3_windows, .inl (cI, 6, .inl v_a3_windows)), (q_a3_lawParts, .inl (cI, 18, .inl v_a3_lawParts)), (q_a4, .inr (1, [.ref q_a4_debts, .ref q_a4_criers, .ref q_a4_louds, .ref q_a4_highs, .ref q_a4_hours, .ref q_a4_hearers, .ref q_a4_minutes, .int v_a4_cries, .int v_a4_notes])), (q_a4_debts, .inl (cI, 36, .inl v_a4_debts)), (q_a4_criers, .inl (cI, 20, .inl v_a4_criers)), (q_a4_louds, .inl (cI, 20, .inl v_a4_louds)), (q_a4_highs, .inl (cZ, 20, .inl v_a4_highs)), (q_a4_hours, .inl (cI, 20, .inl v_a4_hours)), (q_a4_hearers, .inl (cI, 12, .inl v_a4_hearers)), (q_a4_minutes, .inl (cI, 12, .inl v_a4_minutes))] H := hP
        have hD : va_D A [(q_t, .inr (3, [.ref q_t_ticksHeard])), (q_t_ticksHeard, .inl (cJ, 36, .inr (.inl v_t_ticksHeard))), (q_a3, .inr (2, [.int v_a3_columns, .int v_a3_rows, .int v_a3_fade, .int v_a3_laws, .int v_a3_nightHours, .int v_a3_nightTimes, .ref q_a3_ground, .ref q_a3_windows, .ref q_a3_lawParts])), (q_a3_ground, .inl (cI, 36, .inl v_a3_ground)), (q_a3_windows, .inl (cI, 6, .inl v_a3_windows)), (q_a3_lawParts, .inl (cI, 18, .inl v_a3_lawParts)), (q_a4, .inr (1, [.ref q_a4_debts, .ref q_a4_criers, .ref q_a4_louds, .ref q_a4_highs, .ref q_a4_hours, .ref q_a4_hearers, .ref q_a4_minutes, .int v_a4_cries, .int v_a4_notes])), (q_a4_debts, .inl (cI, 36, .inl v_a4_debts)), (q_a4_criers, .inl (cI, 20, .inl v_a4_criers)), (q_a4_louds, .inl (cI, 20, .inl v_a4_louds)), (q_a4_highs, .inl (cZ, 20, .inl v_a4_highs)), (q_a4_hours, .inl (cI, 20, .inl v_a4_hours)), (q_a4_hearers, .inl (cI, 12, .inl v_a4_hearers)), (q_a4_minutes, .inl (cI, 12, .inl v_a4_minutes))] := hD
        refine lv_istore (lv' := [(6, .int z17_5), (0, .ref q_t), (1, .int x1), (2, .int x2), (3, .ref q_a3), (4, .ref q_a4), (5, .int x5_1)]) hx hb dX3_fits_20 hl (by decide) rfl (fun ls hl => ?_)
        refine lv_aload hx hb dX3_fits_22 (lv_at hl 5 rfl) ?_
        refine lv_iload hx hb dX3_fits_24 (lv_at hl 6 rfl) ?_
        obtain ⟨z26_6, hz26_6, hf⟩ := bd_some hf
        refine cVi (rest := []) ⟨hx, hb, hml, hown, hts⟩ hE hK hP hD hS hA (c_X1_minuteOf l D cI cJ cZ en q_a4 q_a4_debts q_a4_criers q_a4_louds q_a4_highs q_a4_hours q_a4_hearers q_a4_minutes H.size v_a4_cries v_a4_notes v_a4_debts v_a4_criers v_a4_louds v_a4_highs v_a4_hours v_a4_hearers v_a4_minutes x5_1 hz26_6) (gv_X1_minuteOf w_824) hd_X1_minuteOf ⟨rfl, rfl⟩ ⟨by decide, by decide⟩ [6, 7, 8, 9, 10, 11, 12, 13] rfl rfl rfl 1 rfl rfl 6 rfl  hl rfl (Nat.le_of_ble_eq_true rfl) ⟨Nat.zero_le _, Nat.zero_le _⟩ dX3_fits_26 (fun H locs hP hD hS => ?_)
        have hP : va_P D vwCl [(q_t, .inr (3, [.ref q_t_ticksHeard])), (q_t_ticksHeard, .inl (cJ, 36, .inr (.inl v_t_ticksHeard))), (q_a3, .inr (2, [.int v_a3_columns, .int v_a3_rows, .int v_a3_fade, .int v_a3_laws, .int v_a3_nightHours, .int v_a3_nightTimes, .ref q_a3_ground, .ref q_a3_windows, .ref q_a3_lawParts])), (q_a3_ground, .inl (cI, 36, .inl v_a3_ground)), (q_a3_windows, .inl (cI, 6, .inl v_a3_windows)), (q_a3_lawParts, .inl (cI, 18, .inl v_a3_lawParts)), (q_a4, .inr (1, [.ref q_a4_debts, .ref q_a4_criers, .ref q_a4_louds, .ref q_a4_highs, .ref q_a4_hours, .ref q_a4_hearers, .ref q_a4_minutes, .int v_a4_cries, .int v_a4_notes])), (q_a4_debts, .inl (cI, 36, .inl v_a4_debts)), (q_a4_criers, .inl (cI, 20, .inl v_a4_criers)), (q_a4_louds, .inl (cI, 20, .inl v_a4_louds)), (q_a4_highs, .inl (cZ, 20, .inl v_a4_highs)), (q_a4_hours, .inl (cI, 20, .inl v_a4_hours)), (q_a4_hearers, .inl (cI, 12, .inl v_a4_hearers)), (q_a4_minutes, .inl (cI, 12, .inl v_a4_minutes))] H := hP
        have hD : va_D A [(q_t, .inr (3, [.ref q_t_ticksHeard])), (q_t_ticksHeard, .inl (cJ, 36, .inr (.inl v_t_ticksHeard))), (q_a3, .inr (2, [.int v_a3_columns, .int v_a3_rows, .int v_a3_fade, .int v_a3_laws, .int v_a3_nightHours, .int v_a3_nightTimes, .ref q_a3_ground, .ref q_a3_windows, .ref q_a3_lawParts])), (q_a3_ground, .inl (cI, 36, .inl v_a3_ground)), (q_a3_windows, .inl (cI, 6, .inl v_a3_windows)), (q_a3_lawParts, .inl (cI, 18, .inl v_a3_lawParts)), (q_a4, .inr (1, [.ref q_a4_debts, .ref q_a4_criers, .ref q_a4_louds, .ref q_a4_highs, .ref q_a4_hours, .ref q_a4_hearers, .ref q_a4_minutes, .int v_a4_cries, .int v_a4_notes])), (q_a4_debts, .inl (cI, 36, .inl v_a4_debts)), (q_a4_criers, .inl (cI, 20, .inl v_a4_criers)), (q_a4_louds, .inl (cI, 20, .inl v_a4_louds)), (q_a4_highs, .inl (cZ, 20, .inl v_a4_highs)), (q_a4_hours, .inl (cI, 20, .inl v_a4_hours)), (q_a4_hearers, .inl (cI, 12, .inl v_a4_hearers)), (q_a4_minutes, .inl (cI, 12, .inl v_a4_minutes))] := hD
        refine lv_iload_n hx hb dX3_fits_29 rfl (lv_at hl 3 rfl) ?_
        refine lv_isub hx hb dX3_fits_30 ?_
        refine lv_istore (lv' := [(7, .int (z26_6 - x2)), (6, .int z17_5), (0, .ref q_t), (1, .int x1), (2, .int x2), (3, .ref q_a3), (4, .ref q_a4), (5, .int x5_1)]) hx hb dX3_fits_31 hl (by decide) rfl (fun ls hl => ?_)
        refine lv_iload hx hb dX3_fits_33 (lv_at hl 1 rfl) ?_
        refine lv_iload_n hx hb dX3_fits_35 rfl (lv_at hl 3 rfl) ?_
        refine lv_icmp_eq (tgt := 54) hx hb dX3_fits_36 (by decide) (fun h_7 => ?_) (fun h_7 => ?_)
        · have hf := (if_pos h_7).symm.trans hf
          refine lv_iconst (v := 0) hx hb dX3_fits_54 (by decide) ?_
          cases hf
          exact rt_z hx hb hr hlocks hK hP hS (Or.inl rfl) dX3_fits_55
        · have hf := (if_neg h_7).symm.trans hf
          refine lv_aload_n hx hb dX3_fits_39 rfl (lv_at hl 2 rfl) ?_
          refine lv_aload_n hx hb dX3_fits_40 rfl (lv_at hl 5 rfl) ?_
          refine lv_iload hx hb dX3_fits_41 (lv_at hl 1 rfl) ?_
          obtain ⟨z43_8, hz43_8, hf⟩ := bd_some hf
          refine cVi (rest := [.ref q_t]) ⟨hx, hb, hml, hown, hts⟩ hE hK hP hD hS hA (c_X2_windowOf l D cI cJ cZ en q_a3 q_a3_ground q_a3_windows q_a3_lawParts H.size v_a3_columns v_a3_rows v_a3_fade v_a3_laws v_a3_nightHours v_a3_nightTimes v_a3_ground v_a3_windows v_a3_lawParts z17_5 hz43_8) (gv_X2_windowOf w_828) hd_X2_windowOf ⟨rfl, rfl⟩ ⟨by decide, by decide⟩ [2, 3, 4, 5] rfl rfl rfl 2 rfl rfl 2 rfl  hl rfl (Nat.le_of_ble_eq_true rfl) ⟨Nat.zero_le _, Nat.zero_le _⟩ dX3_fits_43 (fun H locs hP hD hS => ?_)
          have hP : va_P D vwCl [(q_t, .inr (3, [.ref q_t_ticksHeard])), (q_t_ticksHeard, .inl (cJ, 36, .inr (.inl v_t_ticksHeard))), (q_a3, .inr (2, [.int v_a3_columns, .int v_a3_rows, .int v_a3_fade, .int v_a3_laws, .int v_a3_nightHours, .int v_a3_nightTimes, .ref q_a3_ground, .ref q_a3_windows, .ref q_a3_lawParts])), (q_a3_ground, .inl (cI, 36, .inl v_a3_ground)), (q_a3_windows, .inl (cI, 6, .inl v_a3_windows)), (q_a3_lawParts, .inl (cI, 18, .inl v_a3_lawParts)), (q_a4, .inr (1, [.ref q_a4_debts, .ref q_a4_criers, .ref q_a4_louds, .ref q_a4_highs, .ref q_a4_hours, .ref q_a4_hearers, .ref q_a4_minutes, .int v_a4_cries, .int v_a4_notes])), (q_a4_debts, .inl (cI, 36, .inl v_a4_debts)), (q_a4_criers, .inl (cI, 20, .inl v_a4_criers)), (q_a4_louds, .inl (cI, 20, .inl v_a4_louds)), (q_a4_highs, .inl (cZ, 20, .inl v_a4_highs)), (q_a4_hours, .inl (cI, 20, .inl v_a4_hours)), (q_a4_hearers, .inl (cI, 12, .inl v_a4_hearers)), (q_a4_minutes, .inl (cI, 12, .inl v_a4_minutes))] H := hP
          have hD : va_D A [(q_t, .inr (3, [.ref q_t_ticksHeard])), (q_t_ticksHeard, .inl (cJ, 36, .inr (.inl v_t_ticksHeard))), (q_a3, .inr (2, [.int v_a3_columns, .int v_a3_rows, .int v_a3_fade, .int v_a3_laws, .int v_a3_nightHours, .int v_a3_nightTimes, .ref q_a3_ground, .ref q_a3_windows, .ref q_a3_lawParts])), (q_a3_ground, .inl (cI, 36, .inl v_a3_ground)), (q_a3_windows, .inl (cI, 6, .inl v_a3_windows)), (q_a3_lawParts, .inl (cI, 18, .inl v_a3_lawParts)), (q_a4, .inr (1, [.ref q_a4_debts, .ref q_a4_criers, .ref q_a4_louds, .ref q_a4_highs, .ref q_a4_hours, .ref q_a4_hearers, .ref q_a4_minutes, .int v_a4_cries, .int v_a4_notes])), (q_a4_debts, .inl (cI, 36, .inl v_a4_debts)), (q_a4_criers, .inl (cI, 20, .inl v_a4_criers)), (q_a4_louds, .inl (cI, 20, .inl v_a4_louds)), (q_a4_highs, .inl (cZ, 20, .inl v_a4_highs)), (q_a4_hours, .inl (cI, 20, .inl v_a4_hours)), (q_a4_hearers, .inl (cI, 12, .inl v_a4_hearers)), (q_a4_minutes, .inl (cI, 12, .inl v_a4_minutes))] := hD
          refine lv_iload hx hb dX3_fits_46 (lv_at hl 0 rfl) ?_
          obtain ⟨z48_9, hz48_9, hf⟩ := bd_some hf
          refine cVi (rest := []) ⟨hx, hb, hml, hown, hts⟩ hE hK hP hD hS hA (c_X3_isHeard l D cI cJ cZ en q_t q_t_ticksHeard H.size v_t_ticksHeard z43_8 (z26_6 - x2) hz48_9) (gv_X3_isHeard w_829) hd_X3_isHeard ⟨rfl, rfl⟩ ⟨by decide, by decide⟩ [0, 1] rfl rfl rfl 3 rfl rfl 0 rfl  hl rfl (Nat.le_of_ble_eq_true rfl) ⟨Nat.zero_le _, Nat.zero_le _⟩ dX3_fits_48 (fun H locs hP hD hS => ?_)
          have hP : va_P D vwCl [(q_t, .inr (3, [.ref q_t_ticksHeard])), (q_t_ticksHeard, .inl (cJ, 36, .inr (.inl v_t_ticksHeard))), (q_a3, .inr (2, [.int v_a3_columns, .int v_a3_rows, .int v_a3_fade, .int v_a3_laws, .int v_a3_nightHours, .int v_a3_nightTimes, .ref q_a3_ground, .ref q_a3_windows, .ref q_a3_lawParts])), (q_a3_ground, .inl (cI, 36, .inl v_a3_ground)), (q_a3_windows, .inl (cI, 6, .inl v_a3_windows)), (q_a3_lawParts, .inl (cI, 18, .inl v_a3_lawParts)), (q_a4, .inr (1, [.ref q_a4_debts, .ref q_a4_criers, .ref q_a4_louds, .ref q_a4_highs, .ref q_a4_hours, .ref q_a4_hearers, .ref q_a4_minutes, .int v_a4_cries, .int v_a4_notes])), (q_a4_debts, .inl (cI, 36, .inl v_a4_debts)), (q_a4_criers, .inl (cI, 20, .inl v_a4_criers)), (q_a4_louds, .inl (cI, 20, .inl v_a4_louds)), (q_a4_highs, .inl (cZ, 20, .inl v_a4_highs)), (q_a4_hours, .inl (cI, 20, .inl v_a4_hours)), (q_a4_hearers, .inl (cI, 12, .inl v_a4_hearers)), (q_a4_minutes, .inl (cI, 12, .inl v_a4_minutes))] H := hP
          have hD : va_D A [(q_t, .inr (3, [.ref q_t_ticksHeard])), (q_t_ticksHeard, .inl (cJ, 36, .inr (.inl v_t_ticksHeard))), (q_a3, .inr (2, [.int v_a3_columns, .int v_a3_rows, .int v_a3_fade, .int v_a3_laws, .int v_a3_nightHours, .int v_a3_nightTimes, .ref q_a3_ground, .ref q_a3_windows, .ref q_a3_lawParts])), (q_a3_ground, .inl (cI, 36, .inl v_a3_ground)), (q_a3_windows, .inl (cI, 6, .inl v_a3_windows)), (q_a3_lawParts, .inl (cI, 18, .inl v_a3_lawParts)), (q_a4, .inr (1, [.ref q_a4_debts, .ref q_a4_criers, .ref q_a4_louds, .ref q_a4_highs, .ref q_a4_hours, .ref q_a4_hearers, .ref q_a4_minutes, .int v_a4_cries, .int v_a4_notes])), (q_a4_debts, .inl (cI, 36, .inl v_a4_debts)), (q_a4_criers, .inl (cI, 20, .inl v_a4_criers)), (q_a4_louds, .inl (cI, 20, .inl v_a4_louds)), (q_a4_highs, .inl (cZ, 20, .inl v_a4_highs)), (q_a4_hours, .inl (cI, 20, .inl v_a4_hours)), (q_a4_hearers, .inl (cI, 12, .inl v_a4_hearers)), (q_a4_minutes, .inl (cI, 12, .inl v_a4_minutes))] := hD
          refine lv_if_ne (tgt := 56) hx hb dX3_fits_51 (by decide) (fun h_10 => ?_) (fun h_10 => ?_)
          · have hf := (if_neg h_10).symm.trans hf
            refine lv_iinc (v := (x5_1 + 1)) (lv' := [(5, .int (x5_1 + 1)), (7, .int (z26_6 - x2)), (6, .int z17_5), (0, .ref q_t), (1, .int x1), (2, .int x2), (3, .ref q_a3), (4, .ref q_a4)]) hx hb dX3_fits_56 hl (k := 7) rfl rfl (by decide) rfl (fun ls hl => ?_)
            refine lv_goto (tgt := 3) hx hb dX3_fits_59 (by decide) ?_
            exact ih_3 (x5_1 + 1) hf _ _ _ hP hD hS (lv_sub hl [3, 4, 5, 6, 7, 0] rfl)
          · have hf := (if_pos h_10).symm.trans hf
            refine lv_iconst (v := 0) hx hb dX3_fits_54 (by decide) ?_
            cases hf
            exact rt_z hx hb hr hlocks hK hP hS (Or.inl rfl) dX3_fits_55
  exact L3_2 FU 0 hf _ _ _ hP hD hS (lv_sub hl [1, 2, 3, 4, 5, 0] rfl)

def f_X3_minutesFor_J28 (rc6 : (Int32) → (Int32) → Option (Int32)) (x4 : Int32) (x5 : Int32) : Option (Int32) :=
  (rc6 x4 (x5 + 1))
def f_X3_minutesFor_L6 (v_t_ticksHeard : Nat → Int64) (v_a2_windows : Nat → Int32) (v_a3_notes : Int32) (v_a3_hearers : Nat → Int32) (v_a3_minutes : Nat → Int32) (x1 : Int32) : Nat → (Int32) → (Int32) → Option (Int32)
  | 0, _, _ => none
  | n + 1, x4, x5 => (if 100 ≤ x5 then (some x4) else (f_X3_fits v_t_ticksHeard v_a2_windows v_a3_notes v_a3_hearers v_a3_minutes x1 x5).bind (fun z19 => (if z19 = 0 then (f_X3_minutesFor_J28 (f_X3_minutesFor_L6 v_t_ticksHeard v_a2_windows v_a3_notes v_a3_hearers v_a3_minutes x1 n) x4 x5) else (f_X3_minutesFor_J28 (f_X3_minutesFor_L6 v_t_ticksHeard v_a2_windows v_a3_notes v_a3_hearers v_a3_minutes x1 n) (x4 + 1) x5))))
def f_X3_minutesFor (v_t_ticksHeard : Nat → Int64) (v_a2_windows : Nat → Int32) (v_a3_notes : Int32) (v_a3_hearers : Nat → Int32) (v_a3_minutes : Nat → Int32) (x1 : Int32) : Option (Int32) :=
  (f_X3_minutesFor_L6 v_t_ticksHeard v_a2_windows v_a3_notes v_a3_hearers v_a3_minutes x1 FU 0 0)
theorem gv_X3_minutesFor {own : String} {idx : Nat} (h : Cond.methodLink own idx yX3_minutesFor ∈ lw_g) : GoodIn lw_g (wsV own idx RX3 yX3_minutesFor (Cond.code yX3_minutesFor cX3_minutesFor 6 (some .int) :: lw_g)) := gV h w_810 w_811 w_66 w_812
theorem hd_X3_minutesFor : yX3_minutesFor.cls = RX3 ∧ yX3_minutesFor.cls ≠ "java/lang/invoke/MethodHandle" ∧ yX3_minutesFor.cls ≠ "java/lang/invoke/VarHandle" ∧ (parseMethodDescriptor yX3_minutesFor.desc).map (fun d => d.parameters.length) = some 3 := by decide +kernel
set_option maxHeartbeats 4000000 in
set_option maxRecDepth 100000 in
theorem c_X3_minutesFor (l : Launch) (D : va_G) (cI cJ cZ : ClassId) (en : EnT) (q_t q_t_ticksHeard q_a2 q_a2_ground q_a2_windows q_a2_lawParts q_a3 q_a3_debts q_a3_criers q_a3_louds q_a3_highs q_a3_hours q_a3_hearers q_a3_minutes : Nat) (sz : Nat) (v_t_ticksHeard : Nat → Int64) (v_a2_columns : Int32) (v_a2_rows : Int32) (v_a2_fade : Int32) (v_a2_laws : Int32) (v_a2_nightHours : Int32) (v_a2_nightTimes : Int32) (v_a2_ground : Nat → Int32) (v_a2_windows : Nat → Int32) (v_a2_lawParts : Nat → Int32) (v_a3_cries : Int32) (v_a3_notes : Int32) (v_a3_debts : Nat → Int32) (v_a3_criers : Nat → Int32) (v_a3_louds : Nat → Int32) (v_a3_highs : Nat → Int32) (v_a3_hours : Nat → Int32) (v_a3_hearers : Nat → Int32) (v_a3_minutes : Nat → Int32) (x1 : Int32) {z : Int32} (hf : f_X3_minutesFor v_t_ticksHeard v_a2_windows v_a3_notes v_a3_hearers v_a3_minutes x1 = some z) : Met l yX3_minutesFor (Cond.code yX3_minutesFor cX3_minutesFor 6 (some .int) :: lw_g) ({ frames := 3, cells := 0, slots := 0, locals := 68 } : Room) (PC D cI cJ cZ en ([.ref q_t, .int x1, .ref q_a2, .ref q_a3] : List Value) [(q_t, .inr (3, [.ref q_t_ticksHeard])), (q_t_ticksHeard, .inl (cJ, 36, .inr (.inl v_t_ticksHeard))), (q_a2, .inr (2, [.int v_a2_columns, .int v_a2_rows, .int v_a2_fade, .int v_a2_laws, .int v_a2_nightHours, .int v_a2_nightTimes, .ref q_a2_ground, .ref q_a2_windows, .ref q_a2_lawParts])), (q_a2_ground, .inl (cI, 36, .inl v_a2_ground)), (q_a2_windows, .inl (cI, 6, .inl v_a2_windows)), (q_a2_lawParts, .inl (cI, 18, .inl v_a2_lawParts)), (q_a3, .inr (1, [.ref q_a3_debts, .ref q_a3_criers, .ref q_a3_louds, .ref q_a3_highs, .ref q_a3_hours, .ref q_a3_hearers, .ref q_a3_minutes, .int v_a3_cries, .int v_a3_notes])), (q_a3_debts, .inl (cI, 36, .inl v_a3_debts)), (q_a3_criers, .inl (cI, 20, .inl v_a3_criers)), (q_a3_louds, .inl (cI, 20, .inl v_a3_louds)), (q_a3_highs, .inl (cZ, 20, .inl v_a3_highs)), (q_a3_hours, .inl (cI, 20, .inl v_a3_hours)), (q_a3_hearers, .inl (cI, 12, .inl v_a3_hearers)), (q_a3_minutes, .inl (cI, 12, .inl v_a3_minutes))] sz) (QI D cI cJ cZ [(q_t, .inr (3, [.ref q_t_ticksHeard])), (q_t_ticksHeard, .inl (cJ, 36, .inr (.inl v_t_ticksHeard))), (q_a2, .inr (2, [.int v_a2_columns, .int v_a2_rows, .int v_a2_fade, .int v_a2_laws, .int v_a2_nightHours, .int v_a2_nightTimes, .ref q_a2_ground, .ref q_a2_windows, .ref q_a2_lawParts])), (q_a2_ground, .inl (cI, 36, .inl v_a2_ground)), (q_a2_windows, .inl (cI, 6, .inl v_a2_windows)), (q_a2_lawParts, .inl (cI, 18, .inl v_a2_lawParts)), (q_a3, .inr (1, [.ref q_a3_debts, .ref q_a3_criers, .ref q_a3_louds, .ref q_a3_highs, .ref q_a3_hours, .ref q_a3_hearers, .ref q_a3_minutes, .int v_a3_cries, .int v_a3_notes])), (q_a3_debts, .inl (cI, 36, .inl v_a3_debts)), (q_a3_criers, .inl (cI, 20, .inl v_a3_criers)), (q_a3_louds, .inl (cI, 20, .inl v_a3_louds)), (q_a3_highs, .inl (cZ, 20, .inl v_a3_highs)), (q_a3_hours, .inl (cI, 20, .inl v_a3_hours)), (q_a3_hearers, .inl (cI, 12, .inl v_a3_hearers)), (q_a3_minutes, .inl (cI, 12, .inl v_a3_minutes))] z (va_A [(q_t, .inr (3, [.ref q_t_ticksHeard])), (q_t_ticksHeard, .inl (cJ, 36, .inr (.inl v_t_ticksHeard))), (q_a2, .inr (2, [.int v_a2_columns, .int v_a2_rows, .int v_a2_fade, .int v_a2_laws, .int v_a2_nightHours, .int v_a2_nightTimes, .ref q_a2_ground, .ref q_a2_windows, .ref q_a2_lawParts])), (q_a2_ground, .inl (cI, 36, .inl v_a2_ground)), (q_a2_windows, .inl (cI, 6, .inl v_a2_windows)), (q_a2_lawParts, .inl (cI, 18, .inl v_a2_lawParts)), (q_a3, .inr (1, [.ref q_a3_debts, .ref q_a3_criers, .ref q_a3_louds, .ref q_a3_highs, .ref q_a3_hours, .ref q_a3_hearers, .ref q_a3_minutes, .int v_a3_cries, .int v_a3_notes])), (q_a3_debts, .inl (cI, 36, .inl v_a3_debts)), (q_a3_criers, .inl (cI, 20, .inl v_a3_criers)), (q_a3_louds, .inl (cI, 20, .inl v_a3_louds)), (q_a3_highs, .inl (cZ, 20, .inl v_a3_highs)), (q_a3_hours, .inl (cI, 20, .inl v_a3_hours)), (q_a3_hearers, .inl (cI, 12, .inl v_a3_hearers)), (q_a3_minutes, .inl (cI, 12, .inl v_a3_minutes))] sz)) 0 0 (va_A [(q_t, .inr (3, [.ref q_t_ticksHeard])), (q_t_ticksHeard, .inl (cJ, 36, .inr (.inl v_t_ticksHeard))), (q_a2, .inr (2, [.int v_a2_columns, .int v_a2_rows, .int v_a2_fade, .int v_a2_laws, .int v_a2_nightHours, .int v_a2_nightTimes, .ref q_a2_ground, .ref q_a2_windows, .ref q_a2_lawParts])), (q_a2_ground, .inl (cI, 36, .inl v_a2_ground)), (q_a2_windows, .inl (cI, 6, .inl v_a2_windows)), (q_a2_lawParts, .inl (cI, 18, .inl v_a2_lawParts)), (q_a3, .inr (1, [.ref q_a3_debts, .ref q_a3_criers, .ref q_a3_louds, .ref q_a3_highs, .ref q_a3_hours, .ref q_a3_hearers, .ref q_a3_minutes, .int v_a3_cries, .int v_a3_notes])), (q_a3_debts, .inl (cI, 36, .inl v_a3_debts)), (q_a3_criers, .inl (cI, 20, .inl v_a3_criers)), (q_a3_louds, .inl (cI, 20, .inl v_a3_louds)), (q_a3_highs, .inl (cZ, 20, .inl v_a3_highs)), (q_a3_hours, .inl (cI, 20, .inl v_a3_hours)), (q_a3_hearers, .inl (cI, 12, .inl v_a3_hearers)), (q_a3_minutes, .inl (cI, 12, .inl v_a3_minutes))] sz) := by
  refine mk_met (Qc := fun A => (QI D cI cJ cZ [(q_t, .inr (3, [.ref q_t_ticksHeard])), (q_t_ticksHeard, .inl (cJ, 36, .inr (.inl v_t_ticksHeard))), (q_a2, .inr (2, [.int v_a2_columns, .int v_a2_rows, .int v_a2_fade, .int v_a2_laws, .int v_a2_nightHours, .int v_a2_nightTimes, .ref q_a2_ground, .ref q_a2_windows, .ref q_a2_lawParts])), (q_a2_ground, .inl (cI, 36, .inl v_a2_ground)), (q_a2_windows, .inl (cI, 6, .inl v_a2_windows)), (q_a2_lawParts, .inl (cI, 18, .inl v_a2_lawParts)), (q_a3, .inr (1, [.ref q_a3_debts, .ref q_a3_criers, .ref q_a3_louds, .ref q_a3_highs, .ref q_a3_hours, .ref q_a3_hearers, .ref q_a3_minutes, .int v_a3_cries, .int v_a3_notes])), (q_a3_debts, .inl (cI, 36, .inl v_a3_debts)), (q_a3_criers, .inl (cI, 20, .inl v_a3_criers)), (q_a3_louds, .inl (cI, 20, .inl v_a3_louds)), (q_a3_highs, .inl (cZ, 20, .inl v_a3_highs)), (q_a3_hours, .inl (cI, 20, .inl v_a3_hours)), (q_a3_hearers, .inl (cI, 12, .inl v_a3_hearers)), (q_a3_minutes, .inl (cI, 12, .inl v_a3_minutes))] z A)) RX3 (by decide) rfl (Nat.le_of_ble_eq_true rfl) ?_
  intro p e s m below meth c ls A hx hb hr hml hown hts hlocks hA hK hE hl hD H locs hP hS
  have hl : lv_has ls 6 [(0, .ref q_t), (1, .int x1), (2, .ref q_a2), (3, .ref q_a3)] := hl
  unfold f_X3_minutesFor at hf
  refine lv_iconst (v := 0) hx hb dX3_minutesFor_0 (by decide) ?_
  refine lv_istore (lv' := [(4, .int 0), (0, .ref q_t), (1, .int x1), (2, .ref q_a2), (3, .ref q_a3)]) hx hb dX3_minutesFor_1 hl (by decide) rfl (fun ls hl => ?_)
  refine lv_iconst (v := 0) hx hb dX3_minutesFor_3 (by decide) ?_
  refine lv_istore (lv' := [(5, .int 0), (4, .int 0), (0, .ref q_t), (1, .int x1), (2, .ref q_a2), (3, .ref q_a3)]) hx hb dX3_minutesFor_4 hl (by decide) rfl (fun ls hl => ?_)
  have L6_3 : ∀ (n : Nat) (x4_1 : Int32) (x5_2 : Int32), f_X3_minutesFor_L6 v_t_ticksHeard v_a2_windows v_a3_notes v_a3_hearers v_a3_minutes x1 n x4_1 x5_2 = some z → ∀ (H : Heap) (locs : List Loc) (ls : Array Slot), va_P D vwCl [(q_t, .inr (3, [.ref q_t_ticksHeard])), (q_t_ticksHeard, .inl (cJ, 36, .inr (.inl v_t_ticksHeard))), (q_a2, .inr (2, [.int v_a2_columns, .int v_a2_rows, .int v_a2_fade, .int v_a2_laws, .int v_a2_nightHours, .int v_a2_nightTimes, .ref q_a2_ground, .ref q_a2_windows, .ref q_a2_lawParts])), (q_a2_ground, .inl (cI, 36, .inl v_a2_ground)), (q_a2_windows, .inl (cI, 6, .inl v_a2_windows)), (q_a2_lawParts, .inl (cI, 18, .inl v_a2_lawParts)), (q_a3, .inr (1, [.ref q_a3_debts, .ref q_a3_criers, .ref q_a3_louds, .ref q_a3_highs, .ref q_a3_hours, .ref q_a3_hearers, .ref q_a3_minutes, .int v_a3_cries, .int v_a3_notes])), (q_a3_debts, .inl (cI, 36, .inl v_a3_debts)), (q_a3_criers, .inl (cI, 20, .inl v_a3_criers)), (q_a3_louds, .inl (cI, 20, .inl v_a3_louds)), (q_a3_highs, .inl (cZ, 20, .inl v_a3_highs)), (q_a3_hours, .inl (cI, 20, .inl v_a3_hours)), (q_a3_hearers, .inl (cI, 12, .inl v_a3_hearers)), (q_a3_minutes, .inl (cI, 12, .inl v_a3_minutes))] H → va_D A [(q_t, .inr (3, [.ref q_t_ticksHeard])), (q_t_ticksHeard, .inl (cJ, 36, .inr (.inl v_t_ticksHeard))), (q_a2, .inr (2, [.int v_a2_columns, .int v_a2_rows, .int v_a2_fade, .int v_a2_laws, .int v_a2_nightHours, .int v_a2_nightTimes, .ref q_a2_ground, .ref q_a2_windows, .ref q_a2_lawParts])), (q_a2_ground, .inl (cI, 36, .inl v_a2_ground)), (q_a2_windows, .inl (cI, 6, .inl v_a2_windows)), (q_a2_lawParts, .inl (cI, 18, .inl v_a2_lawParts)), (q_a3, .inr (1, [.ref q_a3_debts, .ref q_a3_criers, .ref q_a3_louds, .ref q_a3_highs, .ref q_a3_hours, .ref q_a3_hearers, .ref q_a3_minutes, .int v_a3_cries, .int v_a3_notes])), (q_a3_debts, .inl (cI, 36, .inl v_a3_debts)), (q_a3_criers, .inl (cI, 20, .inl v_a3_criers)), (q_a3_louds, .inl (cI, 20, .inl v_a3_louds)), (q_a3_highs, .inl (cZ, 20, .inl v_a3_highs)), (q_a3_hours, .inl (cI, 20, .inl v_a3_hours)), (q_a3_hearers, .inl (cI, 12, .inl v_a3_hearers)), (q_a3_minutes, .inl (cI, 12, .inl v_a3_minutes))] → va_S A s.heap H locs → lv_has ls 6 [(0, .ref q_t), (1, .int x1), (2, .ref q_a2), (3, .ref q_a3), (4, .int x4_1), (5, .int x5_2)] → W p l e ({ frames := 3, cells := 0, slots := 0, locals := 68 } : Room) s m ([.ref q_t, .int x1, .ref q_a2, .ref q_a3] : List Value).toArray below meth c H locs 0 0 (MQ below (QI D cI cJ cZ [(q_t, .inr (3, [.ref q_t_ticksHeard])), (q_t_ticksHeard, .inl (cJ, 36, .inr (.inl v_t_ticksHeard))), (q_a2, .inr (2, [.int v_a2_columns, .int v_a2_rows, .int v_a2_fade, .int v_a2_laws, .int v_a2_nightHours, .int v_a2_nightTimes, .ref q_a2_ground, .ref q_a2_windows, .ref q_a2_lawParts])), (q_a2_ground, .inl (cI, 36, .inl v_a2_ground)), (q_a2_windows, .inl (cI, 6, .inl v_a2_windows)), (q_a2_lawParts, .inl (cI, 18, .inl v_a2_lawParts)), (q_a3, .inr (1, [.ref q_a3_debts, .ref q_a3_criers, .ref q_a3_louds, .ref q_a3_highs, .ref q_a3_hours, .ref q_a3_hearers, .ref q_a3_minutes, .int v_a3_cries, .int v_a3_notes])), (q_a3_debts, .inl (cI, 36, .inl v_a3_debts)), (q_a3_criers, .inl (cI, 20, .inl v_a3_criers)), (q_a3_louds, .inl (cI, 20, .inl v_a3_louds)), (q_a3_highs, .inl (cZ, 20, .inl v_a3_highs)), (q_a3_hours, .inl (cI, 20, .inl v_a3_hours)), (q_a3_hearers, .inl (cI, 12, .inl v_a3_hearers)), (q_a3_minutes, .inl (cI, 12, .inl v_a3_minutes))] z A) ([.ref q_t, .int x1, .ref q_a2, .ref q_a3] : List Value).toArray s 0 0 A) (F0 m 6 ls []) := by
    intro n
    induction n with
    | zero =>
      intro x4_1 x5_2 hf
      cases hf
    | succ n ih_4 =>
      intro x4_1 x5_2 hf H locs ls hP hD hS hl
      rw [f_X3_minutesFor_L6] at hf
      refine lv_iload hx hb dX3_minutesFor_6 (lv_at hl 5 rfl) ?_
      refine lv_bipush (v := 100) hx hb dX3_minutesFor_8 (by decide) ?_
      refine lv_icmp_ge (tgt := 34) hx hb dX3_minutesFor_10 (by decide) (fun h_5 => ?_) (fun h_5 => ?_)
      · have hf := (if_pos h_5).symm.trans hf
        refine lv_iload hx hb dX3_minutesFor_34 (lv_at hl 4 rfl) ?_
        cases hf
        exact rt_i hx hb hr hlocks hK hP hS dX3_minutesFor_36
      · have hf := (if_neg h_5).symm.trans hf
        refine lv_aload_n hx hb dX3_minutesFor_13 rfl (lv_at hl 0 rfl) ?_
        refine lv_iload_n hx hb dX3_minutesFor_14 rfl (lv_at hl 1 rfl) ?_
        refine lv_iload hx hb dX3_minutesFor_15 (lv_at hl 5 rfl) ?_
        refine lv_aload_n hx hb dX3_minutesFor_17 rfl (lv_at hl 2 rfl) ?_
        refine lv_aload_n hx hb dX3_minutesFor_18 rfl (lv_at hl 3 rfl) ?_
        obtain ⟨z19_6, hz19_6, hf⟩ := bd_some hf
        refine cVi (rest := []) ⟨hx, hb, hml, hown, hts⟩ hE hK hP hD hS hA (c_X3_fits l D cI cJ cZ en q_t q_t_ticksHeard q_a2 q_a2_ground q_a2_windows q_a2_lawParts q_a3 q_a3_debts q_a3_criers q_a3_louds q_a3_highs q_a3_hours q_a3_hearers q_a3_minutes H.size v_t_ticksHeard v_a2_columns v_a2_rows v_a2_fade v_a2_laws v_a2_nightHours v_a2_nightTimes v_a2_ground v_a2_windows v_a2_lawParts v_a3_cries v_a3_notes v_a3_debts v_a3_criers v_a3_louds v_a3_highs v_a3_hours v_a3_hearers v_a3_minutes x1 x5_2 hz19_6) (gv_X3_fits w_813) hd_X3_fits ⟨rfl, rfl⟩ ⟨by decide, by decide⟩ [0, 1, 2, 3, 4, 5, 6, 7, 8, 9, 10, 11, 12, 13] rfl rfl rfl 3 rfl rfl 0 rfl  hl rfl (Nat.le_of_ble_eq_true rfl) ⟨Nat.zero_le _, Nat.zero_le _⟩ dX3_minutesFor_19 (fun H locs hP hD hS => ?_)
        have hP : va_P D vwCl [(q_t, .inr (3, [.ref q_t_ticksHeard])), (q_t_ticksHeard, .inl (cJ, 36, .inr (.inl v_t_ticksHeard))), (q_a2, .inr (2, [.int v_a2_columns, .int v_a2_rows, .int v_a2_fade, .int v_a2_laws, .int v_a2_nightHours, .int v_a2_nightTimes, .ref q_a2_ground, .ref q_a2_windows, .ref q_a2_lawParts])), (q_a2_ground, .inl (cI, 36, .inl v_a2_ground)), (q_a2_windows, .inl (cI, 6, .inl v_a2_windows)), (q_a2_lawParts, .inl (cI, 18, .inl v_a2_lawParts)), (q_a3, .inr (1, [.ref q_a3_debts, .ref q_a3_criers, .ref q_a3_louds, .ref q_a3_highs, .ref q_a3_hours, .ref q_a3_hearers, .ref q_a3_minutes, .int v_a3_cries, .int v_a3_notes])), (q_a3_debts, .inl (cI, 36, .inl v_a3_debts)), (q_a3_criers, .inl (cI, 20, .inl v_a3_criers)), (q_a3_louds, .inl (cI, 20, .inl v_a3_louds)), (q_a3_highs, .inl (cZ, 20, .inl v_a3_highs)), (q_a3_hours, .inl (cI, 20, .inl v_a3_hours)), (q_a3_hearers, .inl (cI, 12, .inl v_a3_hearers)), (q_a3_minutes, .inl (cI, 12, .inl v_a3_minutes))] H := hP
        have hD : va_D A [(q_t, .inr (3, [.ref q_t_ticksHeard])), (q_t_ticksHeard, .inl (cJ, 36, .inr (.inl v_t_ticksHeard))), (q_a2, .inr (2, [.int v_a2_columns, .int v_a2_rows, .int v_a2_fade, .int v_a2_laws, .int v_a2_nightHours, .int v_a2_nightTimes, .ref q_a2_ground, .ref q_a2_windows, .ref q_a2_lawParts])), (q_a2_ground, .inl (cI, 36, .inl v_a2_ground)), (q_a2_windows, .inl (cI, 6, .inl v_a2_windows)), (q_a2_lawParts, .inl (cI, 18, .inl v_a2_lawParts)), (q_a3, .inr (1, [.ref q_a3_debts, .ref q_a3_criers, .ref q_a3_louds, .ref q_a3_highs, .ref q_a3_hours, .ref q_a3_hearers, .ref q_a3_minutes, .int v_a3_cries, .int v_a3_notes])), (q_a3_debts, .inl (cI, 36, .inl v_a3_debts)), (q_a3_criers, .inl (cI, 20, .inl v_a3_criers)), (q_a3_louds, .inl (cI, 20, .inl v_a3_louds)), (q_a3_highs, .inl (cZ, 20, .inl v_a3_highs)), (q_a3_hours, .inl (cI, 20, .inl v_a3_hours)), (q_a3_hearers, .inl (cI, 12, .inl v_a3_hearers)), (q_a3_minutes, .inl (cI, 12, .inl v_a3_minutes))] := hD
        have J28_8 : ∀ (x4_7 : Int32), f_X3_minutesFor_J28 (f_X3_minutesFor_L6 v_t_ticksHeard v_a2_windows v_a3_notes v_a3_hearers v_a3_minutes x1 n) x4_7 x5_2 = some z → ∀ (H : Heap) (locs : List Loc) (ls : Array Slot), va_P D vwCl [(q_t, .inr (3, [.ref q_t_ticksHeard])), (q_t_ticksHeard, .inl (cJ, 36, .inr (.inl v_t_ticksHeard))), (q_a2, .inr (2, [.int v_a2_columns, .int v_a2_rows, .int v_a2_fade, .int v_a2_laws, .int v_a2_nightHours, .int v_a2_nightTimes, .ref q_a2_ground, .ref q_a2_windows, .ref q_a2_lawParts])), (q_a2_ground, .inl (cI, 36, .inl v_a2_ground)), (q_a2_windows, .inl (cI, 6, .inl v_a2_windows)), (q_a2_lawParts, .inl (cI, 18, .inl v_a2_lawParts)), (q_a3, .inr (1, [.ref q_a3_debts, .ref q_a3_criers, .ref q_a3_louds, .ref q_a3_highs, .ref q_a3_hours, .ref q_a3_hearers, .ref q_a3_minutes, .int v_a3_cries, .int v_a3_notes])), (q_a3_debts, .inl (cI, 36, .inl v_a3_debts)), (q_a3_criers, .inl (cI, 20, .inl v_a3_criers)), (q_a3_louds, .inl (cI, 20, .inl v_a3_louds)), (q_a3_highs, .inl (cZ, 20, .inl v_a3_highs)), (q_a3_hours, .inl (cI, 20, .inl v_a3_hours)), (q_a3_hearers, .inl (cI, 12, .inl v_a3_hearers)), (q_a3_minutes, .inl (cI, 12, .inl v_a3_minutes))] H → va_D A [(q_t, .inr (3, [.ref q_t_ticksHeard])), (q_t_ticksHeard, .inl (cJ, 36, .inr (.inl v_t_ticksHeard))), (q_a2, .inr (2, [.int v_a2_columns, .int v_a2_rows, .int v_a2_fade, .int v_a2_laws, .int v_a2_nightHours, .int v_a2_nightTimes, .ref q_a2_ground, .ref q_a2_windows, .ref q_a2_lawParts])), (q_a2_ground, .inl (cI, 36, .inl v_a2_ground)), (q_a2_windows, .inl (cI, 6, .inl v_a2_windows)), (q_a2_lawParts, .inl (cI, 18, .inl v_a2_lawParts)), (q_a3, .inr (1, [.ref q_a3_debts, .ref q_a3_criers, .ref q_a3_louds, .ref q_a3_highs, .ref q_a3_hours, .ref q_a3_hearers, .ref q_a3_minutes, .int v_a3_cries, .int v_a3_notes])), (q_a3_debts, .inl (cI, 36, .inl v_a3_debts)), (q_a3_criers, .inl (cI, 20, .inl v_a3_criers)), (q_a3_louds, .inl (cI, 20, .inl v_a3_louds)), (q_a3_highs, .inl (cZ, 20, .inl v_a3_highs)), (q_a3_hours, .inl (cI, 20, .inl v_a3_hours)), (q_a3_hearers, .inl (cI, 12, .inl v_a3_hearers)), (q_a3_minutes, .inl (cI, 12, .inl v_a3_minutes))] → va_S A s.heap H locs → lv_has ls 6 [(0, .ref q_t), (1, .int x1), (2, .ref q_a2), (3, .ref q_a3), (4, .int x4_7), (5, .int x5_2)] → W p l e ({ frames := 3, cells := 0, slots := 0, locals := 68 } : Room) s m ([.ref q_t, .int x1, .ref q_a2, .ref q_a3] : List Value).toArray below meth c H locs 0 0 (MQ below (QI D cI cJ cZ [(q_t, .inr (3, [.ref q_t_ticksHeard])), (q_t_ticksHeard, .inl (cJ, 36, .inr (.inl v_t_ticksHeard))), (q_a2, .inr (2, [.int v_a2_columns, .int v_a2_rows, .int v_a2_fade, .int v_a2_laws, .int v_a2_nightHours, .int v_a2_nightTimes, .ref q_a2_ground, .ref q_a2_windows, .ref q_a2_lawParts])), (q_a2_ground, .inl (cI, 36, .inl v_a2_ground)), (q_a2_windows, .inl (cI, 6, .inl v_a2_windows)), (q_a2_lawParts, .inl (cI, 18, .inl v_a2_lawParts)), (q_a3, .inr (1, [.ref q_a3_debts, .ref q_a3_criers, .ref q_a3_louds, .ref q_a3_highs, .ref q_a3_hours, .ref q_a3_hearers, .ref q_a3_minutes, .int v_a3_cries, .int v_a3_notes])), (q_a3_debts, .inl (cI, 36, .inl v_a3_debts)), (q_a3_criers, .inl (cI, 20, .inl v_a3_criers)), (q_a3_louds, .inl (cI, 20, .inl v_a3_louds)), (q_a3_highs, .inl (cZ, 20, .inl v_a3_highs)), (q_a3_hours, .inl (cI, 20, .inl v_a3_hours)), (q_a3_hearers, .inl (cI, 12, .inl v_a3_hearers)), (q_a3_minutes, .inl (cI, 12, .inl v_a3_minutes))] z A) ([.ref q_t, .int x1, .ref q_a2, .ref q_a3] : List Value).toArray s 0 0 A) (F0 m 28 ls []) := by
          intro x4_7 hf H locs ls hP hD hS hl
          unfold f_X3_minutesFor_J28 at hf
          refine lv_iinc (v := (x5_2 + 1)) (lv' := [(5, .int (x5_2 + 1)), (0, .ref q_t), (1, .int x1), (2, .ref q_a2), (3, .ref q_a3), (4, .int x4_7)]) hx hb dX3_minutesFor_28 hl (k := 5) rfl rfl (by decide) rfl (fun ls hl => ?_)
          refine lv_goto (tgt := 6) hx hb dX3_minutesFor_31 (by decide) ?_
          exact ih_4 x4_7 (x5_2 + 1) hf _ _ _ hP hD hS (lv_sub hl [1, 2, 3, 4, 5, 0] rfl)
        refine lv_if_eq (tgt := 28) hx hb dX3_minutesFor_22 (by decide) (fun h_9 => ?_) (fun h_9 => ?_)
        · have hf := (if_pos h_9).symm.trans hf
          exact J28_8 x4_1 hf _ _ _ hP hD hS (lv_sub hl [0, 1, 2, 3, 4, 5] rfl)
        · have hf := (if_neg h_9).symm.trans hf
          refine lv_iinc (v := (x4_1 + 1)) (lv' := [(4, .int (x4_1 + 1)), (0, .ref q_t), (1, .int x1), (2, .ref q_a2), (3, .ref q_a3), (5, .int x5_2)]) hx hb dX3_minutesFor_25 hl (k := 4) rfl rfl (by decide) rfl (fun ls hl => ?_)
          exact J28_8 (x4_1 + 1) hf _ _ _ hP hD hS (lv_sub hl [1, 2, 3, 4, 0, 5] rfl)
  exact L6_3 FU 0 0 hf _ _ _ hP hD hS (lv_sub hl [2, 3, 4, 5, 1, 0] rfl)

def f_X6_weigh_J91 (v_t_sums : Nat → Int32) (v_t_groups : Nat → Int32) (k0 : Int32) (k1 : Int32) : Option ((Nat → Int32) × (Nat → Int32)) :=
  gd (ib k1 64) ((some (v_t_sums, (upd v_t_groups (Int32.toNatClampNeg k1) k0))))
def f_X6_weigh_J70 (v_t_sums : Nat → Int32) (v_t_groups : Nat → Int32) (x1 : Int32) (x3 : Int32) : Option ((Nat → Int32) × (Nat → Int32)) :=
  gd (ib x1 64) ((if (v_t_sums (Int32.toNatClampNeg x1)) = 0 then (f_X6_weigh_J91 v_t_sums v_t_groups (x3 + 1) x1) else (f_X6_weigh_J91 v_t_sums v_t_groups x3 x1)))
def f_X6_weigh_J64 (rc5 : (Int32) → (Int32) → (Nat → Int32) → Option ((Nat → Int32) × (Nat → Int32))) (v_t_sums : Nat → Int32) (x3 : Int32) (x4 : Int32) : Option ((Nat → Int32) × (Nat → Int32)) :=
  (rc5 x3 (x4 + 1) v_t_sums)
def f_X6_weigh_L5 (v_t_groups : Nat → Int32) (v_a2_debts : Nat → Int32) (x1 : Int32) : Nat → (Int32) → (Int32) → (Nat → Int32) → Option ((Nat → Int32) × (Nat → Int32))
  | 0, _, _, _ => none
  | n + 1, x3, x4, v_t_sums => (if 6 ≤ x4 then (f_X6_weigh_J70 v_t_sums v_t_groups x1 x3) else (if ((x1 >>> (x4 &&& 31)) &&& 1) = 0 then (f_X6_weigh_J64 (f_X6_weigh_L5 v_t_groups v_a2_debts x1 n) v_t_sums x3 x4) else gd (ib (x1 ^^^ (1 <<< (x4 &&& 31))) 64) ((f_X1_netOf v_a2_debts x4).bind (fun z47 => gd (ib x1 64) (gd (ib (x1 ^^^ (1 <<< (x4 &&& 31))) 64) ((f_X6_weigh_J64 (f_X6_weigh_L5 v_t_groups v_a2_debts x1 n) (upd v_t_sums (Int32.toNatClampNeg x1) ((v_t_sums (Int32.toNatClampNeg (x1 ^^^ (1 <<< (x4 &&& 31))))) + z47)) (if x3 < (v_t_groups (Int32.toNatClampNeg (x1 ^^^ (1 <<< (x4 &&& 31))))) then (v_t_groups (Int32.toNatClampNeg (x1 ^^^ (1 <<< (x4 &&& 31))))) else x3) x4)))))))
def f_X6_weigh (v_t_sums : Nat → Int32) (v_t_groups : Nat → Int32) (v_a2_debts : Nat → Int32) (x1 : Int32) : Option ((Nat → Int32) × (Nat → Int32)) :=
  (f_X6_weigh_L5 v_t_groups v_a2_debts x1 FU 0 0 v_t_sums)
theorem gv_X6_weigh {own : String} {idx : Nat} (h : Cond.methodLink own idx yX6_weigh ∈ lw_g) : GoodIn lw_g (wsV own idx RX6 yX6_weigh (Cond.code yX6_weigh cX6_weigh 6 none :: lw_g)) := gV h w_740 w_15 w_67 w_741
theorem hd_X6_weigh : yX6_weigh.cls = RX6 ∧ yX6_weigh.cls ≠ "java/lang/invoke/MethodHandle" ∧ yX6_weigh.cls ≠ "java/lang/invoke/VarHandle" ∧ (parseMethodDescriptor yX6_weigh.desc).map (fun d => d.parameters.length) = some 2 := by decide +kernel
set_option maxHeartbeats 4000000 in
set_option maxRecDepth 100000 in
theorem c_X6_weigh (l : Launch) (D : va_G) (cI cJ cZ : ClassId) (en : EnT) (q_t q_t_sums q_t_groups q_a2 q_a2_debts q_a2_criers q_a2_louds q_a2_highs q_a2_hours q_a2_hearers q_a2_minutes : Nat) (sz : Nat) (v_t_sums : Nat → Int32) (v_t_groups : Nat → Int32) (v_a2_cries : Int32) (v_a2_notes : Int32) (v_a2_debts : Nat → Int32) (v_a2_criers : Nat → Int32) (v_a2_louds : Nat → Int32) (v_a2_highs : Nat → Int32) (v_a2_hours : Nat → Int32) (v_a2_hearers : Nat → Int32) (v_a2_minutes : Nat → Int32) (x1 : Int32) {z : (Nat → Int32) × (Nat → Int32)} (hf : f_X6_weigh v_t_sums v_t_groups v_a2_debts x1 = some z) : Met l yX6_weigh (Cond.code yX6_weigh cX6_weigh 6 none :: lw_g) ({ frames := 3, cells := 0, slots := 0, locals := 65 } : Room) (PC D cI cJ cZ en ([.ref q_t, .int x1, .ref q_a2] : List Value) [(q_t, .inr (6, [.ref q_t_sums, .ref q_t_groups])), (q_t_sums, .inl (cI, 64, .inl v_t_sums)), (q_t_groups, .inl (cI, 64, .inl v_t_groups)), (q_a2, .inr (1, [.ref q_a2_debts, .ref q_a2_criers, .ref q_a2_louds, .ref q_a2_highs, .ref q_a2_hours, .ref q_a2_hearers, .ref q_a2_minutes, .int v_a2_cries, .int v_a2_notes])), (q_a2_debts, .inl (cI, 36, .inl v_a2_debts)), (q_a2_criers, .inl (cI, 20, .inl v_a2_criers)), (q_a2_louds, .inl (cI, 20, .inl v_a2_louds)), (q_a2_highs, .inl (cZ, 20, .inl v_a2_highs)), (q_a2_hours, .inl (cI, 20, .inl v_a2_hours)), (q_a2_hearers, .inl (cI, 12, .inl v_a2_hearers)), (q_a2_minutes, .inl (cI, 12, .inl v_a2_minutes))] sz) (QV D cI cJ cZ [(q_t, .inr (6, [.ref q_t_sums, .ref q_t_groups])), (q_t_sums, .inl (cI, 64, .inl z.1)), (q_t_groups, .inl (cI, 64, .inl z.2)), (q_a2, .inr (1, [.ref q_a2_debts, .ref q_a2_criers, .ref q_a2_louds, .ref q_a2_highs, .ref q_a2_hours, .ref q_a2_hearers, .ref q_a2_minutes, .int v_a2_cries, .int v_a2_notes])), (q_a2_debts, .inl (cI, 36, .inl v_a2_debts)), (q_a2_criers, .inl (cI, 20, .inl v_a2_criers)), (q_a2_louds, .inl (cI, 20, .inl v_a2_louds)), (q_a2_highs, .inl (cZ, 20, .inl v_a2_highs)), (q_a2_hours, .inl (cI, 20, .inl v_a2_hours)), (q_a2_hearers, .inl (cI, 12, .inl v_a2_hearers)), (q_a2_minutes, .inl (cI, 12, .inl v_a2_minutes))] (va_A [(q_t, .inr (6, [.ref q_t_sums, .ref q_t_groups])), (q_t_sums, .inl (cI, 64, .inl v_t_sums)), (q_t_groups, .inl (cI, 64, .inl v_t_groups)), (q_a2, .inr (1, [.ref q_a2_debts, .ref q_a2_criers, .ref q_a2_louds, .ref q_a2_highs, .ref q_a2_hours, .ref q_a2_hearers, .ref q_a2_minutes, .int v_a2_cries, .int v_a2_notes])), (q_a2_debts, .inl (cI, 36, .inl v_a2_debts)), (q_a2_criers, .inl (cI, 20, .inl v_a2_criers)), (q_a2_louds, .inl (cI, 20, .inl v_a2_louds)), (q_a2_highs, .inl (cZ, 20, .inl v_a2_highs)), (q_a2_hours, .inl (cI, 20, .inl v_a2_hours)), (q_a2_hearers, .inl (cI, 12, .inl v_a2_hearers)), (q_a2_minutes, .inl (cI, 12, .inl v_a2_minutes))] sz)) 0 0 (va_A [(q_t, .inr (6, [.ref q_t_sums, .ref q_t_groups])), (q_t_sums, .inl (cI, 64, .inl v_t_sums)), (q_t_groups, .inl (cI, 64, .inl v_t_groups)), (q_a2, .inr (1, [.ref q_a2_debts, .ref q_a2_criers, .ref q_a2_louds, .ref q_a2_highs, .ref q_a2_hours, .ref q_a2_hearers, .ref q_a2_minutes, .int v_a2_cries, .int v_a2_notes])), (q_a2_debts, .inl (cI, 36, .inl v_a2_debts)), (q_a2_criers, .inl (cI, 20, .inl v_a2_criers)), (q_a2_louds, .inl (cI, 20, .inl v_a2_louds)), (q_a2_highs, .inl (cZ, 20, .inl v_a2_highs)), (q_a2_hours, .inl (cI, 20, .inl v_a2_hours)), (q_a2_hearers, .inl (cI, 12, .inl v_a2_hearers)), (q_a2_minutes, .inl (cI, 12, .inl v_a2_minutes))] sz) := by
  refine mk_met (Qc := fun A => (QV D cI cJ cZ [(q_t, .inr (6, [.ref q_t_sums, .ref q_t_groups])), (q_t_sums, .inl (cI, 64, .inl z.1)), (q_t_groups, .inl (cI, 64, .inl z.2)), (q_a2, .inr (1, [.ref q_a2_debts, .ref q_a2_criers, .ref q_a2_louds, .ref q_a2_highs, .ref q_a2_hours, .ref q_a2_hearers, .ref q_a2_minutes, .int v_a2_cries, .int v_a2_notes])), (q_a2_debts, .inl (cI, 36, .inl v_a2_debts)), (q_a2_criers, .inl (cI, 20, .inl v_a2_criers)), (q_a2_louds, .inl (cI, 20, .inl v_a2_louds)), (q_a2_highs, .inl (cZ, 20, .inl v_a2_highs)), (q_a2_hours, .inl (cI, 20, .inl v_a2_hours)), (q_a2_hearers, .inl (cI, 12, .inl v_a2_hearers)), (q_a2_minutes, .inl (cI, 12, .inl v_a2_minutes))] A)) RX6 (by decide) rfl (Nat.le_of_ble_eq_true rfl) ?_
  intro p e s m below meth c ls A hx hb hr hml hown hts hlocks hA hK hE hl hD H locs hP hS
  have hl : lv_has ls 6 [(0, .ref q_t), (1, .int x1), (2, .ref q_a2)] := hl
  unfold f_X6_weigh at hf
  refine lv_iconst (v := 0) hx hb dX6_weigh_0 (by decide) ?_
  refine lv_istore_n (lv' := [(3, .int 0), (0, .ref q_t), (1, .int x1), (2, .ref q_a2)]) hx hb dX6_weigh_1 rfl hl (by decide) rfl (fun ls hl => ?_)
  refine lv_iconst (v := 0) hx hb dX6_weigh_2 (by decide) ?_
  refine lv_istore (lv' := [(4, .int 0), (3, .int 0), (0, .ref q_t), (1, .int x1), (2, .ref q_a2)]) hx hb dX6_weigh_3 hl (by decide) rfl (fun ls hl => ?_)
  have L5_4 : ∀ (n : Nat) (x3_1 : Int32) (x4_2 : Int32) (v_t_sums_3 : Nat → Int32), f_X6_weigh_L5 v_t_groups v_a2_debts x1 n x3_1 x4_2 v_t_sums_3 = some z → ∀ (H : Heap) (locs : List Loc) (ls : Array Slot), va_P D vwCl [(q_t, .inr (6, [.ref q_t_sums, .ref q_t_groups])), (q_t_sums, .inl (cI, 64, .inl v_t_sums_3)), (q_t_groups, .inl (cI, 64, .inl v_t_groups)), (q_a2, .inr (1, [.ref q_a2_debts, .ref q_a2_criers, .ref q_a2_louds, .ref q_a2_highs, .ref q_a2_hours, .ref q_a2_hearers, .ref q_a2_minutes, .int v_a2_cries, .int v_a2_notes])), (q_a2_debts, .inl (cI, 36, .inl v_a2_debts)), (q_a2_criers, .inl (cI, 20, .inl v_a2_criers)), (q_a2_louds, .inl (cI, 20, .inl v_a2_louds)), (q_a2_highs, .inl (cZ, 20, .inl v_a2_highs)), (q_a2_hours, .inl (cI, 20, .inl v_a2_hours)), (q_a2_hearers, .inl (cI, 12, .inl v_a2_hearers)), (q_a2_minutes, .inl (cI, 12, .inl v_a2_minutes))] H → va_D A [(q_t, .inr (6, [.ref q_t_sums, .ref q_t_groups])), (q_t_sums, .inl (cI, 64, .inl v_t_sums_3)), (q_t_groups, .inl (cI, 64, .inl v_t_groups)), (q_a2, .inr (1, [.ref q_a2_debts, .ref q_a2_criers, .ref q_a2_louds, .ref q_a2_highs, .ref q_a2_hours, .ref q_a2_hearers, .ref q_a2_minutes, .int v_a2_cries, .int v_a2_notes])), (q_a2_debts, .inl (cI, 36, .inl v_a2_debts)), (q_a2_criers, .inl (cI, 20, .inl v_a2_criers)), (q_a2_louds, .inl (cI, 20, .inl v_a2_louds)), (q_a2_highs, .inl (cZ, 20, .inl v_a2_highs)), (q_a2_hours, .inl (cI, 20, .inl v_a2_hours)), (q_a2_hearers, .inl (cI, 12, .inl v_a2_hearers)), (q_a2_minutes, .inl (cI, 12, .inl v_a2_minutes))] → va_S A s.heap H locs → lv_has ls 6 [(0, .ref q_t), (1, .int x1), (2, .ref q_a2), (3, .int x3_1), (4, .int x4_2)] → W p l e ({ frames := 3, cells := 0, slots := 0, locals := 65 } : Room) s m ([.ref q_t, .int x1, .ref q_a2] : List Value).toArray below meth c H locs 0 0 (MQ below (QV D cI cJ cZ [(q_t, .inr (6, [.ref q_t_sums, .ref q_t_groups])), (q_t_sums, .inl (cI, 64, .inl z.1)), (q_t_groups, .inl (cI, 64, .inl z.2)), (q_a2, .inr (1, [.ref q_a2_debts, .ref q_a2_criers, .ref q_a2_louds, .ref q_a2_highs, .ref q_a2_hours, .ref q_a2_hearers, .ref q_a2_minutes, .int v_a2_cries, .int v_a2_notes])), (q_a2_debts, .inl (cI, 36, .inl v_a2_debts)), (q_a2_criers, .inl (cI, 20, .inl v_a2_criers)), (q_a2_louds, .inl (cI, 20, .inl v_a2_louds)), (q_a2_highs, .inl (cZ, 20, .inl v_a2_highs)), (q_a2_hours, .inl (cI, 20, .inl v_a2_hours)), (q_a2_hearers, .inl (cI, 12, .inl v_a2_hearers)), (q_a2_minutes, .inl (cI, 12, .inl v_a2_minutes))] A) ([.ref q_t, .int x1, .ref q_a2] : List Value).toArray s 0 0 A) (F0 m 5 ls []) := by
    intro n
    induction n with
    | zero =>
      intro x3_1 x4_2 v_t_sums_3 hf
      cases hf
    | succ n ih_5 =>
      intro x3_1 x4_2 v_t_sums_3 hf H locs ls hP hD hS hl
      rw [f_X6_weigh_L5] at hf
      refine lv_iload hx hb dX6_weigh_5 (lv_at hl 4 rfl) ?_
      refine lv_bipush (v := 6) hx hb dX6_weigh_7 (by decide) ?_
      refine lv_icmp_ge (tgt := 70) hx hb dX6_weigh_9 (by decide) (fun h_6 => ?_) (fun h_6 => ?_)
      · have hf := (if_pos h_6).symm.trans hf
        unfold f_X6_weigh_J70 at hf
        refine lv_aload_n hx hb dX6_weigh_70 rfl (lv_at hl 0 rfl) ?_
        refine va_get (D := D) (ci := 6) (v := .ref q_t_groups) (C := RX6) (T := TX6) (N := 2) hx hb hts inX6 hown hK hP 0 rfl rfl 1 (by decide) (hts _ w_274) (fun _ h9 => h9) rfl dX6_weigh_71 ?_
        refine lv_iload_n hx hb dX6_weigh_74 rfl (lv_at hl 1 rfl) ?_
        refine lv_aload_n hx hb dX6_weigh_75 rfl (lv_at hl 0 rfl) ?_
        refine va_get (D := D) (ci := 6) (v := .ref q_t_sums) (C := RX6) (T := TX6) (N := 2) hx hb hts inX6 hown hK hP 0 rfl rfl 0 (by decide) (hts _ w_273) (fun _ h9 => h9) rfl dX6_weigh_76 ?_
        refine lv_iload_n hx hb dX6_weigh_79 rfl (lv_at hl 1 rfl) ?_
        obtain ⟨hin, hf⟩ := gd_some hf
        refine va_iald hx hb hK hP 1 0 rfl rfl hin dX6_weigh_80 ?_
        have J91_8 : ∀ (k0_7 : Int32), f_X6_weigh_J91 v_t_sums_3 v_t_groups k0_7 x1 = some z → ∀ (H : Heap) (locs : List Loc) (ls : Array Slot), va_P D vwCl [(q_t, .inr (6, [.ref q_t_sums, .ref q_t_groups])), (q_t_sums, .inl (cI, 64, .inl v_t_sums_3)), (q_t_groups, .inl (cI, 64, .inl v_t_groups)), (q_a2, .inr (1, [.ref q_a2_debts, .ref q_a2_criers, .ref q_a2_louds, .ref q_a2_highs, .ref q_a2_hours, .ref q_a2_hearers, .ref q_a2_minutes, .int v_a2_cries, .int v_a2_notes])), (q_a2_debts, .inl (cI, 36, .inl v_a2_debts)), (q_a2_criers, .inl (cI, 20, .inl v_a2_criers)), (q_a2_louds, .inl (cI, 20, .inl v_a2_louds)), (q_a2_highs, .inl (cZ, 20, .inl v_a2_highs)), (q_a2_hours, .inl (cI, 20, .inl v_a2_hours)), (q_a2_hearers, .inl (cI, 12, .inl v_a2_hearers)), (q_a2_minutes, .inl (cI, 12, .inl v_a2_minutes))] H → va_D A [(q_t, .inr (6, [.ref q_t_sums, .ref q_t_groups])), (q_t_sums, .inl (cI, 64, .inl v_t_sums_3)), (q_t_groups, .inl (cI, 64, .inl v_t_groups)), (q_a2, .inr (1, [.ref q_a2_debts, .ref q_a2_criers, .ref q_a2_louds, .ref q_a2_highs, .ref q_a2_hours, .ref q_a2_hearers, .ref q_a2_minutes, .int v_a2_cries, .int v_a2_notes])), (q_a2_debts, .inl (cI, 36, .inl v_a2_debts)), (q_a2_criers, .inl (cI, 20, .inl v_a2_criers)), (q_a2_louds, .inl (cI, 20, .inl v_a2_louds)), (q_a2_highs, .inl (cZ, 20, .inl v_a2_highs)), (q_a2_hours, .inl (cI, 20, .inl v_a2_hours)), (q_a2_hearers, .inl (cI, 12, .inl v_a2_hearers)), (q_a2_minutes, .inl (cI, 12, .inl v_a2_minutes))] → va_S A s.heap H locs → lv_has ls 6 [] → W p l e ({ frames := 3, cells := 0, slots := 0, locals := 65 } : Room) s m ([.ref q_t, .int x1, .ref q_a2] : List Value).toArray below meth c H locs 0 0 (MQ below (QV D cI cJ cZ [(q_t, .inr (6, [.ref q_t_sums, .ref q_t_groups])), (q_t_sums, .inl (cI, 64, .inl z.1)), (q_t_groups, .inl (cI, 64, .inl z.2)), (q_a2, .inr (1, [.ref q_a2_debts, .ref q_a2_criers, .ref q_a2_louds, .ref q_a2_highs, .ref q_a2_hours, .ref q_a2_hearers, .ref q_a2_minutes, .int v_a2_cries, .int v_a2_notes])), (q_a2_debts, .inl (cI, 36, .inl v_a2_debts)), (q_a2_criers, .inl (cI, 20, .inl v_a2_criers)), (q_a2_louds, .inl (cI, 20, .inl v_a2_louds)), (q_a2_highs, .inl (cZ, 20, .inl v_a2_highs)), (q_a2_hours, .inl (cI, 20, .inl v_a2_hours)), (q_a2_hearers, .inl (cI, 12, .inl v_a2_hearers)), (q_a2_minutes, .inl (cI, 12, .inl v_a2_minutes))] A) ([.ref q_t, .int x1, .ref q_a2] : List Value).toArray s 0 0 A) (F0 m 91 ls [.int k0_7, .int x1, .ref q_t_groups]) := by
          intro k0_7 hf H locs ls hP hD hS hl
          unfold f_X6_weigh_J91 at hf
          obtain ⟨hin, hf⟩ := gd_some hf
          refine va_iast hx hb hK hP hD hS 2 0 rfl rfl hin dX6_weigh_91 (fun H locs hP hD hS => ?_)
          have hP : va_P D vwCl [(q_t, .inr (6, [.ref q_t_sums, .ref q_t_groups])), (q_t_sums, .inl (cI, 64, .inl v_t_sums_3)), (q_t_groups, .inl (cI, 64, .inl (upd v_t_groups (Int32.toNatClampNeg x1) k0_7))), (q_a2, .inr (1, [.ref q_a2_debts, .ref q_a2_criers, .ref q_a2_louds, .ref q_a2_highs, .ref q_a2_hours, .ref q_a2_hearers, .ref q_a2_minutes, .int v_a2_cries, .int v_a2_notes])), (q_a2_debts, .inl (cI, 36, .inl v_a2_debts)), (q_a2_criers, .inl (cI, 20, .inl v_a2_criers)), (q_a2_louds, .inl (cI, 20, .inl v_a2_louds)), (q_a2_highs, .inl (cZ, 20, .inl v_a2_highs)), (q_a2_hours, .inl (cI, 20, .inl v_a2_hours)), (q_a2_hearers, .inl (cI, 12, .inl v_a2_hearers)), (q_a2_minutes, .inl (cI, 12, .inl v_a2_minutes))] H := hP
          have hD : va_D A [(q_t, .inr (6, [.ref q_t_sums, .ref q_t_groups])), (q_t_sums, .inl (cI, 64, .inl v_t_sums_3)), (q_t_groups, .inl (cI, 64, .inl (upd v_t_groups (Int32.toNatClampNeg x1) k0_7))), (q_a2, .inr (1, [.ref q_a2_debts, .ref q_a2_criers, .ref q_a2_louds, .ref q_a2_highs, .ref q_a2_hours, .ref q_a2_hearers, .ref q_a2_minutes, .int v_a2_cries, .int v_a2_notes])), (q_a2_debts, .inl (cI, 36, .inl v_a2_debts)), (q_a2_criers, .inl (cI, 20, .inl v_a2_criers)), (q_a2_louds, .inl (cI, 20, .inl v_a2_louds)), (q_a2_highs, .inl (cZ, 20, .inl v_a2_highs)), (q_a2_hours, .inl (cI, 20, .inl v_a2_hours)), (q_a2_hearers, .inl (cI, 12, .inl v_a2_hearers)), (q_a2_minutes, .inl (cI, 12, .inl v_a2_minutes))] := hD
          cases hf
          exact rt_v hx hb hr hlocks hK hP hS dX6_weigh_92
        refine lv_if_ne (tgt := 90) hx hb dX6_weigh_81 (by decide) (fun h_9 => ?_) (fun h_9 => ?_)
        · have hf := (if_neg h_9).symm.trans hf
          refine lv_iload_n hx hb dX6_weigh_90 rfl (lv_at hl 3 rfl) ?_
          exact J91_8 x3_1 hf _ _ _ hP hD hS (lv_sub hl [] rfl)
        · have hf := (if_pos h_9).symm.trans hf
          refine lv_iload_n hx hb dX6_weigh_84 rfl (lv_at hl 3 rfl) ?_
          refine lv_iconst (v := 1) hx hb dX6_weigh_85 (by decide) ?_
          refine lv_iadd hx hb dX6_weigh_86 ?_
          refine lv_goto (tgt := 91) hx hb dX6_weigh_87 (by decide) ?_
          exact J91_8 (x3_1 + 1) hf _ _ _ hP hD hS (lv_sub hl [] rfl)
      · have hf := (if_neg h_6).symm.trans hf
        refine lv_iload_n hx hb dX6_weigh_12 rfl (lv_at hl 1 rfl) ?_
        refine lv_iload hx hb dX6_weigh_13 (lv_at hl 4 rfl) ?_
        refine lv_ishr hx hb dX6_weigh_15 ?_
        refine lv_iconst (v := 1) hx hb dX6_weigh_16 (by decide) ?_
        refine lv_iand hx hb dX6_weigh_17 ?_
        have J64_12 : ∀ (x3_10 : Int32) (v_t_sums_11 : Nat → Int32), f_X6_weigh_J64 (f_X6_weigh_L5 v_t_groups v_a2_debts x1 n) v_t_sums_11 x3_10 x4_2 = some z → ∀ (H : Heap) (locs : List Loc) (ls : Array Slot), va_P D vwCl [(q_t, .inr (6, [.ref q_t_sums, .ref q_t_groups])), (q_t_sums, .inl (cI, 64, .inl v_t_sums_11)), (q_t_groups, .inl (cI, 64, .inl v_t_groups)), (q_a2, .inr (1, [.ref q_a2_debts, .ref q_a2_criers, .ref q_a2_louds, .ref q_a2_highs, .ref q_a2_hours, .ref q_a2_hearers, .ref q_a2_minutes, .int v_a2_cries, .int v_a2_notes])), (q_a2_debts, .inl (cI, 36, .inl v_a2_debts)), (q_a2_criers, .inl (cI, 20, .inl v_a2_criers)), (q_a2_louds, .inl (cI, 20, .inl v_a2_louds)), (q_a2_highs, .inl (cZ, 20, .inl v_a2_highs)), (q_a2_hours, .inl (cI, 20, .inl v_a2_hours)), (q_a2_hearers, .inl (cI, 12, .inl v_a2_hearers)), (q_a2_minutes, .inl (cI, 12, .inl v_a2_minutes))] H → va_D A [(q_t, .inr (6, [.ref q_t_sums, .ref q_t_groups])), (q_t_sums, .inl (cI, 64, .inl v_t_sums_11)), (q_t_groups, .inl (cI, 64, .inl v_t_groups)), (q_a2, .inr (1, [.ref q_a2_debts, .ref q_a2_criers, .ref q_a2_louds, .ref q_a2_highs, .ref q_a2_hours, .ref q_a2_hearers, .ref q_a2_minutes, .int v_a2_cries, .int v_a2_notes])), (q_a2_debts, .inl (cI, 36, .inl v_a2_debts)), (q_a2_criers, .inl (cI, 20, .inl v_a2_criers)), (q_a2_louds, .inl (cI, 20, .inl v_a2_louds)), (q_a2_highs, .inl (cZ, 20, .inl v_a2_highs)), (q_a2_hours, .inl (cI, 20, .inl v_a2_hours)), (q_a2_hearers, .inl (cI, 12, .inl v_a2_hearers)), (q_a2_minutes, .inl (cI, 12, .inl v_a2_minutes))] → va_S A s.heap H locs → lv_has ls 6 [(0, .ref q_t), (1, .int x1), (2, .ref q_a2), (3, .int x3_10), (4, .int x4_2)] → W p l e ({ frames := 3, cells := 0, slots := 0, locals := 65 } : Room) s m ([.ref q_t, .int x1, .ref q_a2] : List Value).toArray below meth c H locs 0 0 (MQ below (QV D cI cJ cZ [(q_t, .inr (6, [.ref q_t_sums, .ref q_t_groups])), (q_t_sums, .inl (cI, 64, .inl z.1)), (q_t_groups, .inl (cI, 64, .inl z.2)), (q_a2, .inr (1, [.ref q_a2_debts, .ref q_a2_criers, .ref q_a2_louds, .ref q_a2_highs, .ref q_a2_hours, .ref q_a2_hearers, .ref q_a2_minutes, .int v_a2_cries, .int v_a2_notes])), (q_a2_debts, .inl (cI, 36, .inl v_a2_debts)), (q_a2_criers, .inl (cI, 20, .inl v_a2_criers)), (q_a2_louds, .inl (cI, 20, .inl v_a2_louds)), (q_a2_highs, .inl (cZ, 20, .inl v_a2_highs)), (q_a2_hours, .inl (cI, 20, .inl v_a2_hours)), (q_a2_hearers, .inl (cI, 12, .inl v_a2_hearers)), (q_a2_minutes, .inl (cI, 12, .inl v_a2_minutes))] A) ([.ref q_t, .int x1, .ref q_a2] : List Value).toArray s 0 0 A) (F0 m 64 ls []) := by
          intro x3_10 v_t_sums_11 hf H locs ls hP hD hS hl
          unfold f_X6_weigh_J64 at hf
          refine lv_iinc (v := (x4_2 + 1)) (lv' := [(4, .int (x4_2 + 1)), (0, .ref q_t), (1, .int x1), (2, .ref q_a2), (3, .int x3_10)]) hx hb dX6_weigh_64 hl (k := 4) rfl rfl (by decide) rfl (fun ls hl => ?_)
          refine lv_goto (tgt := 5) hx hb dX6_weigh_67 (by decide) ?_
          exact ih_5 x3_10 (x4_2 + 1) v_t_sums_11 hf _ _ _ hP hD hS (lv_sub hl [1, 2, 3, 4, 0] rfl)
        refine lv_if_ne (tgt := 24) hx hb dX6_weigh_18 (by decide) (fun h_13 => ?_) (fun h_13 => ?_)
        · have hf := (if_neg h_13).symm.trans hf
          refine lv_iload_n hx hb dX6_weigh_24 rfl (lv_at hl 1 rfl) ?_
          refine lv_iconst (v := 1) hx hb dX6_weigh_25 (by decide) ?_
          refine lv_iload hx hb dX6_weigh_26 (lv_at hl 4 rfl) ?_
          refine lv_ishl hx hb dX6_weigh_28 ?_
          refine lv_ixor hx hb dX6_weigh_29 ?_
          refine lv_istore (lv' := [(5, .int (x1 ^^^ (1 <<< (x4_2 &&& 31)))), (0, .ref q_t), (1, .int x1), (2, .ref q_a2), (3, .int x3_1), (4, .int x4_2)]) hx hb dX6_weigh_30 hl (by decide) rfl (fun ls hl => ?_)
          refine lv_aload_n hx hb dX6_weigh_32 rfl (lv_at hl 1 rfl) ?_
          refine va_get (D := D) (ci := 6) (v := .ref q_t_sums) (C := RX6) (T := TX6) (N := 2) hx hb hts inX6 hown hK hP 0 rfl rfl 0 (by decide) (hts _ w_273) (fun _ h9 => h9) rfl dX6_weigh_33 ?_
          refine lv_iload_n hx hb dX6_weigh_36 rfl (lv_at hl 2 rfl) ?_
          refine lv_aload_n hx hb dX6_weigh_37 rfl (lv_at hl 1 rfl) ?_
          refine va_get (D := D) (ci := 6) (v := .ref q_t_sums) (C := RX6) (T := TX6) (N := 2) hx hb hts inX6 hown hK hP 0 rfl rfl 0 (by decide) (hts _ w_273) (fun _ h9 => h9) rfl dX6_weigh_38 ?_
          refine lv_iload hx hb dX6_weigh_41 (lv_at hl 0 rfl) ?_
          obtain ⟨hin, hf⟩ := gd_some hf
          refine va_iald hx hb hK hP 1 0 rfl rfl hin dX6_weigh_43 ?_
          refine lv_aload_n hx hb dX6_weigh_44 rfl (lv_at hl 3 rfl) ?_
          refine lv_iload hx hb dX6_weigh_45 (lv_at hl 5 rfl) ?_
          obtain ⟨z47_14, hz47_14, hf⟩ := bd_some hf
          refine cVi (rest := [.int (v_t_sums_3 (Int32.toNatClampNeg (x1 ^^^ (1 <<< (x4_2 &&& 31))))), .int x1, .ref q_t_sums]) ⟨hx, hb, hml, hown, hts⟩ hE hK hP hD hS hA (c_X1_netOf l D cI cJ cZ en q_a2 q_a2_debts q_a2_criers q_a2_louds q_a2_highs q_a2_hours q_a2_hearers q_a2_minutes H.size v_a2_cries v_a2_notes v_a2_debts v_a2_criers v_a2_louds v_a2_highs v_a2_hours v_a2_hearers v_a2_minutes x4_2 hz47_14) (gv_X1_netOf w_742) hd_X1_netOf ⟨rfl, rfl⟩ ⟨by decide, by decide⟩ [3, 4, 5, 6, 7, 8, 9, 10] rfl rfl rfl 1 rfl rfl 3 rfl  hl rfl (Nat.le_of_ble_eq_true rfl) ⟨Nat.zero_le _, Nat.zero_le _⟩ dX6_weigh_47 (fun H locs hP hD hS => ?_)
          have hP : va_P D vwCl [(q_t, .inr (6, [.ref q_t_sums, .ref q_t_groups])), (q_t_sums, .inl (cI, 64, .inl v_t_sums_3)), (q_t_groups, .inl (cI, 64, .inl v_t_groups)), (q_a2, .inr (1, [.ref q_a2_debts, .ref q_a2_criers, .ref q_a2_louds, .ref q_a2_highs, .ref q_a2_hours, .ref q_a2_hearers, .ref q_a2_minutes, .int v_a2_cries, .int v_a2_notes])), (q_a2_debts, .inl (cI, 36, .inl v_a2_debts)), (q_a2_criers, .inl (cI, 20, .inl v_a2_criers)), (q_a2_louds, .inl (cI, 20, .inl v_a2_louds)), (q_a2_highs, .inl (cZ, 20, .inl v_a2_highs)), (q_a2_hours, .inl (cI, 20, .inl v_a2_hours)), (q_a2_hearers, .inl (cI, 12, .inl v_a2_hearers)), (q_a2_minutes, .inl (cI, 12, .inl v_a2_minutes))] H := hP
          have hD : va_D A [(q_t, .inr (6, [.ref q_t_sums, .ref q_t_groups])), (q_t_sums, .inl (cI, 64, .inl v_t_sums_3)), (q_t_groups, .inl (cI, 64, .inl v_t_groups)), (q_a2, .inr (1, [.ref q_a2_debts, .ref q_a2_criers, .ref q_a2_louds, .ref q_a2_highs, .ref q_a2_hours, .ref q_a2_hearers, .ref q_a2_minutes, .int v_a2_cries, .int v_a2_notes])), (q_a2_debts, .inl (cI, 36, .inl v_a2_debts)), (q_a2_criers, .inl (cI, 20, .inl v_a2_criers)), (q_a2_louds, .inl (cI, 20, .inl v_a2_louds)), (q_a2_highs, .inl (cZ, 20, .inl v_a2_highs)), (q_a2_hours, .inl (cI, 20, .inl v_a2_hours)), (q_a2_hearers, .inl (cI, 12, .inl v_a2_hearers)), (q_a2_minutes, .inl (cI, 12, .inl v_a2_minutes))] := hD
          refine lv_iadd hx hb dX6_weigh_50 ?_
          obtain ⟨hin, hf⟩ := gd_some hf
          refine va_iast hx hb hK hP hD hS 1 0 rfl rfl hin dX6_weigh_51 (fun H locs hP hD hS => ?_)
          have hP : va_P D vwCl [(q_t, .inr (6, [.ref q_t_sums, .ref q_t_groups])), (q_t_sums, .inl (cI, 64, .inl (upd v_t_sums_3 (Int32.toNatClampNeg x1) ((v_t_sums_3 (Int32.toNatClampNeg (x1 ^^^ (1 <<< (x4_2 &&& 31))))) + z47_14)))), (q_t_groups, .inl (cI, 64, .inl v_t_groups)), (q_a2, .inr (1, [.ref q_a2_debts, .ref q_a2_criers, .ref q_a2_louds, .ref q_a2_highs, .ref q_a2_hours, .ref q_a2_hearers, .ref q_a2_minutes, .int v_a2_cries, .int v_a2_notes])), (q_a2_debts, .inl (cI, 36, .inl v_a2_debts)), (q_a2_criers, .inl (cI, 20, .inl v_a2_criers)), (q_a2_louds, .inl (cI, 20, .inl v_a2_louds)), (q_a2_highs, .inl (cZ, 20, .inl v_a2_highs)), (q_a2_hours, .inl (cI, 20, .inl v_a2_hours)), (q_a2_hearers, .inl (cI, 12, .inl v_a2_hearers)), (q_a2_minutes, .inl (cI, 12, .inl v_a2_minutes))] H := hP
          have hD : va_D A [(q_t, .inr (6, [.ref q_t_sums, .ref q_t_groups])), (q_t_sums, .inl (cI, 64, .inl (upd v_t_sums_3 (Int32.toNatClampNeg x1) ((v_t_sums_3 (Int32.toNatClampNeg (x1 ^^^ (1 <<< (x4_2 &&& 31))))) + z47_14)))), (q_t_groups, .inl (cI, 64, .inl v_t_groups)), (q_a2, .inr (1, [.ref q_a2_debts, .ref q_a2_criers, .ref q_a2_louds, .ref q_a2_highs, .ref q_a2_hours, .ref q_a2_hearers, .ref q_a2_minutes, .int v_a2_cries, .int v_a2_notes])), (q_a2_debts, .inl (cI, 36, .inl v_a2_debts)), (q_a2_criers, .inl (cI, 20, .inl v_a2_criers)), (q_a2_louds, .inl (cI, 20, .inl v_a2_louds)), (q_a2_highs, .inl (cZ, 20, .inl v_a2_highs)), (q_a2_hours, .inl (cI, 20, .inl v_a2_hours)), (q_a2_hearers, .inl (cI, 12, .inl v_a2_hearers)), (q_a2_minutes, .inl (cI, 12, .inl v_a2_minutes))] := hD
          refine lv_iload_n hx hb dX6_weigh_52 rfl (lv_at hl 4 rfl) ?_
          refine lv_aload_n hx hb dX6_weigh_53 rfl (lv_at hl 1 rfl) ?_
          refine va_get (D := D) (ci := 6) (v := .ref q_t_groups) (C := RX6) (T := TX6) (N := 2) hx hb hts inX6 hown hK hP 0 rfl rfl 1 (by decide) (hts _ w_274) (fun _ h9 => h9) rfl dX6_weigh_54 ?_
          refine lv_iload hx hb dX6_weigh_57 (lv_at hl 0 rfl) ?_
          obtain ⟨hin, hf⟩ := gd_some hf
          refine va_iald hx hb hK hP 2 0 rfl rfl hin dX6_weigh_59 ?_
          refine va_mmax hx hb (hml.trans hl.1.symm) hown (hts _ w_743) (hts _ w_523) (hts _ w_73) (hts _ w_524) (by decide) (Nat.le_of_ble_eq_true rfl) (Nat.zero_le _) (Nat.zero_le _) dX6_weigh_60 ?_
          refine lv_istore_n (lv' := [(3, .int (if x3_1 < (v_t_groups (Int32.toNatClampNeg (x1 ^^^ (1 <<< (x4_2 &&& 31))))) then (v_t_groups (Int32.toNatClampNeg (x1 ^^^ (1 <<< (x4_2 &&& 31))))) else x3_1)), (5, .int (x1 ^^^ (1 <<< (x4_2 &&& 31)))), (0, .ref q_t), (1, .int x1), (2, .ref q_a2), (4, .int x4_2)]) hx hb dX6_weigh_63 rfl hl (by decide) rfl (fun ls hl => ?_)
          exact J64_12 (if x3_1 < (v_t_groups (Int32.toNatClampNeg (x1 ^^^ (1 <<< (x4_2 &&& 31))))) then (v_t_groups (Int32.toNatClampNeg (x1 ^^^ (1 <<< (x4_2 &&& 31))))) else x3_1) (upd v_t_sums_3 (Int32.toNatClampNeg x1) ((v_t_sums_3 (Int32.toNatClampNeg (x1 ^^^ (1 <<< (x4_2 &&& 31))))) + z47_14)) hf _ _ _ hP hD hS (lv_sub hl [2, 3, 4, 0, 5] rfl)
        · have hf := (if_pos h_13).symm.trans hf
          refine lv_goto (tgt := 64) hx hb dX6_weigh_21 (by decide) ?_
          exact J64_12 x3_1 v_t_sums_3 hf _ _ _ hP hD hS (lv_sub hl [0, 1, 2, 3, 4] rfl)
  exact L5_4 FU 0 0 v_t_sums hf _ _ _ hP hD hS (lv_sub hl [2, 3, 4, 1, 0] rfl)

def f_X6_fewestPayments_J34 (v_t_sums : Nat → Int32) (v_t_groups : Nat → Int32) : Option (Int32 × (Nat → Int32) × (Nat → Int32)) :=
  gd (ib 63 64) ((some ((6 - (v_t_groups (Int32.toNatClampNeg 63))), v_t_sums, v_t_groups)))
def f_X6_fewestPayments_L16 (v_a1_debts : Nat → Int32) : Nat → (Int32) → (Nat → Int32) → (Nat → Int32) → Option (Int32 × (Nat → Int32) × (Nat → Int32))
  | 0, _, _, _ => none
  | n + 1, x2, v_t_sums, v_t_groups => (if 64 ≤ x2 then (f_X6_fewestPayments_J34 v_t_sums v_t_groups) else (f_X6_weigh v_t_sums v_t_groups v_a1_debts x2).bind (fun z25 => (f_X6_fewestPayments_L16 v_a1_debts n (x2 + 1) z25.1 z25.2)))
def f_X6_fewestPayments (v_t_sums : Nat → Int32) (v_t_groups : Nat → Int32) (v_a1_debts : Nat → Int32) : Option (Int32 × (Nat → Int32) × (Nat → Int32)) :=
  gd (ib 0 64) (gd (ib 0 64) ((f_X6_fewestPayments_L16 v_a1_debts FU 1 (upd v_t_sums (Int32.toNatClampNeg 0) 0) (upd v_t_groups (Int32.toNatClampNeg 0) 0))))
theorem gv_X6_fewestPayments {own : String} {idx : Nat} (h : Cond.methodLink own idx yX6_fewestPayments ∈ lw_g) : GoodIn lw_g (wsV own idx RX6 yX6_fewestPayments (Cond.code yX6_fewestPayments cX6_fewestPayments 3 (some .int) :: lw_g)) := gV h w_735 w_736 w_67 w_737
theorem hd_X6_fewestPayments : yX6_fewestPayments.cls = RX6 ∧ yX6_fewestPayments.cls ≠ "java/lang/invoke/MethodHandle" ∧ yX6_fewestPayments.cls ≠ "java/lang/invoke/VarHandle" ∧ (parseMethodDescriptor yX6_fewestPayments.desc).map (fun d => d.parameters.length) = some 1 := by decide +kernel
set_option maxHeartbeats 4000000 in
set_option maxRecDepth 100000 in
theorem c_X6_fewestPayments (l : Launch) (D : va_G) (cI cJ cZ : ClassId) (en : EnT) (q_t q_t_sums q_t_groups q_a1 q_a1_debts q_a1_criers q_a1_louds q_a1_highs q_a1_hours q_a1_hearers q_a1_minutes : Nat) (sz : Nat) (v_t_sums : Nat → Int32) (v_t_groups : Nat → Int32) (v_a1_cries : Int32) (v_a1_notes : Int32) (v_a1_debts : Nat → Int32) (v_a1_criers : Nat → Int32) (v_a1_louds : Nat → Int32) (v_a1_highs : Nat → Int32) (v_a1_hours : Nat → Int32) (v_a1_hearers : Nat → Int32) (v_a1_minutes : Nat → Int32) {z : Int32 × (Nat → Int32) × (Nat → Int32)} (hf : f_X6_fewestPayments v_t_sums v_t_groups v_a1_debts = some z) : Met l yX6_fewestPayments (Cond.code yX6_fewestPayments cX6_fewestPayments 3 (some .int) :: lw_g) ({ frames := 4, cells := 0, slots := 0, locals := 90 } : Room) (PC D cI cJ cZ en ([.ref q_t, .ref q_a1] : List Value) [(q_t, .inr (6, [.ref q_t_sums, .ref q_t_groups])), (q_t_sums, .inl (cI, 64, .inl v_t_sums)), (q_t_groups, .inl (cI, 64, .inl v_t_groups)), (q_a1, .inr (1, [.ref q_a1_debts, .ref q_a1_criers, .ref q_a1_louds, .ref q_a1_highs, .ref q_a1_hours, .ref q_a1_hearers, .ref q_a1_minutes, .int v_a1_cries, .int v_a1_notes])), (q_a1_debts, .inl (cI, 36, .inl v_a1_debts)), (q_a1_criers, .inl (cI, 20, .inl v_a1_criers)), (q_a1_louds, .inl (cI, 20, .inl v_a1_louds)), (q_a1_highs, .inl (cZ, 20, .inl v_a1_highs)), (q_a1_hours, .inl (cI, 20, .inl v_a1_hours)), (q_a1_hearers, .inl (cI, 12, .inl v_a1_hearers)), (q_a1_minutes, .inl (cI, 12, .inl v_a1_minutes))] sz) (QI D cI cJ cZ [(q_t, .inr (6, [.ref q_t_sums, .ref q_t_groups])), (q_t_sums, .inl (cI, 64, .inl z.2.1)), (q_t_groups, .inl (cI, 64, .inl z.2.2)), (q_a1, .inr (1, [.ref q_a1_debts, .ref q_a1_criers, .ref q_a1_louds, .ref q_a1_highs, .ref q_a1_hours, .ref q_a1_hearers, .ref q_a1_minutes, .int v_a1_cries, .int v_a1_notes])), (q_a1_debts, .inl (cI, 36, .inl v_a1_debts)), (q_a1_criers, .inl (cI, 20, .inl v_a1_criers)), (q_a1_louds, .inl (cI, 20, .inl v_a1_louds)), (q_a1_highs, .inl (cZ, 20, .inl v_a1_highs)), (q_a1_hours, .inl (cI, 20, .inl v_a1_hours)), (q_a1_hearers, .inl (cI, 12, .inl v_a1_hearers)), (q_a1_minutes, .inl (cI, 12, .inl v_a1_minutes))] z.1 (va_A [(q_t, .inr (6, [.ref q_t_sums, .ref q_t_groups])), (q_t_sums, .inl (cI, 64, .inl v_t_sums)), (q_t_groups, .inl (cI, 64, .inl v_t_groups)), (q_a1, .inr (1, [.ref q_a1_debts, .ref q_a1_criers, .ref q_a1_louds, .ref q_a1_highs, .ref q_a1_hours, .ref q_a1_hearers, .ref q_a1_minutes, .int v_a1_cries, .int v_a1_notes])), (q_a1_debts, .inl (cI, 36, .inl v_a1_debts)), (q_a1_criers, .inl (cI, 20, .inl v_a1_criers)), (q_a1_louds, .inl (cI, 20, .inl v_a1_louds)), (q_a1_highs, .inl (cZ, 20, .inl v_a1_highs)), (q_a1_hours, .inl (cI, 20, .inl v_a1_hours)), (q_a1_hearers, .inl (cI, 12, .inl v_a1_hearers)), (q_a1_minutes, .inl (cI, 12, .inl v_a1_minutes))] sz)) 0 0 (va_A [(q_t, .inr (6, [.ref q_t_sums, .ref q_t_groups])), (q_t_sums, .inl (cI, 64, .inl v_t_sums)), (q_t_groups, .inl (cI, 64, .inl v_t_groups)), (q_a1, .inr (1, [.ref q_a1_debts, .ref q_a1_criers, .ref q_a1_louds, .ref q_a1_highs, .ref q_a1_hours, .ref q_a1_hearers, .ref q_a1_minutes, .int v_a1_cries, .int v_a1_notes])), (q_a1_debts, .inl (cI, 36, .inl v_a1_debts)), (q_a1_criers, .inl (cI, 20, .inl v_a1_criers)), (q_a1_louds, .inl (cI, 20, .inl v_a1_louds)), (q_a1_highs, .inl (cZ, 20, .inl v_a1_highs)), (q_a1_hours, .inl (cI, 20, .inl v_a1_hours)), (q_a1_hearers, .inl (cI, 12, .inl v_a1_hearers)), (q_a1_minutes, .inl (cI, 12, .inl v_a1_minutes))] sz) := by
  refine mk_met (Qc := fun A => (QI D cI cJ cZ [(q_t, .inr (6, [.ref q_t_sums, .ref q_t_groups])), (q_t_sums, .inl (cI, 64, .inl z.2.1)), (q_t_groups, .inl (cI, 64, .inl z.2.2)), (q_a1, .inr (1, [.ref q_a1_debts, .ref q_a1_criers, .ref q_a1_louds, .ref q_a1_highs, .ref q_a1_hours, .ref q_a1_hearers, .ref q_a1_minutes, .int v_a1_cries, .int v_a1_notes])), (q_a1_debts, .inl (cI, 36, .inl v_a1_debts)), (q_a1_criers, .inl (cI, 20, .inl v_a1_criers)), (q_a1_louds, .inl (cI, 20, .inl v_a1_louds)), (q_a1_highs, .inl (cZ, 20, .inl v_a1_highs)), (q_a1_hours, .inl (cI, 20, .inl v_a1_hours)), (q_a1_hearers, .inl (cI, 12, .inl v_a1_hearers)), (q_a1_minutes, .inl (cI, 12, .inl v_a1_minutes))] z.1 A)) RX6 (by decide) rfl (Nat.le_of_ble_eq_true rfl) ?_
  intro p e s m below meth c ls A hx hb hr hml hown hts hlocks hA hK hE hl hD H locs hP hS
  have hl : lv_has ls 3 [(0, .ref q_t), (1, .ref q_a1)] := hl
  unfold f_X6_fewestPayments at hf
  refine lv_aload_n hx hb dX6_fewestPayments_0 rfl (lv_at hl 0 rfl) ?_
  refine va_get (D := D) (ci := 6) (v := .ref q_t_sums) (C := RX6) (T := TX6) (N := 2) hx hb hts inX6 hown hK hP 0 rfl rfl 0 (by decide) (hts _ w_273) (fun _ h9 => h9) rfl dX6_fewestPayments_1 ?_
  refine lv_iconst (v := 0) hx hb dX6_fewestPayments_4 (by decide) ?_
  refine lv_iconst (v := 0) hx hb dX6_fewestPayments_5 (by decide) ?_
  obtain ⟨hin, hf⟩ := gd_some hf
  refine va_iast hx hb hK hP hD hS 1 0 rfl rfl hin dX6_fewestPayments_6 (fun H locs hP hD hS => ?_)
  have hP : va_P D vwCl [(q_t, .inr (6, [.ref q_t_sums, .ref q_t_groups])), (q_t_sums, .inl (cI, 64, .inl (upd v_t_sums (Int32.toNatClampNeg 0) 0))), (q_t_groups, .inl (cI, 64, .inl v_t_groups)), (q_a1, .inr (1, [.ref q_a1_debts, .ref q_a1_criers, .ref q_a1_louds, .ref q_a1_highs, .ref q_a1_hours, .ref q_a1_hearers, .ref q_a1_minutes, .int v_a1_cries, .int v_a1_notes])), (q_a1_debts, .inl (cI, 36, .inl v_a1_debts)), (q_a1_criers, .inl (cI, 20, .inl v_a1_criers)), (q_a1_louds, .inl (cI, 20, .inl v_a1_louds)), (q_a1_highs, .inl (cZ, 20, .inl v_a1_highs)), (q_a1_hours, .inl (cI, 20, .inl v_a1_hours)), (q_a1_hearers, .inl (cI, 12, .inl v_a1_hearers)), (q_a1_minutes, .inl (cI, 12, .inl v_a1_minutes))] H := hP
  have hD : va_D A [(q_t, .inr (6, [.ref q_t_sums, .ref q_t_groups])), (q_t_sums, .inl (cI, 64, .inl (upd v_t_sums (Int32.toNatClampNeg 0) 0))), (q_t_groups, .inl (cI, 64, .inl v_t_groups)), (q_a1, .inr (1, [.ref q_a1_debts, .ref q_a1_criers, .ref q_a1_louds, .ref q_a1_highs, .ref q_a1_hours, .ref q_a1_hearers, .ref q_a1_minutes, .int v_a1_cries, .int v_a1_notes])), (q_a1_debts, .inl (cI, 36, .inl v_a1_debts)), (q_a1_criers, .inl (cI, 20, .inl v_a1_criers)), (q_a1_louds, .inl (cI, 20, .inl v_a1_louds)), (q_a1_highs, .inl (cZ, 20, .inl v_a1_highs)), (q_a1_hours, .inl (cI, 20, .inl v_a1_hours)), (q_a1_hearers, .inl (cI, 12, .inl v_a1_hearers)), (q_a1_minutes, .inl (cI, 12, .inl v_a1_minutes))] := hD
  refine lv_aload_n hx hb dX6_fewestPayments_7 rfl (lv_at hl 0 rfl) ?_
  refine va_get (D := D) (ci := 6) (v := .ref q_t_groups) (C := RX6) (T := TX6) (N := 2) hx hb hts inX6 hown hK hP 0 rfl rfl 1 (by decide) (hts _ w_274) (fun _ h9 => h9) rfl dX6_fewestPayments_8 ?_
  refine lv_iconst (v := 0) hx hb dX6_fewestPayments_11 (by decide) ?_
  refine lv_iconst (v := 0) hx hb dX6_fewestPayments_12 (by decide) ?_
  obtain ⟨hin, hf⟩ := gd_some hf
  refine va_iast hx hb hK hP hD hS 2 0 rfl rfl hin dX6_fewestPayments_13 (fun H locs hP hD hS => ?_)
  have hP : va_P D vwCl [(q_t, .inr (6, [.ref q_t_sums, .ref q_t_groups])), (q_t_sums, .inl (cI, 64, .inl (upd v_t_sums (Int32.toNatClampNeg 0) 0))), (q_t_groups, .inl (cI, 64, .inl (upd v_t_groups (Int32.toNatClampNeg 0) 0))), (q_a1, .inr (1, [.ref q_a1_debts, .ref q_a1_criers, .ref q_a1_louds, .ref q_a1_highs, .ref q_a1_hours, .ref q_a1_hearers, .ref q_a1_minutes, .int v_a1_cries, .int v_a1_notes])), (q_a1_debts, .inl (cI, 36, .inl v_a1_debts)), (q_a1_criers, .inl (cI, 20, .inl v_a1_criers)), (q_a1_louds, .inl (cI, 20, .inl v_a1_louds)), (q_a1_highs, .inl (cZ, 20, .inl v_a1_highs)), (q_a1_hours, .inl (cI, 20, .inl v_a1_hours)), (q_a1_hearers, .inl (cI, 12, .inl v_a1_hearers)), (q_a1_minutes, .inl (cI, 12, .inl v_a1_minutes))] H := hP
  have hD : va_D A [(q_t, .inr (6, [.ref q_t_sums, .ref q_t_groups])), (q_t_sums, .inl (cI, 64, .inl (upd v_t_sums (Int32.toNatClampNeg 0) 0))), (q_t_groups, .inl (cI, 64, .inl (upd v_t_groups (Int32.toNatClampNeg 0) 0))), (q_a1, .inr (1, [.ref q_a1_debts, .ref q_a1_criers, .ref q_a1_louds, .ref q_a1_highs, .ref q_a1_hours, .ref q_a1_hearers, .ref q_a1_minutes, .int v_a1_cries, .int v_a1_notes])), (q_a1_debts, .inl (cI, 36, .inl v_a1_debts)), (q_a1_criers, .inl (cI, 20, .inl v_a1_criers)), (q_a1_louds, .inl (cI, 20, .inl v_a1_louds)), (q_a1_highs, .inl (cZ, 20, .inl v_a1_highs)), (q_a1_hours, .inl (cI, 20, .inl v_a1_hours)), (q_a1_hearers, .inl (cI, 12, .inl v_a1_hearers)), (q_a1_minutes, .inl (cI, 12, .inl v_a1_minutes))] := hD
  refine lv_iconst (v := 1) hx hb dX6_fewestPayments_14 (by decide) ?_
  refine lv_istore_n (lv' := [(2, .int 1), (0, .ref q_t), (1, .ref q_a1)]) hx hb dX6_fewestPayments_15 rfl hl (by decide) rfl (fun ls hl => ?_)
  have L16_4 : ∀ (n : Nat) (x2_1 : Int32) (v_t_sums_2 : Nat → Int32) (v_t_groups_3 : Nat → Int32), f_X6_fewestPayments_L16 v_a1_debts n x2_1 v_t_sums_2 v_t_groups_3 = some z → ∀ (H : Heap) (locs : List Loc) (ls : Array Slot), va_P D vwCl [(q_t, .inr (6, [.ref q_t_sums, .ref q_t_groups])), (q_t_sums, .inl (cI, 64, .inl v_t_sums_2)), (q_t_groups, .inl (cI, 64, .inl v_t_groups_3)), (q_a1, .inr (1, [.ref q_a1_debts, .ref q_a1_criers, .ref q_a1_louds, .ref q_a1_highs, .ref q_a1_hours, .ref q_a1_hearers, .ref q_a1_minutes, .int v_a1_cries, .int v_a1_notes])), (q_a1_debts, .inl (cI, 36, .inl v_a1_debts)), (q_a1_criers, .inl (cI, 20, .inl v_a1_criers)), (q_a1_louds, .inl (cI, 20, .inl v_a1_louds)), (q_a1_highs, .inl (cZ, 20, .inl v_a1_highs)), (q_a1_hours, .inl (cI, 20, .inl v_a1_hours)), (q_a1_hearers, .inl (cI, 12, .inl v_a1_hearers)), (q_a1_minutes, .inl (cI, 12, .inl v_a1_minutes))] H → va_D A [(q_t, .inr (6, [.ref q_t_sums, .ref q_t_groups])), (q_t_sums, .inl (cI, 64, .inl v_t_sums_2)), (q_t_groups, .inl (cI, 64, .inl v_t_groups_3)), (q_a1, .inr (1, [.ref q_a1_debts, .ref q_a1_criers, .ref q_a1_louds, .ref q_a1_highs, .ref q_a1_hours, .ref q_a1_hearers, .ref q_a1_minutes, .int v_a1_cries, .int v_a1_notes])), (q_a1_debts, .inl (cI, 36, .inl v_a1_debts)), (q_a1_criers, .inl (cI, 20, .inl v_a1_criers)), (q_a1_louds, .inl (cI, 20, .inl v_a1_louds)), (q_a1_highs, .inl (cZ, 20, .inl v_a1_highs)), (q_a1_hours, .inl (cI, 20, .inl v_a1_hours)), (q_a1_hearers, .inl (cI, 12, .inl v_a1_hearers)), (q_a1_minutes, .inl (cI, 12, .inl v_a1_minutes))] → va_S A s.heap H locs → lv_has ls 3 [(0, .ref q_t), (1, .ref q_a1), (2, .int x2_1)] → W p l e ({ frames := 4, cells := 0, slots := 0, locals := 90 } : Room) s m ([.ref q_t, .ref q_a1] : List Value).toArray below meth c H locs 0 0 (MQ below (QI D cI cJ cZ [(q_t, .inr (6, [.ref q_t_sums, .ref q_t_groups])), (q_t_sums, .inl (cI, 64, .inl z.2.1)), (q_t_groups, .inl (cI, 64, .inl z.2.2)), (q_a1, .inr (1, [.ref q_a1_debts, .ref q_a1_criers, .ref q_a1_louds, .ref q_a1_highs, .ref q_a1_hours, .ref q_a1_hearers, .ref q_a1_minutes, .int v_a1_cries, .int v_a1_notes])), (q_a1_debts, .inl (cI, 36, .inl v_a1_debts)), (q_a1_criers, .inl (cI, 20, .inl v_a1_criers)), (q_a1_louds, .inl (cI, 20, .inl v_a1_louds)), (q_a1_highs, .inl (cZ, 20, .inl v_a1_highs)), (q_a1_hours, .inl (cI, 20, .inl v_a1_hours)), (q_a1_hearers, .inl (cI, 12, .inl v_a1_hearers)), (q_a1_minutes, .inl (cI, 12, .inl v_a1_minutes))] z.1 A) ([.ref q_t, .ref q_a1] : List Value).toArray s 0 0 A) (F0 m 16 ls []) := by
    intro n
    induction n with
    | zero =>
      intro x2_1 v_t_sums_2 v_t_groups_3 hf
      cases hf
    | succ n ih_5 =>
      intro x2_1 v_t_sums_2 v_t_groups_3 hf H locs ls hP hD hS hl
      rw [f_X6_fewestPayments_L16] at hf
      refine lv_iload_n hx hb dX6_fewestPayments_16 rfl (lv_at hl 2 rfl) ?_
      refine lv_bipush (v := 64) hx hb dX6_fewestPayments_17 (by decide) ?_
      refine lv_icmp_ge (tgt := 34) hx hb dX6_fewestPayments_19 (by decide) (fun h_6 => ?_) (fun h_6 => ?_)
      · have hf := (if_pos h_6).symm.trans hf
        unfold f_X6_fewestPayments_J34 at hf
        refine lv_bipush (v := 6) hx hb dX6_fewestPayments_34 (by decide) ?_
        refine lv_aload_n hx hb dX6_fewestPayments_36 rfl (lv_at hl 0 rfl) ?_
        refine va_get (D := D) (ci := 6) (v := .ref q_t_groups) (C := RX6) (T := TX6) (N := 2) hx hb hts inX6 hown hK hP 0 rfl rfl 1 (by decide) (hts _ w_274) (fun _ h9 => h9) rfl dX6_fewestPayments_37 ?_
        refine lv_bipush (v := 63) hx hb dX6_fewestPayments_40 (by decide) ?_
        obtain ⟨hin, hf⟩ := gd_some hf
        refine va_iald hx hb hK hP 2 0 rfl rfl hin dX6_fewestPayments_42 ?_
        refine lv_isub hx hb dX6_fewestPayments_43 ?_
        cases hf
        exact rt_i hx hb hr hlocks hK hP hS dX6_fewestPayments_44
      · have hf := (if_neg h_6).symm.trans hf
        refine lv_aload_n hx hb dX6_fewestPayments_22 rfl (lv_at hl 0 rfl) ?_
        refine lv_iload_n hx hb dX6_fewestPayments_23 rfl (lv_at hl 2 rfl) ?_
        refine lv_aload_n hx hb dX6_fewestPayments_24 rfl (lv_at hl 1 rfl) ?_
        obtain ⟨z25_7, hz25_7, hf⟩ := bd_some hf
        refine cVv (rest := []) ⟨hx, hb, hml, hown, hts⟩ hE hK hP hD hS hA (c_X6_weigh l D cI cJ cZ en q_t q_t_sums q_t_groups q_a1 q_a1_debts q_a1_criers q_a1_louds q_a1_highs q_a1_hours q_a1_hearers q_a1_minutes H.size v_t_sums_2 v_t_groups_3 v_a1_cries v_a1_notes v_a1_debts v_a1_criers v_a1_louds v_a1_highs v_a1_hours v_a1_hearers v_a1_minutes x2_1 hz25_7) (gv_X6_weigh w_738) hd_X6_weigh ⟨rfl, rfl⟩ ⟨by decide, by decide⟩ [0, 1, 2, 3, 4, 5, 6, 7, 8, 9, 10] rfl rfl rfl 6 rfl rfl 0 rfl  hl rfl (Nat.le_of_ble_eq_true rfl) ⟨Nat.zero_le _, Nat.zero_le _⟩ dX6_fewestPayments_25 (fun H locs hP hD hS => ?_)
        have hP : va_P D vwCl [(q_t, .inr (6, [.ref q_t_sums, .ref q_t_groups])), (q_t_sums, .inl (cI, 64, .inl z25_7.1)), (q_t_groups, .inl (cI, 64, .inl z25_7.2)), (q_a1, .inr (1, [.ref q_a1_debts, .ref q_a1_criers, .ref q_a1_louds, .ref q_a1_highs, .ref q_a1_hours, .ref q_a1_hearers, .ref q_a1_minutes, .int v_a1_cries, .int v_a1_notes])), (q_a1_debts, .inl (cI, 36, .inl v_a1_debts)), (q_a1_criers, .inl (cI, 20, .inl v_a1_criers)), (q_a1_louds, .inl (cI, 20, .inl v_a1_louds)), (q_a1_highs, .inl (cZ, 20, .inl v_a1_highs)), (q_a1_hours, .inl (cI, 20, .inl v_a1_hours)), (q_a1_hearers, .inl (cI, 12, .inl v_a1_hearers)), (q_a1_minutes, .inl (cI, 12, .inl v_a1_minutes))] H := hP
        have hD : va_D A [(q_t, .inr (6, [.ref q_t_sums, .ref q_t_groups])), (q_t_sums, .inl (cI, 64, .inl z25_7.1)), (q_t_groups, .inl (cI, 64, .inl z25_7.2)), (q_a1, .inr (1, [.ref q_a1_debts, .ref q_a1_criers, .ref q_a1_louds, .ref q_a1_highs, .ref q_a1_hours, .ref q_a1_hearers, .ref q_a1_minutes, .int v_a1_cries, .int v_a1_notes])), (q_a1_debts, .inl (cI, 36, .inl v_a1_debts)), (q_a1_criers, .inl (cI, 20, .inl v_a1_criers)), (q_a1_louds, .inl (cI, 20, .inl v_a1_louds)), (q_a1_highs, .inl (cZ, 20, .inl v_a1_highs)), (q_a1_hours, .inl (cI, 20, .inl v_a1_hours)), (q_a1_hearers, .inl (cI, 12, .inl v_a1_hearers)), (q_a1_minutes, .inl (cI, 12, .inl v_a1_minutes))] := hD
        refine lv_iinc (v := (x2_1 + 1)) (lv' := [(2, .int (x2_1 + 1)), (0, .ref q_t), (1, .ref q_a1)]) hx hb dX6_fewestPayments_28 hl (k := 2) rfl rfl (by decide) rfl (fun ls hl => ?_)
        refine lv_goto (tgt := 16) hx hb dX6_fewestPayments_31 (by decide) ?_
        exact ih_5 (x2_1 + 1) z25_7.1 z25_7.2 hf _ _ _ hP hD hS (lv_sub hl [1, 2, 0] rfl)
  exact L16_4 FU 1 (upd v_t_sums (Int32.toNatClampNeg 0) 0) (upd v_t_groups (Int32.toNatClampNeg 0) 0) hf _ _ _ hP hD hS (lv_sub hl [1, 2, 0] rfl)

def f_X7_append (v_t_length : Int32) (v_t_bytes : Nat → Int32) (x1 : Int32) : Option (Int32 × (Nat → Int32)) :=
  (if v_t_length < 0 then (some (v_t_length, v_t_bytes)) else (if v_t_length < 200 then gd (ib v_t_length 200) ((some ((v_t_length + 1), (upd v_t_bytes (Int32.toNatClampNeg v_t_length) x1)))) else (some (v_t_length, v_t_bytes))))
theorem gv_X7_append {own : String} {idx : Nat} (h : Cond.methodLink own idx yX7_append ∈ lw_g) : GoodIn lw_g (wsV own idx RX7 yX7_append (Cond.code yX7_append cX7_append 2 none :: lw_g)) := gV h w_329 w_330 w_58 w_331
theorem hd_X7_append : yX7_append.cls = RX7 ∧ yX7_append.cls ≠ "java/lang/invoke/MethodHandle" ∧ yX7_append.cls ≠ "java/lang/invoke/VarHandle" ∧ (parseMethodDescriptor yX7_append.desc).map (fun d => d.parameters.length) = some 1 := by decide +kernel
set_option maxHeartbeats 4000000 in
set_option maxRecDepth 100000 in
theorem c_X7_append (l : Launch) (D : va_G) (cI cJ cZ : ClassId) (en : EnT) (q_t q_t_bytes : Nat) (sz : Nat) (v_t_length : Int32) (v_t_bytes : Nat → Int32) (x1 : Int32) {z : Int32 × (Nat → Int32)} (hf : f_X7_append v_t_length v_t_bytes x1 = some z) : Met l yX7_append (Cond.code yX7_append cX7_append 2 none :: lw_g) ({ frames := 0, cells := 0, slots := 0, locals := 0 } : Room) (PC D cI cJ cZ en ([.ref q_t, .int x1] : List Value) [(q_t, .inr (7, [.ref q_t_bytes, .int v_t_length])), (q_t_bytes, .inl (cI, 200, .inl v_t_bytes))] sz) (QV D cI cJ cZ [(q_t, .inr (7, [.ref q_t_bytes, .int z.1])), (q_t_bytes, .inl (cI, 200, .inl z.2))] (va_A [(q_t, .inr (7, [.ref q_t_bytes, .int v_t_length])), (q_t_bytes, .inl (cI, 200, .inl v_t_bytes))] sz)) 0 0 (va_A [(q_t, .inr (7, [.ref q_t_bytes, .int v_t_length])), (q_t_bytes, .inl (cI, 200, .inl v_t_bytes))] sz) := by
  refine mk_met (Qc := fun A => (QV D cI cJ cZ [(q_t, .inr (7, [.ref q_t_bytes, .int z.1])), (q_t_bytes, .inl (cI, 200, .inl z.2))] A)) RX7 (by decide) rfl (Nat.le_of_ble_eq_true rfl) ?_
  intro p e s m below meth c ls A hx hb hr hml hown hts hlocks hA hK hE hl hD H locs hP hS
  have hl : lv_has ls 2 [(0, .ref q_t), (1, .int x1)] := hl
  unfold f_X7_append at hf
  refine lv_aload_n hx hb dX7_append_0 rfl (lv_at hl 0 rfl) ?_
  refine va_get (D := D) (ci := 7) (v := .int v_t_length) (C := RX7) (T := TX7) (N := 2) hx hb hts inX7 hown hK hP 0 rfl rfl 1 (by decide) (hts _ w_90) (fun _ h9 => h9) rfl dX7_append_1 ?_
  refine lv_if_lt (tgt := 17) hx hb dX7_append_4 (by decide) (fun h_1 => ?_) (fun h_1 => ?_)
  · have hf := (if_pos h_1).symm.trans hf
    cases hf
    exact rt_v hx hb hr hlocks hK hP hS dX7_append_17
  · have hf := (if_neg h_1).symm.trans hf
    refine lv_aload_n hx hb dX7_append_7 rfl (lv_at hl 0 rfl) ?_
    refine va_get (D := D) (ci := 7) (v := .int v_t_length) (C := RX7) (T := TX7) (N := 2) hx hb hts inX7 hown hK hP 0 rfl rfl 1 (by decide) (hts _ w_90) (fun _ h9 => h9) rfl dX7_append_8 ?_
    refine lv_sipush (v := 200) hx hb dX7_append_11 (by decide) ?_
    refine lv_icmp_lt (tgt := 18) hx hb dX7_append_14 (by decide) (fun h_2 => ?_) (fun h_2 => ?_)
    · have hf := (if_pos h_2).symm.trans hf
      refine lv_aload_n hx hb dX7_append_18 rfl (lv_at hl 0 rfl) ?_
      refine va_get (D := D) (ci := 7) (v := .ref q_t_bytes) (C := RX7) (T := TX7) (N := 2) hx hb hts inX7 hown hK hP 0 rfl rfl 0 (by decide) (hts _ w_89) (fun _ h9 => h9) rfl dX7_append_19 ?_
      refine lv_aload_n hx hb dX7_append_22 rfl (lv_at hl 0 rfl) ?_
      refine va_get (D := D) (ci := 7) (v := .int v_t_length) (C := RX7) (T := TX7) (N := 2) hx hb hts inX7 hown hK hP 0 rfl rfl 1 (by decide) (hts _ w_90) (fun _ h9 => h9) rfl dX7_append_23 ?_
      refine lv_iload_n hx hb dX7_append_26 rfl (lv_at hl 1 rfl) ?_
      obtain ⟨hin, hf⟩ := gd_some hf
      refine va_iast hx hb hK hP hD hS 1 0 rfl rfl hin dX7_append_27 (fun H locs hP hD hS => ?_)
      have hP : va_P D vwCl [(q_t, .inr (7, [.ref q_t_bytes, .int v_t_length])), (q_t_bytes, .inl (cI, 200, .inl (upd v_t_bytes (Int32.toNatClampNeg v_t_length) x1)))] H := hP
      have hD : va_D A [(q_t, .inr (7, [.ref q_t_bytes, .int v_t_length])), (q_t_bytes, .inl (cI, 200, .inl (upd v_t_bytes (Int32.toNatClampNeg v_t_length) x1)))] := hD
      refine lv_aload_n hx hb dX7_append_28 rfl (lv_at hl 0 rfl) ?_
      refine lv_dup hx hb dX7_append_29 rfl ?_
      refine va_get (D := D) (ci := 7) (v := .int v_t_length) (C := RX7) (T := TX7) (N := 2) hx hb hts inX7 hown hK hP 0 rfl rfl 1 (by decide) (hts _ w_90) (fun _ h9 => h9) rfl dX7_append_30 ?_
      refine lv_iconst (v := 1) hx hb dX7_append_33 (by decide) ?_
      refine lv_iadd hx hb dX7_append_34 ?_
      refine va_put (D := D) (ci := 7) (v := .int (v_t_length + 1)) (ty := .int) (C := RX7) (T := TX7) (N := 2) hx hb hts inX7 tyX7 tyX7_ok nmX7 hown hK hP hD hS 0 rfl rfl 1 (by decide) (hts _ w_90) (fun _ h9 => h9) rfl (by decide +kernel) rfl rfl (Nat.le_of_ble_eq_true rfl) dX7_append_35 (fun H locs hP hD hS => ?_)
      have hP : va_P D vwCl [(q_t, .inr (7, [.ref q_t_bytes, .int (v_t_length + 1)])), (q_t_bytes, .inl (cI, 200, .inl (upd v_t_bytes (Int32.toNatClampNeg v_t_length) x1)))] H := hP
      have hD : va_D A [(q_t, .inr (7, [.ref q_t_bytes, .int (v_t_length + 1)])), (q_t_bytes, .inl (cI, 200, .inl (upd v_t_bytes (Int32.toNatClampNeg v_t_length) x1)))] := hD
      cases hf
      exact rt_v hx hb hr hlocks hK hP hS dX7_append_38
    · have hf := (if_neg h_2).symm.trans hf
      cases hf
      exact rt_v hx hb hr hlocks hK hP hS dX7_append_17

def f_X7_byteAt (v_t_length : Int32) (v_t_bytes : Nat → Int32) (x1 : Int32) : Option (Int32) :=
  (if x1 < 0 then (some (-1)) else (if v_t_length ≤ x1 then (some (-1)) else (if x1 < 200 then gd (ib x1 200) ((some (v_t_bytes (Int32.toNatClampNeg x1)))) else (some (-1)))))
theorem gv_X7_byteAt {own : String} {idx : Nat} (h : Cond.methodLink own idx yX7_byteAt ∈ lw_g) : GoodIn lw_g (wsV own idx RX7 yX7_byteAt (Cond.code yX7_byteAt cX7_byteAt 2 (some .int) :: lw_g)) := gV h w_357 w_358 w_58 w_359
theorem hd_X7_byteAt : yX7_byteAt.cls = RX7 ∧ yX7_byteAt.cls ≠ "java/lang/invoke/MethodHandle" ∧ yX7_byteAt.cls ≠ "java/lang/invoke/VarHandle" ∧ (parseMethodDescriptor yX7_byteAt.desc).map (fun d => d.parameters.length) = some 1 := by decide +kernel
set_option maxHeartbeats 4000000 in
set_option maxRecDepth 100000 in
theorem c_X7_byteAt (l : Launch) (D : va_G) (cI cJ cZ : ClassId) (en : EnT) (q_t q_t_bytes : Nat) (sz : Nat) (v_t_length : Int32) (v_t_bytes : Nat → Int32) (x1 : Int32) {z : Int32} (hf : f_X7_byteAt v_t_length v_t_bytes x1 = some z) : Met l yX7_byteAt (Cond.code yX7_byteAt cX7_byteAt 2 (some .int) :: lw_g) ({ frames := 0, cells := 0, slots := 0, locals := 0 } : Room) (PC D cI cJ cZ en ([.ref q_t, .int x1] : List Value) [(q_t, .inr (7, [.ref q_t_bytes, .int v_t_length])), (q_t_bytes, .inl (cI, 200, .inl v_t_bytes))] sz) (QI D cI cJ cZ [(q_t, .inr (7, [.ref q_t_bytes, .int v_t_length])), (q_t_bytes, .inl (cI, 200, .inl v_t_bytes))] z (va_A [(q_t, .inr (7, [.ref q_t_bytes, .int v_t_length])), (q_t_bytes, .inl (cI, 200, .inl v_t_bytes))] sz)) 0 0 (va_A [(q_t, .inr (7, [.ref q_t_bytes, .int v_t_length])), (q_t_bytes, .inl (cI, 200, .inl v_t_bytes))] sz) := by
  refine mk_met (Qc := fun A => (QI D cI cJ cZ [(q_t, .inr (7, [.ref q_t_bytes, .int v_t_length])), (q_t_bytes, .inl (cI, 200, .inl v_t_bytes))] z A)) RX7 (by decide) rfl (Nat.le_of_ble_eq_true rfl) ?_
  intro p e s m below meth c ls A hx hb hr hml hown hts hlocks hA hK hE hl hD H locs hP hS
  have hl : lv_has ls 2 [(0, .ref q_t), (1, .int x1)] := hl
  unfold f_X7_byteAt at hf
  refine lv_iload_n hx hb dX7_byteAt_0 rfl (lv_at hl 1 rfl) ?_
  refine lv_if_lt (tgt := 19) hx hb dX7_byteAt_1 (by decide) (fun h_1 => ?_) (fun h_1 => ?_)
  · have hf := (if_pos h_1).symm.trans hf
    refine lv_iconst (v := (-1)) hx hb dX7_byteAt_19 (by decide) ?_
    refine lv_goto (tgt := 29) hx hb dX7_byteAt_20 (by decide) ?_
    cases hf
    exact rt_i hx hb hr hlocks hK hP hS dX7_byteAt_29
  · have hf := (if_neg h_1).symm.trans hf
    refine lv_iload_n hx hb dX7_byteAt_4 rfl (lv_at hl 1 rfl) ?_
    refine lv_aload_n hx hb dX7_byteAt_5 rfl (lv_at hl 0 rfl) ?_
    refine va_get (D := D) (ci := 7) (v := .int v_t_length) (C := RX7) (T := TX7) (N := 2) hx hb hts inX7 hown hK hP 0 rfl rfl 1 (by decide) (hts _ w_90) (fun _ h9 => h9) rfl dX7_byteAt_6 ?_
    refine lv_icmp_ge (tgt := 19) hx hb dX7_byteAt_9 (by decide) (fun h_2 => ?_) (fun h_2 => ?_)
    · have hf := (if_pos h_2).symm.trans hf
      refine lv_iconst (v := (-1)) hx hb dX7_byteAt_19 (by decide) ?_
      refine lv_goto (tgt := 29) hx hb dX7_byteAt_20 (by decide) ?_
      cases hf
      exact rt_i hx hb hr hlocks hK hP hS dX7_byteAt_29
    · have hf := (if_neg h_2).symm.trans hf
      refine lv_iload_n hx hb dX7_byteAt_12 rfl (lv_at hl 1 rfl) ?_
      refine lv_sipush (v := 200) hx hb dX7_byteAt_13 (by decide) ?_
      refine lv_icmp_lt (tgt := 23) hx hb dX7_byteAt_16 (by decide) (fun h_3 => ?_) (fun h_3 => ?_)
      · have hf := (if_pos h_3).symm.trans hf
        refine lv_aload_n hx hb dX7_byteAt_23 rfl (lv_at hl 0 rfl) ?_
        refine va_get (D := D) (ci := 7) (v := .ref q_t_bytes) (C := RX7) (T := TX7) (N := 2) hx hb hts inX7 hown hK hP 0 rfl rfl 0 (by decide) (hts _ w_89) (fun _ h9 => h9) rfl dX7_byteAt_24 ?_
        refine lv_iload_n hx hb dX7_byteAt_27 rfl (lv_at hl 1 rfl) ?_
        obtain ⟨hin, hf⟩ := gd_some hf
        refine va_iald hx hb hK hP 1 0 rfl rfl hin dX7_byteAt_28 ?_
        cases hf
        exact rt_i hx hb hr hlocks hK hP hS dX7_byteAt_29
      · have hf := (if_neg h_3).symm.trans hf
        refine lv_iconst (v := (-1)) hx hb dX7_byteAt_19 (by decide) ?_
        refine lv_goto (tgt := 29) hx hb dX7_byteAt_20 (by decide) ?_
        cases hf
        exact rt_i hx hb hr hlocks hK hP hS dX7_byteAt_29

def f_X8_soundFrom (x0 : Int32) (x1 : Int32) (x2 : Int32) : Option (Int32) :=
  (some ((((x2 <<< (7 &&& 31)) ||| x1) <<< (6 &&& 31)) ||| (x0 + 1)))
theorem gs_X8_soundFrom {own : String} {idx : Nat} (h : Cond.methodLink own idx yX8_soundFrom ∈ lw_g) : GoodIn lw_g (va_wsS own idx yX8_soundFrom (Cond.code yX8_soundFrom cX8_soundFrom 3 (some .int) :: lw_g)) := gS h w_625 w_64 w_626
theorem hd_X8_soundFrom : yX8_soundFrom.cls ≠ "java/lang/invoke/MethodHandle" ∧ yX8_soundFrom.cls ≠ "java/lang/invoke/VarHandle" ∧ (parseMethodDescriptor yX8_soundFrom.desc).map (fun d => d.parameters.length) = some 3 := by decide +kernel
set_option maxHeartbeats 4000000 in
set_option maxRecDepth 100000 in
theorem c_X8_soundFrom (l : Launch) (D : va_G) (cI cJ cZ : ClassId) (en : EnT) (sz : Nat) (x0 : Int32) (x1 : Int32) (x2 : Int32) {z : Int32} (hf : f_X8_soundFrom x0 x1 x2 = some z) : Met l yX8_soundFrom (Cond.code yX8_soundFrom cX8_soundFrom 3 (some .int) :: lw_g) ({ frames := 0, cells := 0, slots := 0, locals := 0 } : Room) (PC D cI cJ cZ en ([.int x0, .int x1, .int x2] : List Value) [] sz) (QI D cI cJ cZ [] z (va_A [] sz)) 0 0 (va_A [] sz) := by
  refine mk_met (Qc := fun A => (QI D cI cJ cZ [] z A)) RX8 (by decide) rfl (Nat.le_of_ble_eq_true rfl) ?_
  intro p e s m below meth c ls A hx hb hr hml hown hts hlocks hA hK hE hl hD H locs hP hS
  have hl : lv_has ls 3 [(0, .int x0), (1, .int x1), (2, .int x2)] := hl
  unfold f_X8_soundFrom at hf
  refine lv_iload_n hx hb dX8_soundFrom_0 rfl (lv_at hl 2 rfl) ?_
  refine lv_bipush (v := 7) hx hb dX8_soundFrom_1 (by decide) ?_
  refine lv_ishl hx hb dX8_soundFrom_3 ?_
  refine lv_iload_n hx hb dX8_soundFrom_4 rfl (lv_at hl 1 rfl) ?_
  refine lv_ior hx hb dX8_soundFrom_5 ?_
  refine lv_bipush (v := 6) hx hb dX8_soundFrom_6 (by decide) ?_
  refine lv_ishl hx hb dX8_soundFrom_8 ?_
  refine lv_iload_n hx hb dX8_soundFrom_9 rfl (lv_at hl 0 rfl) ?_
  refine lv_iconst (v := 1) hx hb dX8_soundFrom_10 (by decide) ?_
  refine lv_iadd hx hb dX8_soundFrom_11 ?_
  refine lv_ior hx hb dX8_soundFrom_12 ?_
  cases hf
  exact rt_i hx hb hr hlocks hK hP hS dX8_soundFrom_13

def f_X8_follow_J114 (v_t_marks : Nat → Int32) (x10 : Int32) : Option (Int32 × (Nat → Int32)) :=
  (some ((x10 - 1), v_t_marks))
def f_X8_follow_J108 (rc16 : (Int32) → (Int32) → (Int32) → (Int32) → (Int32) → (Nat → Int32) → Option (Int32 × (Nat → Int32))) (v_t_marks : Nat → Int32) (x2 : Int32) (x6 : Int32) (x7 : Int32) (x8 : Int32) (x9 : Int32) (x10 : Int32) (x12 : Int32) : Option (Int32 × (Nat → Int32)) :=
  (if 1 ≤ x8 then gd (ib (((x2 * 60) + x10) - 1) 480) ((rc16 x6 x7 x8 x9 (x10 + 1) (upd v_t_marks (Int32.toNatClampNeg (((x2 * 60) + x10) - 1)) x12))) else (f_X8_follow_J114 v_t_marks x10))
def f_X8_follow_J42 (v_t_marks : Nat → Int32) (x10 : Int32) : Option (Int32 × (Nat → Int32)) :=
  (some ((x10 - 1), v_t_marks))
def f_X8_follow_L16 (v_a1_columns : Int32) (v_a1_rows : Int32) (v_a1_fade : Int32) (v_a1_ground : Nat → Int32) (x2 : Int32) (x5 : Int32) : Nat → (Int32) → (Int32) → (Int32) → (Int32) → (Int32) → (Nat → Int32) → Option (Int32 × (Nat → Int32))
  | 0, _, _, _, _, _, _ => none
  | n + 1, x6, x7, x8, x9, x10, v_t_marks => (if 60 < x10 then (some (60, v_t_marks)) else (f_X2_ahead v_a1_columns v_a1_rows x7 x6).bind (fun z28 => (if z28 = (-1) then (f_X8_follow_J42 v_t_marks x10) else (f_X2_isRock v_a1_columns v_a1_rows v_a1_ground z28).bind (fun z50 => (if z50 = 0 then (f_X8_soundFrom z28 (x8 - v_a1_fade) x9).bind (fun z103 => (f_X8_follow_J108 (f_X8_follow_L16 v_a1_columns v_a1_rows v_a1_fade v_a1_ground x2 x5 n) v_t_marks x2 x6 z28 (x8 - v_a1_fade) x9 x10 z103)) else (f_X2_loudThrownBack v_a1_columns v_a1_rows v_a1_ground z28 x8 x5).bind (fun z63 => (f_X2_wayBack v_a1_columns v_a1_rows v_a1_ground x7 x6).bind (fun z73 => (f_X8_follow_J108 (f_X8_follow_L16 v_a1_columns v_a1_rows v_a1_fade v_a1_ground x2 x5 n) v_t_marks x2 z73 x7 z63 (x9 + 1) x10 0))))))))
def f_X8_follow (v_t_marks : Nat → Int32) (v_a1_columns : Int32) (v_a1_rows : Int32) (v_a1_fade : Int32) (v_a1_ground : Nat → Int32) (x2 : Int32) (x3 : Int32) (x4 : Int32) (x5 : Int32) : Option (Int32 × (Nat → Int32)) :=
  (f_X8_follow_L16 v_a1_columns v_a1_rows v_a1_fade v_a1_ground x2 x5 FU x2 x3 x4 0 1 v_t_marks)
theorem gv_X8_follow {own : String} {idx : Nat} (h : Cond.methodLink own idx yX8_follow ∈ lw_g) : GoodIn lw_g (wsV own idx RX8 yX8_follow (Cond.code yX8_follow cX8_follow 13 (some .int) :: lw_g)) := gV h w_591 w_11 w_64 w_592
theorem hd_X8_follow : yX8_follow.cls = RX8 ∧ yX8_follow.cls ≠ "java/lang/invoke/MethodHandle" ∧ yX8_follow.cls ≠ "java/lang/invoke/VarHandle" ∧ (parseMethodDescriptor yX8_follow.desc).map (fun d => d.parameters.length) = some 5 := by decide +kernel
set_option maxHeartbeats 4000000 in
set_option maxRecDepth 100000 in
theorem c_X8_follow (l : Launch) (D : va_G) (cI cJ cZ : ClassId) (en : EnT) (q_t q_t_marks q_t_lasting q_a1 q_a1_ground q_a1_windows q_a1_lawParts : Nat) (sz : Nat) (v_t_marks : Nat → Int32) (v_t_lasting : Nat → Int32) (v_a1_columns : Int32) (v_a1_rows : Int32) (v_a1_fade : Int32) (v_a1_laws : Int32) (v_a1_nightHours : Int32) (v_a1_nightTimes : Int32) (v_a1_ground : Nat → Int32) (v_a1_windows : Nat → Int32) (v_a1_lawParts : Nat → Int32) (x2 : Int32) (x3 : Int32) (x4 : Int32) (x5 : Int32) {z : Int32 × (Nat → Int32)} (hf : f_X8_follow v_t_marks v_a1_columns v_a1_rows v_a1_fade v_a1_ground x2 x3 x4 x5 = some z) : Met l yX8_follow (Cond.code yX8_follow cX8_follow 13 (some .int) :: lw_g) ({ frames := 3, cells := 0, slots := 0, locals := 67 } : Room) (PC D cI cJ cZ en ([.ref q_t, .ref q_a1, .int x2, .int x3, .int x4, .int x5] : List Value) [(q_t, .inr (8, [.ref q_t_marks, .ref q_t_lasting])), (q_t_marks, .inl (cI, 480, .inl v_t_marks)), (q_t_lasting, .inl (cI, 8, .inl v_t_lasting)), (q_a1, .inr (2, [.int v_a1_columns, .int v_a1_rows, .int v_a1_fade, .int v_a1_laws, .int v_a1_nightHours, .int v_a1_nightTimes, .ref q_a1_ground, .ref q_a1_windows, .ref q_a1_lawParts])), (q_a1_ground, .inl (cI, 36, .inl v_a1_ground)), (q_a1_windows, .inl (cI, 6, .inl v_a1_windows)), (q_a1_lawParts, .inl (cI, 18, .inl v_a1_lawParts))] sz) (QI D cI cJ cZ [(q_t, .inr (8, [.ref q_t_marks, .ref q_t_lasting])), (q_t_marks, .inl (cI, 480, .inl z.2)), (q_t_lasting, .inl (cI, 8, .inl v_t_lasting)), (q_a1, .inr (2, [.int v_a1_columns, .int v_a1_rows, .int v_a1_fade, .int v_a1_laws, .int v_a1_nightHours, .int v_a1_nightTimes, .ref q_a1_ground, .ref q_a1_windows, .ref q_a1_lawParts])), (q_a1_ground, .inl (cI, 36, .inl v_a1_ground)), (q_a1_windows, .inl (cI, 6, .inl v_a1_windows)), (q_a1_lawParts, .inl (cI, 18, .inl v_a1_lawParts))] z.1 (va_A [(q_t, .inr (8, [.ref q_t_marks, .ref q_t_lasting])), (q_t_marks, .inl (cI, 480, .inl v_t_marks)), (q_t_lasting, .inl (cI, 8, .inl v_t_lasting)), (q_a1, .inr (2, [.int v_a1_columns, .int v_a1_rows, .int v_a1_fade, .int v_a1_laws, .int v_a1_nightHours, .int v_a1_nightTimes, .ref q_a1_ground, .ref q_a1_windows, .ref q_a1_lawParts])), (q_a1_ground, .inl (cI, 36, .inl v_a1_ground)), (q_a1_windows, .inl (cI, 6, .inl v_a1_windows)), (q_a1_lawParts, .inl (cI, 18, .inl v_a1_lawParts))] sz)) 0 0 (va_A [(q_t, .inr (8, [.ref q_t_marks, .ref q_t_lasting])), (q_t_marks, .inl (cI, 480, .inl v_t_marks)), (q_t_lasting, .inl (cI, 8, .inl v_t_lasting)), (q_a1, .inr (2, [.int v_a1_columns, .int v_a1_rows, .int v_a1_fade, .int v_a1_laws, .int v_a1_nightHours, .int v_a1_nightTimes, .ref q_a1_ground, .ref q_a1_windows, .ref q_a1_lawParts])), (q_a1_ground, .inl (cI, 36, .inl v_a1_ground)), (q_a1_windows, .inl (cI, 6, .inl v_a1_windows)), (q_a1_lawParts, .inl (cI, 18, .inl v_a1_lawParts))] sz) := by
  refine mk_met (Qc := fun A => (QI D cI cJ cZ [(q_t, .inr (8, [.ref q_t_marks, .ref q_t_lasting])), (q_t_marks, .inl (cI, 480, .inl z.2)), (q_t_lasting, .inl (cI, 8, .inl v_t_lasting)), (q_a1, .inr (2, [.int v_a1_columns, .int v_a1_rows, .int v_a1_fade, .int v_a1_laws, .int v_a1_nightHours, .int v_a1_nightTimes, .ref q_a1_ground, .ref q_a1_windows, .ref q_a1_lawParts])), (q_a1_ground, .inl (cI, 36, .inl v_a1_ground)), (q_a1_windows, .inl (cI, 6, .inl v_a1_windows)), (q_a1_lawParts, .inl (cI, 18, .inl v_a1_lawParts))] z.1 A)) RX8 (by decide) rfl (Nat.le_of_ble_eq_true rfl) ?_
  intro p e s m below meth c ls A hx hb hr hml hown hts hlocks hA hK hE hl hD H locs hP hS
  have hl : lv_has ls 13 [(0, .ref q_t), (1, .ref q_a1), (2, .int x2), (3, .int x3), (4, .int x4), (5, .int x5)] := hl
  unfold f_X8_follow at hf
  refine lv_iload_n hx hb dX8_follow_0 rfl (lv_at hl 2 rfl) ?_
  refine lv_istore (lv' := [(6, .int x2), (0, .ref q_t), (1, .ref q_a1), (2, .int x2), (3, .int x3), (4, .int x4), (5, .int x5)]) hx hb dX8_follow_1 hl (by decide) rfl (fun ls hl => ?_)
  refine lv_iload_n hx hb dX8_follow_3 rfl (lv_at hl 4 rfl) ?_
  refine lv_istore (lv' := [(7, .int x3), (6, .int x2), (0, .ref q_t), (1, .ref q_a1), (2, .int x2), (3, .int x3), (4, .int x4), (5, .int x5)]) hx hb dX8_follow_4 hl (by decide) rfl (fun ls hl => ?_)
  refine lv_iload hx hb dX8_follow_6 (lv_at hl 6 rfl) ?_
  refine lv_istore (lv' := [(8, .int x4), (7, .int x3), (6, .int x2), (0, .ref q_t), (1, .ref q_a1), (2, .int x2), (3, .int x3), (4, .int x4), (5, .int x5)]) hx hb dX8_follow_8 hl (by decide) rfl (fun ls hl => ?_)
  refine lv_iconst (v := 0) hx hb dX8_follow_10 (by decide) ?_
  refine lv_istore (lv' := [(9, .int 0), (8, .int x4), (7, .int x3), (6, .int x2), (0, .ref q_t), (1, .ref q_a1), (2, .int x2), (3, .int x3), (4, .int x4), (5, .int x5)]) hx hb dX8_follow_11 hl (by decide) rfl (fun ls hl => ?_)
  refine lv_iconst (v := 1) hx hb dX8_follow_13 (by decide) ?_
  refine lv_istore (lv' := [(10, .int 1), (9, .int 0), (8, .int x4), (7, .int x3), (6, .int x2), (0, .ref q_t), (1, .ref q_a1), (2, .int x2), (3, .int x3), (4, .int x4), (5, .int x5)]) hx hb dX8_follow_14 hl (by decide) rfl (fun ls hl => ?_)
  have L16_7 : ∀ (n : Nat) (x6_1 : Int32) (x7_2 : Int32) (x8_3 : Int32) (x9_4 : Int32) (x10_5 : Int32) (v_t_marks_6 : Nat → Int32), f_X8_follow_L16 v_a1_columns v_a1_rows v_a1_fade v_a1_ground x2 x5 n x6_1 x7_2 x8_3 x9_4 x10_5 v_t_marks_6 = some z → ∀ (H : Heap) (locs : List Loc) (ls : Array Slot), va_P D vwCl [(q_t, .inr (8, [.ref q_t_marks, .ref q_t_lasting])), (q_t_marks, .inl (cI, 480, .inl v_t_marks_6)), (q_t_lasting, .inl (cI, 8, .inl v_t_lasting)), (q_a1, .inr (2, [.int v_a1_columns, .int v_a1_rows, .int v_a1_fade, .int v_a1_laws, .int v_a1_nightHours, .int v_a1_nightTimes, .ref q_a1_ground, .ref q_a1_windows, .ref q_a1_lawParts])), (q_a1_ground, .inl (cI, 36, .inl v_a1_ground)), (q_a1_windows, .inl (cI, 6, .inl v_a1_windows)), (q_a1_lawParts, .inl (cI, 18, .inl v_a1_lawParts))] H → va_D A [(q_t, .inr (8, [.ref q_t_marks, .ref q_t_lasting])), (q_t_marks, .inl (cI, 480, .inl v_t_marks_6)), (q_t_lasting, .inl (cI, 8, .inl v_t_lasting)), (q_a1, .inr (2, [.int v_a1_columns, .int v_a1_rows, .int v_a1_fade, .int v_a1_laws, .int v_a1_nightHours, .int v_a1_nightTimes, .ref q_a1_ground, .ref q_a1_windows, .ref q_a1_lawParts])), (q_a1_ground, .inl (cI, 36, .inl v_a1_ground)), (q_a1_windows, .inl (cI, 6, .inl v_a1_windows)), (q_a1_lawParts, .inl (cI, 18, .inl v_a1_lawParts))] → va_S A s.heap H locs → lv_has ls 13 [(0, .ref q_t), (1, .ref q_a1), (2, .int x2), (5, .int x5), (6, .int x6_1), (7, .int x7_2), (8, .int x8_3), (9, .int x9_4), (10, .int x10_5)] → W p l e ({ frames := 3, cells := 0, slots := 0, locals := 67 } : Room) s m ([.ref q_t, .ref q_a1, .int x2, .int x3, .int x4, .int x5] : List Value).toArray below meth c H locs 0 0 (MQ below (QI D cI cJ cZ [(q_t, .inr (8, [.ref q_t_marks, .ref q_t_lasting])), (q_t_marks, .inl (cI, 480, .inl z.2)), (q_t_lasting, .inl (cI, 8, .inl v_t_lasting)), (q_a1, .inr (2, [.int v_a1_columns, .int v_a1_rows, .int v_a1_fade, .int v_a1_laws, .int v_a1_nightHours, .int v_a1_nightTimes, .ref q_a1_ground, .ref q_a1_windows, .ref q_a1_lawParts])), (q_a1_ground, .inl (cI, 36, .inl v_a1_ground)), (q_a1_windows, .inl (cI, 6, .inl v_a1_windows)), (q_a1_lawParts, .inl (cI, 18, .inl v_a1_lawParts))] z.1 A) ([.ref q_t, .ref q_a1, .int x2, .int x3, .int x4, .int x5] : List Value).toArray s 0 0 A) (F0 m 16 ls []) := by
    intro n
    induction n with
    | zero =>
      intro x6_1 x7_2 x8_3 x9_4 x10_5 v_t_marks_6 hf
      cases hf
    | succ n ih_8 =>
      intro x6_1 x7_2 x8_3 x9_4 x10_5 v_t_marks_6 hf H locs ls hP hD hS hl
      rw [f_X8_follow_L16] at hf
      refine lv_iload hx hb dX8_follow_16 (lv_at hl 8 rfl) ?_
      refine lv_bipush (v := 60) hx hb dX8_follow_18 (by decide) ?_
      refine lv_icmp_gt (tgt := 141) hx hb dX8_follow_20 (by decide) (fun h_9 => ?_) (fun h_9 => ?_)
      · have hf := (if_pos h_9).symm.trans hf
        refine lv_bipush (v := 60) hx hb dX8_follow_141 (by decide) ?_
        cases hf
        exact rt_i hx hb hr hlocks hK hP hS dX8_follow_143
      · have hf := (if_neg h_9).symm.trans hf
        refine lv_aload_n hx hb dX8_follow_23 rfl (lv_at hl 1 rfl) ?_
        refine lv_iload hx hb dX8_follow_24 (lv_at hl 5 rfl) ?_
        refine lv_iload hx hb dX8_follow_26 (lv_at hl 4 rfl) ?_
        obtain ⟨z28_10, hz28_10, hf⟩ := bd_some hf
        refine cVi (rest := []) ⟨hx, hb, hml, hown, hts⟩ hE hK hP hD hS hA (c_X2_ahead l D cI cJ cZ en q_a1 q_a1_ground q_a1_windows q_a1_lawParts H.size v_a1_columns v_a1_rows v_a1_fade v_a1_laws v_a1_nightHours v_a1_nightTimes v_a1_ground v_a1_windows v_a1_lawParts x7_2 x6_1 hz28_10) (gv_X2_ahead w_593) hd_X2_ahead ⟨rfl, rfl⟩ ⟨by decide, by decide⟩ [3, 4, 5, 6] rfl rfl rfl 2 rfl rfl 3 rfl  hl rfl (Nat.le_of_ble_eq_true rfl) ⟨Nat.zero_le _, Nat.zero_le _⟩ dX8_follow_28 (fun H locs hP hD hS => ?_)
        have hP : va_P D vwCl [(q_t, .inr (8, [.ref q_t_marks, .ref q_t_lasting])), (q_t_marks, .inl (cI, 480, .inl v_t_marks_6)), (q_t_lasting, .inl (cI, 8, .inl v_t_lasting)), (q_a1, .inr (2, [.int v_a1_columns, .int v_a1_rows, .int v_a1_fade, .int v_a1_laws, .int v_a1_nightHours, .int v_a1_nightTimes, .ref q_a1_ground, .ref q_a1_windows, .ref q_a1_lawParts])), (q_a1_ground, .inl (cI, 36, .inl v_a1_ground)), (q_a1_windows, .inl (cI, 6, .inl v_a1_windows)), (q_a1_lawParts, .inl (cI, 18, .inl v_a1_lawParts))] H := hP
        have hD : va_D A [(q_t, .inr (8, [.ref q_t_marks, .ref q_t_lasting])), (q_t_marks, .inl (cI, 480, .inl v_t_marks_6)), (q_t_lasting, .inl (cI, 8, .inl v_t_lasting)), (q_a1, .inr (2, [.int v_a1_columns, .int v_a1_rows, .int v_a1_fade, .int v_a1_laws, .int v_a1_nightHours, .int v_a1_nightTimes, .ref q_a1_ground, .ref q_a1_windows, .ref q_a1_lawParts])), (q_a1_ground, .inl (cI, 36, .inl v_a1_ground)), (q_a1_windows, .inl (cI, 6, .inl v_a1_windows)), (q_a1_lawParts, .inl (cI, 18, .inl v_a1_lawParts))] := hD
        refine lv_istore (lv' := [(11, .int z28_10), (0, .ref q_t), (1, .ref q_a1), (2, .int x2), (5, .int x5), (6, .int x6_1), (7, .int x7_2), (8, .int x8_3), (9, .int x9_4), (10, .int x10_5)]) hx hb dX8_follow_31 hl (by decide) rfl (fun ls hl => ?_)
        refine lv_iconst (v := 0) hx hb dX8_follow_33 (by decide) ?_
        refine lv_istore (lv' := [(12, .int 0), (11, .int z28_10), (0, .ref q_t), (1, .ref q_a1), (2, .int x2), (5, .int x5), (6, .int x6_1), (7, .int x7_2), (8, .int x8_3), (9, .int x9_4), (10, .int x10_5)]) hx hb dX8_follow_34 hl (by decide) rfl (fun ls hl => ?_)
        refine lv_iload hx hb dX8_follow_36 (lv_at hl 1 rfl) ?_
        refine lv_iconst (v := (-1)) hx hb dX8_follow_38 (by decide) ?_
        refine lv_icmp_ne (tgt := 47) hx hb dX8_follow_39 (by decide) (fun h_11 => ?_) (fun h_11 => ?_)
        · have hf := (if_neg h_11).symm.trans hf
          refine lv_aload_n hx hb dX8_follow_47 rfl (lv_at hl 3 rfl) ?_
          refine lv_iload hx hb dX8_follow_48 (lv_at hl 1 rfl) ?_
          obtain ⟨z50_12, hz50_12, hf⟩ := bd_some hf
          refine cVi (rest := []) ⟨hx, hb, hml, hown, hts⟩ hE hK hP hD hS hA (c_X2_isRock l D cI cJ cZ en q_a1 q_a1_ground q_a1_windows q_a1_lawParts H.size v_a1_columns v_a1_rows v_a1_fade v_a1_laws v_a1_nightHours v_a1_nightTimes v_a1_ground v_a1_windows v_a1_lawParts z28_10 hz50_12) (gv_X2_isRock w_610) hd_X2_isRock ⟨rfl, rfl⟩ ⟨by decide, by decide⟩ [3, 4, 5, 6] rfl rfl rfl 2 rfl rfl 3 rfl  hl rfl (Nat.le_of_ble_eq_true rfl) ⟨Nat.zero_le _, Nat.zero_le _⟩ dX8_follow_50 (fun H locs hP hD hS => ?_)
          have hP : va_P D vwCl [(q_t, .inr (8, [.ref q_t_marks, .ref q_t_lasting])), (q_t_marks, .inl (cI, 480, .inl v_t_marks_6)), (q_t_lasting, .inl (cI, 8, .inl v_t_lasting)), (q_a1, .inr (2, [.int v_a1_columns, .int v_a1_rows, .int v_a1_fade, .int v_a1_laws, .int v_a1_nightHours, .int v_a1_nightTimes, .ref q_a1_ground, .ref q_a1_windows, .ref q_a1_lawParts])), (q_a1_ground, .inl (cI, 36, .inl v_a1_ground)), (q_a1_windows, .inl (cI, 6, .inl v_a1_windows)), (q_a1_lawParts, .inl (cI, 18, .inl v_a1_lawParts))] H := hP
          have hD : va_D A [(q_t, .inr (8, [.ref q_t_marks, .ref q_t_lasting])), (q_t_marks, .inl (cI, 480, .inl v_t_marks_6)), (q_t_lasting, .inl (cI, 8, .inl v_t_lasting)), (q_a1, .inr (2, [.int v_a1_columns, .int v_a1_rows, .int v_a1_fade, .int v_a1_laws, .int v_a1_nightHours, .int v_a1_nightTimes, .ref q_a1_ground, .ref q_a1_windows, .ref q_a1_lawParts])), (q_a1_ground, .inl (cI, 36, .inl v_a1_ground)), (q_a1_windows, .inl (cI, 6, .inl v_a1_windows)), (q_a1_lawParts, .inl (cI, 18, .inl v_a1_lawParts))] := hD
          have J108_18 : ∀ (x6_13 : Int32) (x7_14 : Int32) (x8_15 : Int32) (x9_16 : Int32) (x12_17 : Int32), f_X8_follow_J108 (f_X8_follow_L16 v_a1_columns v_a1_rows v_a1_fade v_a1_ground x2 x5 n) v_t_marks_6 x2 x6_13 x7_14 x8_15 x9_16 x10_5 x12_17 = some z → ∀ (H : Heap) (locs : List Loc) (ls : Array Slot), va_P D vwCl [(q_t, .inr (8, [.ref q_t_marks, .ref q_t_lasting])), (q_t_marks, .inl (cI, 480, .inl v_t_marks_6)), (q_t_lasting, .inl (cI, 8, .inl v_t_lasting)), (q_a1, .inr (2, [.int v_a1_columns, .int v_a1_rows, .int v_a1_fade, .int v_a1_laws, .int v_a1_nightHours, .int v_a1_nightTimes, .ref q_a1_ground, .ref q_a1_windows, .ref q_a1_lawParts])), (q_a1_ground, .inl (cI, 36, .inl v_a1_ground)), (q_a1_windows, .inl (cI, 6, .inl v_a1_windows)), (q_a1_lawParts, .inl (cI, 18, .inl v_a1_lawParts))] H → va_D A [(q_t, .inr (8, [.ref q_t_marks, .ref q_t_lasting])), (q_t_marks, .inl (cI, 480, .inl v_t_marks_6)), (q_t_lasting, .inl (cI, 8, .inl v_t_lasting)), (q_a1, .inr (2, [.int v_a1_columns, .int v_a1_rows, .int v_a1_fade, .int v_a1_laws, .int v_a1_nightHours, .int v_a1_nightTimes, .ref q_a1_ground, .ref q_a1_windows, .ref q_a1_lawParts])), (q_a1_ground, .inl (cI, 36, .inl v_a1_ground)), (q_a1_windows, .inl (cI, 6, .inl v_a1_windows)), (q_a1_lawParts, .inl (cI, 18, .inl v_a1_lawParts))] → va_S A s.heap H locs → lv_has ls 13 [(0, .ref q_t), (1, .ref q_a1), (2, .int x2), (5, .int x5), (6, .int x6_13), (7, .int x7_14), (8, .int x8_15), (9, .int x9_16), (10, .int x10_5), (12, .int x12_17)] → W p l e ({ frames := 3, cells := 0, slots := 0, locals := 67 } : Room) s m ([.ref q_t, .ref q_a1, .int x2, .int x3, .int x4, .int x5] : List Value).toArray below meth c H locs 0 0 (MQ below (QI D cI cJ cZ [(q_t, .inr (8, [.ref q_t_marks, .ref q_t_lasting])), (q_t_marks, .inl (cI, 480, .inl z.2)), (q_t_lasting, .inl (cI, 8, .inl v_t_lasting)), (q_a1, .inr (2, [.int v_a1_columns, .int v_a1_rows, .int v_a1_fade, .int v_a1_laws, .int v_a1_nightHours, .int v_a1_nightTimes, .ref q_a1_ground, .ref q_a1_windows, .ref q_a1_lawParts])), (q_a1_ground, .inl (cI, 36, .inl v_a1_ground)), (q_a1_windows, .inl (cI, 6, .inl v_a1_windows)), (q_a1_lawParts, .inl (cI, 18, .inl v_a1_lawParts))] z.1 A) ([.ref q_t, .ref q_a1, .int x2, .int x3, .int x4, .int x5] : List Value).toArray s 0 0 A) (F0 m 108 ls []) := by
            intro x6_13 x7_14 x8_15 x9_16 x12_17 hf H locs ls hP hD hS hl
            unfold f_X8_follow_J108 at hf
            refine lv_iload hx hb dX8_follow_108 (lv_at hl 6 rfl) ?_
            refine lv_iconst (v := 1) hx hb dX8_follow_110 (by decide) ?_
            refine lv_icmp_ge (tgt := 119) hx hb dX8_follow_111 (by decide) (fun h_19 => ?_) (fun h_19 => ?_)
            · have hf := (if_pos h_19).symm.trans hf
              refine lv_aload_n hx hb dX8_follow_119 rfl (lv_at hl 0 rfl) ?_
              refine va_get (D := D) (ci := 8) (v := .ref q_t_marks) (C := RX8) (T := TX8) (N := 2) hx hb hts inX8 hown hK hP 0 rfl rfl 0 (by decide) (hts _ w_239) (fun _ h9 => h9) rfl dX8_follow_120 ?_
              refine lv_iload_n hx hb dX8_follow_123 rfl (lv_at hl 2 rfl) ?_
              refine lv_bipush (v := 60) hx hb dX8_follow_124 (by decide) ?_
              refine lv_imul hx hb dX8_follow_126 ?_
              refine lv_iload hx hb dX8_follow_127 (lv_at hl 8 rfl) ?_
              refine lv_iadd hx hb dX8_follow_129 ?_
              refine lv_iconst (v := 1) hx hb dX8_follow_130 (by decide) ?_
              refine lv_isub hx hb dX8_follow_131 ?_
              refine lv_iload hx hb dX8_follow_132 (lv_at hl 9 rfl) ?_
              obtain ⟨hin, hf⟩ := gd_some hf
              refine va_iast hx hb hK hP hD hS 1 0 rfl rfl hin dX8_follow_134 (fun H locs hP hD hS => ?_)
              have hP : va_P D vwCl [(q_t, .inr (8, [.ref q_t_marks, .ref q_t_lasting])), (q_t_marks, .inl (cI, 480, .inl (upd v_t_marks_6 (Int32.toNatClampNeg (((x2 * 60) + x10_5) - 1)) x12_17))), (q_t_lasting, .inl (cI, 8, .inl v_t_lasting)), (q_a1, .inr (2, [.int v_a1_columns, .int v_a1_rows, .int v_a1_fade, .int v_a1_laws, .int v_a1_nightHours, .int v_a1_nightTimes, .ref q_a1_ground, .ref q_a1_windows, .ref q_a1_lawParts])), (q_a1_ground, .inl (cI, 36, .inl v_a1_ground)), (q_a1_windows, .inl (cI, 6, .inl v_a1_windows)), (q_a1_lawParts, .inl (cI, 18, .inl v_a1_lawParts))] H := hP
              have hD : va_D A [(q_t, .inr (8, [.ref q_t_marks, .ref q_t_lasting])), (q_t_marks, .inl (cI, 480, .inl (upd v_t_marks_6 (Int32.toNatClampNeg (((x2 * 60) + x10_5) - 1)) x12_17))), (q_t_lasting, .inl (cI, 8, .inl v_t_lasting)), (q_a1, .inr (2, [.int v_a1_columns, .int v_a1_rows, .int v_a1_fade, .int v_a1_laws, .int v_a1_nightHours, .int v_a1_nightTimes, .ref q_a1_ground, .ref q_a1_windows, .ref q_a1_lawParts])), (q_a1_ground, .inl (cI, 36, .inl v_a1_ground)), (q_a1_windows, .inl (cI, 6, .inl v_a1_windows)), (q_a1_lawParts, .inl (cI, 18, .inl v_a1_lawParts))] := hD
              refine lv_iinc (v := (x10_5 + 1)) (lv' := [(10, .int (x10_5 + 1)), (0, .ref q_t), (1, .ref q_a1), (2, .int x2), (5, .int x5), (6, .int x6_13), (7, .int x7_14), (8, .int x8_15), (9, .int x9_16), (12, .int x12_17)]) hx hb dX8_follow_135 hl (k := 8) rfl rfl (by decide) rfl (fun ls hl => ?_)
              refine lv_goto (tgt := 16) hx hb dX8_follow_138 (by decide) ?_
              exact ih_8 x6_13 x7_14 x8_15 x9_16 (x10_5 + 1) (upd v_t_marks_6 (Int32.toNatClampNeg (((x2 * 60) + x10_5) - 1)) x12_17) hf _ _ _ hP hD hS (lv_sub hl [1, 2, 3, 4, 5, 6, 7, 8, 0] rfl)
            · have hf := (if_neg h_19).symm.trans hf
              unfold f_X8_follow_J114 at hf
              refine lv_iload hx hb dX8_follow_114 (lv_at hl 8 rfl) ?_
              refine lv_iconst (v := 1) hx hb dX8_follow_116 (by decide) ?_
              refine lv_isub hx hb dX8_follow_117 ?_
              cases hf
              exact rt_i hx hb hr hlocks hK hP hS dX8_follow_118
          refine lv_if_eq (tgt := 84) hx hb dX8_follow_53 (by decide) (fun h_20 => ?_) (fun h_20 => ?_)
          · have hf := (if_pos h_20).symm.trans hf
            refine lv_iload hx hb dX8_follow_84 (lv_at hl 1 rfl) ?_
            refine lv_istore (lv' := [(7, .int z28_10), (12, .int 0), (11, .int z28_10), (0, .ref q_t), (1, .ref q_a1), (2, .int x2), (5, .int x5), (6, .int x6_1), (8, .int x8_3), (9, .int x9_4), (10, .int x10_5)]) hx hb dX8_follow_86 hl (by decide) rfl (fun ls hl => ?_)
            refine lv_iload hx hb dX8_follow_88 (lv_at hl 8 rfl) ?_
            refine lv_aload_n hx hb dX8_follow_90 rfl (lv_at hl 4 rfl) ?_
            refine va_get (D := D) (ci := 2) (v := .int v_a1_fade) (C := RX2) (T := TX2) (N := 9) hx hb hts inX2 hown hK hP 3 rfl rfl 2 (by decide) (hts _ w_140) (fun _ h9 => h9) rfl dX8_follow_91 ?_
            refine lv_isub hx hb dX8_follow_94 ?_
            refine lv_istore (lv' := [(8, .int (x8_3 - v_a1_fade)), (7, .int z28_10), (12, .int 0), (11, .int z28_10), (0, .ref q_t), (1, .ref q_a1), (2, .int x2), (5, .int x5), (6, .int x6_1), (9, .int x9_4), (10, .int x10_5)]) hx hb dX8_follow_95 hl (by decide) rfl (fun ls hl => ?_)
            refine lv_iload hx hb dX8_follow_97 (lv_at hl 1 rfl) ?_
            refine lv_iload hx hb dX8_follow_99 (lv_at hl 0 rfl) ?_
            refine lv_iload hx hb dX8_follow_101 (lv_at hl 9 rfl) ?_
            obtain ⟨z103_21, hz103_21, hf⟩ := bd_some hf
            refine cSi (rest := []) ⟨hx, hb, hml, hown, hts⟩ hE hK hP hD hS hA (c_X8_soundFrom l D cI cJ cZ en  H.size z28_10 (x8_3 - v_a1_fade) x9_4 hz103_21) (gs_X8_soundFrom w_624) hd_X8_soundFrom ⟨rfl, rfl⟩ ⟨by decide, by decide⟩ [] rfl rfl rfl  hl rfl (Nat.le_of_ble_eq_true rfl) ⟨Nat.zero_le _, Nat.zero_le _⟩ dX8_follow_103 (fun H locs hP hD hS => ?_)
            have hP : va_P D vwCl [(q_t, .inr (8, [.ref q_t_marks, .ref q_t_lasting])), (q_t_marks, .inl (cI, 480, .inl v_t_marks_6)), (q_t_lasting, .inl (cI, 8, .inl v_t_lasting)), (q_a1, .inr (2, [.int v_a1_columns, .int v_a1_rows, .int v_a1_fade, .int v_a1_laws, .int v_a1_nightHours, .int v_a1_nightTimes, .ref q_a1_ground, .ref q_a1_windows, .ref q_a1_lawParts])), (q_a1_ground, .inl (cI, 36, .inl v_a1_ground)), (q_a1_windows, .inl (cI, 6, .inl v_a1_windows)), (q_a1_lawParts, .inl (cI, 18, .inl v_a1_lawParts))] H := hP
            have hD : va_D A [(q_t, .inr (8, [.ref q_t_marks, .ref q_t_lasting])), (q_t_marks, .inl (cI, 480, .inl v_t_marks_6)), (q_t_lasting, .inl (cI, 8, .inl v_t_lasting)), (q_a1, .inr (2, [.int v_a1_columns, .int v_a1_rows, .int v_a1_fade, .int v_a1_laws, .int v_a1_nightHours, .int v_a1_nightTimes, .ref q_a1_ground, .ref q_a1_windows, .ref q_a1_lawParts])), (q_a1_ground, .inl (cI, 36, .inl v_a1_ground)), (q_a1_windows, .inl (cI, 6, .inl v_a1_windows)), (q_a1_lawParts, .inl (cI, 18, .inl v_a1_lawParts))] := hD
            refine lv_istore (lv' := [(12, .int z103_21), (8, .int (x8_3 - v_a1_fade)), (7, .int z28_10), (11, .int z28_10), (0, .ref q_t), (1, .ref q_a1), (2, .int x2), (5, .int x5), (6, .int x6_1), (9, .int x9_4), (10, .int x10_5)]) hx hb dX8_follow_106 hl (by decide) rfl (fun ls hl => ?_)
            exact J108_18 x6_1 z28_10 (x8_3 - v_a1_fade) x9_4 z103_21 hf _ _ _ hP hD hS (lv_sub hl [4, 5, 6, 7, 8, 2, 1, 9, 10, 0] rfl)
          · have hf := (if_neg h_20).symm.trans hf
            refine lv_aload_n hx hb dX8_follow_56 rfl (lv_at hl 3 rfl) ?_
            refine lv_iload hx hb dX8_follow_57 (lv_at hl 1 rfl) ?_
            refine lv_iload hx hb dX8_follow_59 (lv_at hl 8 rfl) ?_
            refine lv_iload hx hb dX8_follow_61 (lv_at hl 5 rfl) ?_
            obtain ⟨z63_22, hz63_22, hf⟩ := bd_some hf
            refine cVi (rest := []) ⟨hx, hb, hml, hown, hts⟩ hE hK hP hD hS hA (c_X2_loudThrownBack l D cI cJ cZ en q_a1 q_a1_ground q_a1_windows q_a1_lawParts H.size v_a1_columns v_a1_rows v_a1_fade v_a1_laws v_a1_nightHours v_a1_nightTimes v_a1_ground v_a1_windows v_a1_lawParts z28_10 x8_3 x5 hz63_22) (gv_X2_loudThrownBack w_611) hd_X2_loudThrownBack ⟨rfl, rfl⟩ ⟨by decide, by decide⟩ [3, 4, 5, 6] rfl rfl rfl 2 rfl rfl 3 rfl  hl rfl (Nat.le_of_ble_eq_true rfl) ⟨Nat.zero_le _, Nat.zero_le _⟩ dX8_follow_63 (fun H locs hP hD hS => ?_)
            have hP : va_P D vwCl [(q_t, .inr (8, [.ref q_t_marks, .ref q_t_lasting])), (q_t_marks, .inl (cI, 480, .inl v_t_marks_6)), (q_t_lasting, .inl (cI, 8, .inl v_t_lasting)), (q_a1, .inr (2, [.int v_a1_columns, .int v_a1_rows, .int v_a1_fade, .int v_a1_laws, .int v_a1_nightHours, .int v_a1_nightTimes, .ref q_a1_ground, .ref q_a1_windows, .ref q_a1_lawParts])), (q_a1_ground, .inl (cI, 36, .inl v_a1_ground)), (q_a1_windows, .inl (cI, 6, .inl v_a1_windows)), (q_a1_lawParts, .inl (cI, 18, .inl v_a1_lawParts))] H := hP
            have hD : va_D A [(q_t, .inr (8, [.ref q_t_marks, .ref q_t_lasting])), (q_t_marks, .inl (cI, 480, .inl v_t_marks_6)), (q_t_lasting, .inl (cI, 8, .inl v_t_lasting)), (q_a1, .inr (2, [.int v_a1_columns, .int v_a1_rows, .int v_a1_fade, .int v_a1_laws, .int v_a1_nightHours, .int v_a1_nightTimes, .ref q_a1_ground, .ref q_a1_windows, .ref q_a1_lawParts])), (q_a1_ground, .inl (cI, 36, .inl v_a1_ground)), (q_a1_windows, .inl (cI, 6, .inl v_a1_windows)), (q_a1_lawParts, .inl (cI, 18, .inl v_a1_lawParts))] := hD
            refine lv_istore (lv' := [(8, .int z63_22), (12, .int 0), (11, .int z28_10), (0, .ref q_t), (1, .ref q_a1), (2, .int x2), (5, .int x5), (6, .int x6_1), (7, .int x7_2), (9, .int x9_4), (10, .int x10_5)]) hx hb dX8_follow_66 hl (by decide) rfl (fun ls hl => ?_)
            refine lv_aload_n hx hb dX8_follow_68 rfl (lv_at hl 4 rfl) ?_
            refine lv_iload hx hb dX8_follow_69 (lv_at hl 8 rfl) ?_
            refine lv_iload hx hb dX8_follow_71 (lv_at hl 7 rfl) ?_
            obtain ⟨z73_23, hz73_23, hf⟩ := bd_some hf
            refine cVi (rest := []) ⟨hx, hb, hml, hown, hts⟩ hE hK hP hD hS hA (c_X2_wayBack l D cI cJ cZ en q_a1 q_a1_ground q_a1_windows q_a1_lawParts H.size v_a1_columns v_a1_rows v_a1_fade v_a1_laws v_a1_nightHours v_a1_nightTimes v_a1_ground v_a1_windows v_a1_lawParts x7_2 x6_1 hz73_23) (gv_X2_wayBack w_619) hd_X2_wayBack ⟨rfl, rfl⟩ ⟨by decide, by decide⟩ [3, 4, 5, 6] rfl rfl rfl 2 rfl rfl 3 rfl  hl rfl (Nat.le_of_ble_eq_true rfl) ⟨Nat.zero_le _, Nat.zero_le _⟩ dX8_follow_73 (fun H locs hP hD hS => ?_)
            have hP : va_P D vwCl [(q_t, .inr (8, [.ref q_t_marks, .ref q_t_lasting])), (q_t_marks, .inl (cI, 480, .inl v_t_marks_6)), (q_t_lasting, .inl (cI, 8, .inl v_t_lasting)), (q_a1, .inr (2, [.int v_a1_columns, .int v_a1_rows, .int v_a1_fade, .int v_a1_laws, .int v_a1_nightHours, .int v_a1_nightTimes, .ref q_a1_ground, .ref q_a1_windows, .ref q_a1_lawParts])), (q_a1_ground, .inl (cI, 36, .inl v_a1_ground)), (q_a1_windows, .inl (cI, 6, .inl v_a1_windows)), (q_a1_lawParts, .inl (cI, 18, .inl v_a1_lawParts))] H := hP
            have hD : va_D A [(q_t, .inr (8, [.ref q_t_marks, .ref q_t_lasting])), (q_t_marks, .inl (cI, 480, .inl v_t_marks_6)), (q_t_lasting, .inl (cI, 8, .inl v_t_lasting)), (q_a1, .inr (2, [.int v_a1_columns, .int v_a1_rows, .int v_a1_fade, .int v_a1_laws, .int v_a1_nightHours, .int v_a1_nightTimes, .ref q_a1_ground, .ref q_a1_windows, .ref q_a1_lawParts])), (q_a1_ground, .inl (cI, 36, .inl v_a1_ground)), (q_a1_windows, .inl (cI, 6, .inl v_a1_windows)), (q_a1_lawParts, .inl (cI, 18, .inl v_a1_lawParts))] := hD
            refine lv_istore (lv' := [(6, .int z73_23), (8, .int z63_22), (12, .int 0), (11, .int z28_10), (0, .ref q_t), (1, .ref q_a1), (2, .int x2), (5, .int x5), (7, .int x7_2), (9, .int x9_4), (10, .int x10_5)]) hx hb dX8_follow_76 hl (by decide) rfl (fun ls hl => ?_)
            refine lv_iinc (v := (x9_4 + 1)) (lv' := [(9, .int (x9_4 + 1)), (6, .int z73_23), (8, .int z63_22), (12, .int 0), (11, .int z28_10), (0, .ref q_t), (1, .ref q_a1), (2, .int x2), (5, .int x5), (7, .int x7_2), (10, .int x10_5)]) hx hb dX8_follow_78 hl (k := 9) rfl rfl (by decide) rfl (fun ls hl => ?_)
            refine lv_goto (tgt := 108) hx hb dX8_follow_81 (by decide) ?_
            exact J108_18 z73_23 x7_2 z63_22 (x9_4 + 1) 0 hf _ _ _ hP hD hS (lv_sub hl [5, 6, 7, 8, 1, 9, 2, 0, 10, 3] rfl)
        · have hf := (if_pos h_11).symm.trans hf
          unfold f_X8_follow_J42 at hf
          refine lv_iload hx hb dX8_follow_42 (lv_at hl 10 rfl) ?_
          refine lv_iconst (v := 1) hx hb dX8_follow_44 (by decide) ?_
          refine lv_isub hx hb dX8_follow_45 ?_
          cases hf
          exact rt_i hx hb hr hlocks hK hP hS dX8_follow_46
  exact L16_7 FU x2 x3 x4 0 1 v_t_marks hf _ _ _ hP hD hS (lv_sub hl [5, 6, 7, 10, 4, 3, 2, 1, 0] rfl)

def f_X8_spread_L3 (v_a1_columns : Int32) (v_a1_rows : Int32) (v_a1_fade : Int32) (v_a1_ground : Nat → Int32) (x2 : Int32) (x3 : Int32) (x4 : Int32) : Nat → (Int32) → (Nat → Int32) → (Nat → Int32) → Option ((Nat → Int32) × (Nat → Int32))
  | 0, _, _, _ => none
  | n + 1, x5, v_t_marks, v_t_lasting => (if 8 ≤ x5 then (some (v_t_marks, v_t_lasting)) else (f_X8_follow v_t_marks v_a1_columns v_a1_rows v_a1_fade v_a1_ground x5 x2 x3 x4).bind (fun z24 => gd (ib x5 8) ((f_X8_spread_L3 v_a1_columns v_a1_rows v_a1_fade v_a1_ground x2 x3 x4 n (x5 + 1) z24.2 (upd v_t_lasting (Int32.toNatClampNeg x5) z24.1)))))
def f_X8_spread (v_t_marks : Nat → Int32) (v_t_lasting : Nat → Int32) (v_a1_columns : Int32) (v_a1_rows : Int32) (v_a1_fade : Int32) (v_a1_ground : Nat → Int32) (x2 : Int32) (x3 : Int32) (x4 : Int32) : Option ((Nat → Int32) × (Nat → Int32)) :=
  (f_X8_spread_L3 v_a1_columns v_a1_rows v_a1_fade v_a1_ground x2 x3 x4 FU 0 v_t_marks v_t_lasting)
theorem gv_X8_spread {own : String} {idx : Nat} (h : Cond.methodLink own idx yX8_spread ∈ lw_g) : GoodIn lw_g (wsV own idx RX8 yX8_spread (Cond.code yX8_spread cX8_spread 6 none :: lw_g)) := gV h w_586 w_587 w_64 w_588
theorem hd_X8_spread : yX8_spread.cls = RX8 ∧ yX8_spread.cls ≠ "java/lang/invoke/MethodHandle" ∧ yX8_spread.cls ≠ "java/lang/invoke/VarHandle" ∧ (parseMethodDescriptor yX8_spread.desc).map (fun d => d.parameters.length) = some 4 := by decide +kernel
set_option maxHeartbeats 4000000 in
set_option maxRecDepth 100000 in
theorem c_X8_spread (l : Launch) (D : va_G) (cI cJ cZ : ClassId) (en : EnT) (q_t q_t_marks q_t_lasting q_a1 q_a1_ground q_a1_windows q_a1_lawParts : Nat) (sz : Nat) (v_t_marks : Nat → Int32) (v_t_lasting : Nat → Int32) (v_a1_columns : Int32) (v_a1_rows : Int32) (v_a1_fade : Int32) (v_a1_laws : Int32) (v_a1_nightHours : Int32) (v_a1_nightTimes : Int32) (v_a1_ground : Nat → Int32) (v_a1_windows : Nat → Int32) (v_a1_lawParts : Nat → Int32) (x2 : Int32) (x3 : Int32) (x4 : Int32) {z : (Nat → Int32) × (Nat → Int32)} (hf : f_X8_spread v_t_marks v_t_lasting v_a1_columns v_a1_rows v_a1_fade v_a1_ground x2 x3 x4 = some z) : Met l yX8_spread (Cond.code yX8_spread cX8_spread 6 none :: lw_g) ({ frames := 4, cells := 0, slots := 0, locals := 99 } : Room) (PC D cI cJ cZ en ([.ref q_t, .ref q_a1, .int x2, .int x3, .int x4] : List Value) [(q_t, .inr (8, [.ref q_t_marks, .ref q_t_lasting])), (q_t_marks, .inl (cI, 480, .inl v_t_marks)), (q_t_lasting, .inl (cI, 8, .inl v_t_lasting)), (q_a1, .inr (2, [.int v_a1_columns, .int v_a1_rows, .int v_a1_fade, .int v_a1_laws, .int v_a1_nightHours, .int v_a1_nightTimes, .ref q_a1_ground, .ref q_a1_windows, .ref q_a1_lawParts])), (q_a1_ground, .inl (cI, 36, .inl v_a1_ground)), (q_a1_windows, .inl (cI, 6, .inl v_a1_windows)), (q_a1_lawParts, .inl (cI, 18, .inl v_a1_lawParts))] sz) (QV D cI cJ cZ [(q_t, .inr (8, [.ref q_t_marks, .ref q_t_lasting])), (q_t_marks, .inl (cI, 480, .inl z.1)), (q_t_lasting, .inl (cI, 8, .inl z.2)), (q_a1, .inr (2, [.int v_a1_columns, .int v_a1_rows, .int v_a1_fade, .int v_a1_laws, .int v_a1_nightHours, .int v_a1_nightTimes, .ref q_a1_ground, .ref q_a1_windows, .ref q_a1_lawParts])), (q_a1_ground, .inl (cI, 36, .inl v_a1_ground)), (q_a1_windows, .inl (cI, 6, .inl v_a1_windows)), (q_a1_lawParts, .inl (cI, 18, .inl v_a1_lawParts))] (va_A [(q_t, .inr (8, [.ref q_t_marks, .ref q_t_lasting])), (q_t_marks, .inl (cI, 480, .inl v_t_marks)), (q_t_lasting, .inl (cI, 8, .inl v_t_lasting)), (q_a1, .inr (2, [.int v_a1_columns, .int v_a1_rows, .int v_a1_fade, .int v_a1_laws, .int v_a1_nightHours, .int v_a1_nightTimes, .ref q_a1_ground, .ref q_a1_windows, .ref q_a1_lawParts])), (q_a1_ground, .inl (cI, 36, .inl v_a1_ground)), (q_a1_windows, .inl (cI, 6, .inl v_a1_windows)), (q_a1_lawParts, .inl (cI, 18, .inl v_a1_lawParts))] sz)) 0 0 (va_A [(q_t, .inr (8, [.ref q_t_marks, .ref q_t_lasting])), (q_t_marks, .inl (cI, 480, .inl v_t_marks)), (q_t_lasting, .inl (cI, 8, .inl v_t_lasting)), (q_a1, .inr (2, [.int v_a1_columns, .int v_a1_rows, .int v_a1_fade, .int v_a1_laws, .int v_a1_nightHours, .int v_a1_nightTimes, .ref q_a1_ground, .ref q_a1_windows, .ref q_a1_lawParts])), (q_a1_ground, .inl (cI, 36, .inl v_a1_ground)), (q_a1_windows, .inl (cI, 6, .inl v_a1_windows)), (q_a1_lawParts, .inl (cI, 18, .inl v_a1_lawParts))] sz) := by
  refine mk_met (Qc := fun A => (QV D cI cJ cZ [(q_t, .inr (8, [.ref q_t_marks, .ref q_t_lasting])), (q_t_marks, .inl (cI, 480, .inl z.1)), (q_t_lasting, .inl (cI, 8, .inl z.2)), (q_a1, .inr (2, [.int v_a1_columns, .int v_a1_rows, .int v_a1_fade, .int v_a1_laws, .int v_a1_nightHours, .int v_a1_nightTimes, .ref q_a1_ground, .ref q_a1_windows, .ref q_a1_lawParts])), (q_a1_ground, .inl (cI, 36, .inl v_a1_ground)), (q_a1_windows, .inl (cI, 6, .inl v_a1_windows)), (q_a1_lawParts, .inl (cI, 18, .inl v_a1_lawParts))] A)) RX8 (by decide) rfl (Nat.le_of_ble_eq_true rfl) ?_
  intro p e s m below meth c ls A hx hb hr hml hown hts hlocks hA hK hE hl hD H locs hP hS
  have hl : lv_has ls 6 [(0, .ref q_t), (1, .ref q_a1), (2, .int x2), (3, .int x3), (4, .int x4)] := hl
  unfold f_X8_spread at hf
  refine lv_iconst (v := 0) hx hb dX8_spread_0 (by decide) ?_
  refine lv_istore (lv' := [(5, .int 0), (0, .ref q_t), (1, .ref q_a1), (2, .int x2), (3, .int x3), (4, .int x4)]) hx hb dX8_spread_1 hl (by decide) rfl (fun ls hl => ?_)
  have L3_4 : ∀ (n : Nat) (x5_1 : Int32) (v_t_marks_2 : Nat → Int32) (v_t_lasting_3 : Nat → Int32), f_X8_spread_L3 v_a1_columns v_a1_rows v_a1_fade v_a1_ground x2 x3 x4 n x5_1 v_t_marks_2 v_t_lasting_3 = some z → ∀ (H : Heap) (locs : List Loc) (ls : Array Slot), va_P D vwCl [(q_t, .inr (8, [.ref q_t_marks, .ref q_t_lasting])), (q_t_marks, .inl (cI, 480, .inl v_t_marks_2)), (q_t_lasting, .inl (cI, 8, .inl v_t_lasting_3)), (q_a1, .inr (2, [.int v_a1_columns, .int v_a1_rows, .int v_a1_fade, .int v_a1_laws, .int v_a1_nightHours, .int v_a1_nightTimes, .ref q_a1_ground, .ref q_a1_windows, .ref q_a1_lawParts])), (q_a1_ground, .inl (cI, 36, .inl v_a1_ground)), (q_a1_windows, .inl (cI, 6, .inl v_a1_windows)), (q_a1_lawParts, .inl (cI, 18, .inl v_a1_lawParts))] H → va_D A [(q_t, .inr (8, [.ref q_t_marks, .ref q_t_lasting])), (q_t_marks, .inl (cI, 480, .inl v_t_marks_2)), (q_t_lasting, .inl (cI, 8, .inl v_t_lasting_3)), (q_a1, .inr (2, [.int v_a1_columns, .int v_a1_rows, .int v_a1_fade, .int v_a1_laws, .int v_a1_nightHours, .int v_a1_nightTimes, .ref q_a1_ground, .ref q_a1_windows, .ref q_a1_lawParts])), (q_a1_ground, .inl (cI, 36, .inl v_a1_ground)), (q_a1_windows, .inl (cI, 6, .inl v_a1_windows)), (q_a1_lawParts, .inl (cI, 18, .inl v_a1_lawParts))] → va_S A s.heap H locs → lv_has ls 6 [(0, .ref q_t), (1, .ref q_a1), (2, .int x2), (3, .int x3), (4, .int x4), (5, .int x5_1)] → W p l e ({ frames := 4, cells := 0, slots := 0, locals := 99 } : Room) s m ([.ref q_t, .ref q_a1, .int x2, .int x3, .int x4] : List Value).toArray below meth c H locs 0 0 (MQ below (QV D cI cJ cZ [(q_t, .inr (8, [.ref q_t_marks, .ref q_t_lasting])), (q_t_marks, .inl (cI, 480, .inl z.1)), (q_t_lasting, .inl (cI, 8, .inl z.2)), (q_a1, .inr (2, [.int v_a1_columns, .int v_a1_rows, .int v_a1_fade, .int v_a1_laws, .int v_a1_nightHours, .int v_a1_nightTimes, .ref q_a1_ground, .ref q_a1_windows, .ref q_a1_lawParts])), (q_a1_ground, .inl (cI, 36, .inl v_a1_ground)), (q_a1_windows, .inl (cI, 6, .inl v_a1_windows)), (q_a1_lawParts, .inl (cI, 18, .inl v_a1_lawParts))] A) ([.ref q_t, .ref q_a1, .int x2, .int x3, .int x4] : List Value).toArray s 0 0 A) (F0 m 3 ls []) := by
    intro n
    induction n with
    | zero =>
      intro x5_1 v_t_marks_2 v_t_lasting_3 hf
      cases hf
    | succ n ih_5 =>
      intro x5_1 v_t_marks_2 v_t_lasting_3 hf H locs ls hP hD hS hl
      rw [f_X8_spread_L3] at hf
      refine lv_iload hx hb dX8_spread_3 (lv_at hl 5 rfl) ?_
      refine lv_bipush (v := 8) hx hb dX8_spread_5 (by decide) ?_
      refine lv_icmp_ge (tgt := 34) hx hb dX8_spread_7 (by decide) (fun h_6 => ?_) (fun h_6 => ?_)
      · have hf := (if_pos h_6).symm.trans hf
        cases hf
        exact rt_v hx hb hr hlocks hK hP hS dX8_spread_34
      · have hf := (if_neg h_6).symm.trans hf
        refine lv_aload_n hx hb dX8_spread_10 rfl (lv_at hl 0 rfl) ?_
        refine va_get (D := D) (ci := 8) (v := .ref q_t_lasting) (C := RX8) (T := TX8) (N := 2) hx hb hts inX8 hown hK hP 0 rfl rfl 1 (by decide) (hts _ w_240) (fun _ h9 => h9) rfl dX8_spread_11 ?_
        refine lv_iload hx hb dX8_spread_14 (lv_at hl 5 rfl) ?_
        refine lv_aload_n hx hb dX8_spread_16 rfl (lv_at hl 0 rfl) ?_
        refine lv_aload_n hx hb dX8_spread_17 rfl (lv_at hl 1 rfl) ?_
        refine lv_iload hx hb dX8_spread_18 (lv_at hl 5 rfl) ?_
        refine lv_iload_n hx hb dX8_spread_20 rfl (lv_at hl 2 rfl) ?_
        refine lv_iload_n hx hb dX8_spread_21 rfl (lv_at hl 3 rfl) ?_
        refine lv_iload hx hb dX8_spread_22 (lv_at hl 4 rfl) ?_
        obtain ⟨z24_7, hz24_7, hf⟩ := bd_some hf
        refine cVi (rest := [.int x5_1, .ref q_t_lasting]) ⟨hx, hb, hml, hown, hts⟩ hE hK hP hD hS hA (c_X8_follow l D cI cJ cZ en q_t q_t_marks q_t_lasting q_a1 q_a1_ground q_a1_windows q_a1_lawParts H.size v_t_marks_2 v_t_lasting_3 v_a1_columns v_a1_rows v_a1_fade v_a1_laws v_a1_nightHours v_a1_nightTimes v_a1_ground v_a1_windows v_a1_lawParts x5_1 x2 x3 x4 hz24_7) (gv_X8_follow w_589) hd_X8_follow ⟨rfl, rfl⟩ ⟨by decide, by decide⟩ [0, 1, 2, 3, 4, 5, 6] rfl rfl rfl 8 rfl rfl 0 rfl  hl rfl (Nat.le_of_ble_eq_true rfl) ⟨Nat.zero_le _, Nat.zero_le _⟩ dX8_spread_24 (fun H locs hP hD hS => ?_)
        have hP : va_P D vwCl [(q_t, .inr (8, [.ref q_t_marks, .ref q_t_lasting])), (q_t_marks, .inl (cI, 480, .inl z24_7.2)), (q_t_lasting, .inl (cI, 8, .inl v_t_lasting_3)), (q_a1, .inr (2, [.int v_a1_columns, .int v_a1_rows, .int v_a1_fade, .int v_a1_laws, .int v_a1_nightHours, .int v_a1_nightTimes, .ref q_a1_ground, .ref q_a1_windows, .ref q_a1_lawParts])), (q_a1_ground, .inl (cI, 36, .inl v_a1_ground)), (q_a1_windows, .inl (cI, 6, .inl v_a1_windows)), (q_a1_lawParts, .inl (cI, 18, .inl v_a1_lawParts))] H := hP
        have hD : va_D A [(q_t, .inr (8, [.ref q_t_marks, .ref q_t_lasting])), (q_t_marks, .inl (cI, 480, .inl z24_7.2)), (q_t_lasting, .inl (cI, 8, .inl v_t_lasting_3)), (q_a1, .inr (2, [.int v_a1_columns, .int v_a1_rows, .int v_a1_fade, .int v_a1_laws, .int v_a1_nightHours, .int v_a1_nightTimes, .ref q_a1_ground, .ref q_a1_windows, .ref q_a1_lawParts])), (q_a1_ground, .inl (cI, 36, .inl v_a1_ground)), (q_a1_windows, .inl (cI, 6, .inl v_a1_windows)), (q_a1_lawParts, .inl (cI, 18, .inl v_a1_lawParts))] := hD
        obtain ⟨hin, hf⟩ := gd_some hf
        refine va_iast hx hb hK hP hD hS 2 0 rfl rfl hin dX8_spread_27 (fun H locs hP hD hS => ?_)
        have hP : va_P D vwCl [(q_t, .inr (8, [.ref q_t_marks, .ref q_t_lasting])), (q_t_marks, .inl (cI, 480, .inl z24_7.2)), (q_t_lasting, .inl (cI, 8, .inl (upd v_t_lasting_3 (Int32.toNatClampNeg x5_1) z24_7.1))), (q_a1, .inr (2, [.int v_a1_columns, .int v_a1_rows, .int v_a1_fade, .int v_a1_laws, .int v_a1_nightHours, .int v_a1_nightTimes, .ref q_a1_ground, .ref q_a1_windows, .ref q_a1_lawParts])), (q_a1_ground, .inl (cI, 36, .inl v_a1_ground)), (q_a1_windows, .inl (cI, 6, .inl v_a1_windows)), (q_a1_lawParts, .inl (cI, 18, .inl v_a1_lawParts))] H := hP
        have hD : va_D A [(q_t, .inr (8, [.ref q_t_marks, .ref q_t_lasting])), (q_t_marks, .inl (cI, 480, .inl z24_7.2)), (q_t_lasting, .inl (cI, 8, .inl (upd v_t_lasting_3 (Int32.toNatClampNeg x5_1) z24_7.1))), (q_a1, .inr (2, [.int v_a1_columns, .int v_a1_rows, .int v_a1_fade, .int v_a1_laws, .int v_a1_nightHours, .int v_a1_nightTimes, .ref q_a1_ground, .ref q_a1_windows, .ref q_a1_lawParts])), (q_a1_ground, .inl (cI, 36, .inl v_a1_ground)), (q_a1_windows, .inl (cI, 6, .inl v_a1_windows)), (q_a1_lawParts, .inl (cI, 18, .inl v_a1_lawParts))] := hD
        refine lv_iinc (v := (x5_1 + 1)) (lv' := [(5, .int (x5_1 + 1)), (0, .ref q_t), (1, .ref q_a1), (2, .int x2), (3, .int x3), (4, .int x4)]) hx hb dX8_spread_28 hl (k := 5) rfl rfl (by decide) rfl (fun ls hl => ?_)
        refine lv_goto (tgt := 3) hx hb dX8_spread_31 (by decide) ?_
        exact ih_5 (x5_1 + 1) z24_7.2 (upd v_t_lasting_3 (Int32.toNatClampNeg x5_1) z24_7.1) hf _ _ _ hP hD hS (lv_sub hl [1, 2, 3, 4, 5, 0] rfl)
  exact L3_4 FU 0 v_t_marks v_t_lasting hf _ _ _ hP hD hS (lv_sub hl [1, 2, 3, 4, 5, 0] rfl)

def f_X8_comingTo_J64 (rc5 : (Int32) → (Int32) → Option (Int32)) (x3 : Int32) (x4 : Int32) : Option (Int32) :=
  (rc5 x3 (x4 + 1))
def f_X8_comingTo_J58 (rc15 : (Int32) → (Int32) → Option (Int32)) (x3 : Int32) (x5 : Int32) : Option (Int32) :=
  (rc15 x3 (x5 + 1))
def f_X8_comingTo_L15 (rc5 : (Int32) → (Int32) → Option (Int32)) (v_t_marks : Nat → Int32) (v_t_lasting : Nat → Int32) (x1 : Int32) (x2 : Int32) (x4 : Int32) : Nat → (Int32) → (Int32) → Option (Int32)
  | 0, _, _ => none
  | n + 1, x3, x5 => gd (ib x4 8) ((if (v_t_lasting (Int32.toNatClampNeg x4)) < x5 then (f_X8_comingTo_J64 rc5 x3 x4) else (f_X8_soundOf v_t_marks v_t_lasting x4 x5).bind (fun z32 => (f_X8_cellOf z32).bind (fun z39 => (if z39 = x1 then (f_X8_thrownOf z32).bind (fun z48 => (if z48 < x2 then (f_X8_comingTo_J58 (f_X8_comingTo_L15 rc5 v_t_marks v_t_lasting x1 x2 x4 n) x3 x5) else (f_X8_comingTo_J58 (f_X8_comingTo_L15 rc5 v_t_marks v_t_lasting x1 x2 x4 n) (x3 + 1) x5))) else (f_X8_comingTo_J58 (f_X8_comingTo_L15 rc5 v_t_marks v_t_lasting x1 x2 x4 n) x3 x5))))))
def f_X8_comingTo_L5 (v_t_marks : Nat → Int32) (v_t_lasting : Nat → Int32) (x1 : Int32) (x2 : Int32) : Nat → (Int32) → (Int32) → Option (Int32)
  | 0, _, _ => none
  | n + 1, x3, x4 => (if 8 ≤ x4 then (some x3) else (f_X8_comingTo_L15 (f_X8_comingTo_L5 v_t_marks v_t_lasting x1 x2 n) v_t_marks v_t_lasting x1 x2 x4 FU x3 1))
def f_X8_comingTo (v_t_marks : Nat → Int32) (v_t_lasting : Nat → Int32) (x1 : Int32) (x2 : Int32) : Option (Int32) :=
  (f_X8_comingTo_L5 v_t_marks v_t_lasting x1 x2 FU 0 0)
theorem gv_X8_comingTo {own : String} {idx : Nat} (h : Cond.methodLink own idx yX8_comingTo ∈ lw_g) : GoodIn lw_g (wsV own idx RX8 yX8_comingTo (Cond.code yX8_comingTo cX8_comingTo 7 (some .int) :: lw_g)) := gV h w_679 w_680 w_64 w_681
theorem hd_X8_comingTo : yX8_comingTo.cls = RX8 ∧ yX8_comingTo.cls ≠ "java/lang/invoke/MethodHandle" ∧ yX8_comingTo.cls ≠ "java/lang/invoke/VarHandle" ∧ (parseMethodDescriptor yX8_comingTo.desc).map (fun d => d.parameters.length) = some 2 := by decide +kernel
set_option maxHeartbeats 4000000 in
set_option maxRecDepth 100000 in
theorem c_X8_comingTo (l : Launch) (D : va_G) (cI cJ cZ : ClassId) (en : EnT) (q_t q_t_marks q_t_lasting : Nat) (sz : Nat) (v_t_marks : Nat → Int32) (v_t_lasting : Nat → Int32) (x1 : Int32) (x2 : Int32) {z : Int32} (hf : f_X8_comingTo v_t_marks v_t_lasting x1 x2 = some z) : Met l yX8_comingTo (Cond.code yX8_comingTo cX8_comingTo 7 (some .int) :: lw_g) ({ frames := 1, cells := 0, slots := 0, locals := 22 } : Room) (PC D cI cJ cZ en ([.ref q_t, .int x1, .int x2] : List Value) [(q_t, .inr (8, [.ref q_t_marks, .ref q_t_lasting])), (q_t_marks, .inl (cI, 480, .inl v_t_marks)), (q_t_lasting, .inl (cI, 8, .inl v_t_lasting))] sz) (QI D cI cJ cZ [(q_t, .inr (8, [.ref q_t_marks, .ref q_t_lasting])), (q_t_marks, .inl (cI, 480, .inl v_t_marks)), (q_t_lasting, .inl (cI, 8, .inl v_t_lasting))] z (va_A [(q_t, .inr (8, [.ref q_t_marks, .ref q_t_lasting])), (q_t_marks, .inl (cI, 480, .inl v_t_marks)), (q_t_lasting, .inl (cI, 8, .inl v_t_lasting))] sz)) 0 0 (va_A [(q_t, .inr (8, [.ref q_t_marks, .ref q_t_lasting])), (q_t_marks, .inl (cI, 480, .inl v_t_marks)), (q_t_lasting, .inl (cI, 8, .inl v_t_lasting))] sz) := by
  refine mk_met (Qc := fun A => (QI D cI cJ cZ [(q_t, .inr (8, [.ref q_t_marks, .ref q_t_lasting])), (q_t_marks, .inl (cI, 480, .inl v_t_marks)), (q_t_lasting, .inl (cI, 8, .inl v_t_lasting))] z A)) RX8 (by decide) rfl (Nat.le_of_ble_eq_true rfl) ?_
  intro p e s m below meth c ls A hx hb hr hml hown hts hlocks hA hK hE hl hD H locs hP hS
  have hl : lv_has ls 7 [(0, .ref q_t), (1, .int x1), (2, .int x2)] := hl
  unfold f_X8_comingTo at hf
  refine lv_iconst (v := 0) hx hb dX8_comingTo_0 (by decide) ?_
  refine lv_istore_n (lv' := [(3, .int 0), (0, .ref q_t), (1, .int x1), (2, .int x2)]) hx hb dX8_comingTo_1 rfl hl (by decide) rfl (fun ls hl => ?_)
  refine lv_iconst (v := 0) hx hb dX8_comingTo_2 (by decide) ?_
  refine lv_istore (lv' := [(4, .int 0), (3, .int 0), (0, .ref q_t), (1, .int x1), (2, .int x2)]) hx hb dX8_comingTo_3 hl (by decide) rfl (fun ls hl => ?_)
  have L5_3 : ∀ (n : Nat) (x3_1 : Int32) (x4_2 : Int32), f_X8_comingTo_L5 v_t_marks v_t_lasting x1 x2 n x3_1 x4_2 = some z → ∀ (H : Heap) (locs : List Loc) (ls : Array Slot), va_P D vwCl [(q_t, .inr (8, [.ref q_t_marks, .ref q_t_lasting])), (q_t_marks, .inl (cI, 480, .inl v_t_marks)), (q_t_lasting, .inl (cI, 8, .inl v_t_lasting))] H → va_D A [(q_t, .inr (8, [.ref q_t_marks, .ref q_t_lasting])), (q_t_marks, .inl (cI, 480, .inl v_t_marks)), (q_t_lasting, .inl (cI, 8, .inl v_t_lasting))] → va_S A s.heap H locs → lv_has ls 7 [(0, .ref q_t), (1, .int x1), (2, .int x2), (3, .int x3_1), (4, .int x4_2)] → W p l e ({ frames := 1, cells := 0, slots := 0, locals := 22 } : Room) s m ([.ref q_t, .int x1, .int x2] : List Value).toArray below meth c H locs 0 0 (MQ below (QI D cI cJ cZ [(q_t, .inr (8, [.ref q_t_marks, .ref q_t_lasting])), (q_t_marks, .inl (cI, 480, .inl v_t_marks)), (q_t_lasting, .inl (cI, 8, .inl v_t_lasting))] z A) ([.ref q_t, .int x1, .int x2] : List Value).toArray s 0 0 A) (F0 m 5 ls []) := by
    intro n
    induction n with
    | zero =>
      intro x3_1 x4_2 hf
      cases hf
    | succ n ih_4 =>
      intro x3_1 x4_2 hf H locs ls hP hD hS hl
      rw [f_X8_comingTo_L5] at hf
      refine lv_iload hx hb dX8_comingTo_5 (lv_at hl 4 rfl) ?_
      refine lv_bipush (v := 8) hx hb dX8_comingTo_7 (by decide) ?_
      refine lv_icmp_ge (tgt := 70) hx hb dX8_comingTo_9 (by decide) (fun h_5 => ?_) (fun h_5 => ?_)
      · have hf := (if_pos h_5).symm.trans hf
        refine lv_iload_n hx hb dX8_comingTo_70 rfl (lv_at hl 3 rfl) ?_
        cases hf
        exact rt_i hx hb hr hlocks hK hP hS dX8_comingTo_71
      · have hf := (if_neg h_5).symm.trans hf
        refine lv_iconst (v := 1) hx hb dX8_comingTo_12 (by decide) ?_
        refine lv_istore (lv' := [(5, .int 1), (0, .ref q_t), (1, .int x1), (2, .int x2), (3, .int x3_1), (4, .int x4_2)]) hx hb dX8_comingTo_13 hl (by decide) rfl (fun ls hl => ?_)
        have L15_8 : ∀ (n : Nat) (x3_6 : Int32) (x5_7 : Int32), f_X8_comingTo_L15 (f_X8_comingTo_L5 v_t_marks v_t_lasting x1 x2 n) v_t_marks v_t_lasting x1 x2 x4_2 n x3_6 x5_7 = some z → ∀ (H : Heap) (locs : List Loc) (ls : Array Slot), va_P D vwCl [(q_t, .inr (8, [.ref q_t_marks, .ref q_t_lasting])), (q_t_marks, .inl (cI, 480, .inl v_t_marks)), (q_t_lasting, .inl (cI, 8, .inl v_t_lasting))] H → va_D A [(q_t, .inr (8, [.ref q_t_marks, .ref q_t_lasting])), (q_t_marks, .inl (cI, 480, .inl v_t_marks)), (q_t_lasting, .inl (cI, 8, .inl v_t_lasting))] → va_S A s.heap H locs → lv_has ls 7 [(0, .ref q_t), (1, .int x1), (2, .int x2), (3, .int x3_6), (4, .int x4_2), (5, .int x5_7)] → W p l e ({ frames := 1, cells := 0, slots := 0, locals := 22 } : Room) s m ([.ref q_t, .int x1, .int x2] : List Value).toArray below meth c H locs 0 0 (MQ below (QI D cI cJ cZ [(q_t, .inr (8, [.ref q_t_marks, .ref q_t_lasting])), (q_t_marks, .inl (cI, 480, .inl v_t_marks)), (q_t_lasting, .inl (cI, 8, .inl v_t_lasting))] z A) ([.ref q_t, .int x1, .int x2] : List Value).toArray s 0 0 A) (F0 m 15 ls []) := by
          intro n
          induction n with
          | zero =>
            intro x3_6 x5_7 hf
            cases hf
          | succ n ih_9 =>
            intro x3_6 x5_7 hf H locs ls hP hD hS hl
            rw [f_X8_comingTo_L15] at hf
            refine lv_iload hx hb dX8_comingTo_15 (lv_at hl 5 rfl) ?_
            refine lv_aload_n hx hb dX8_comingTo_17 rfl (lv_at hl 0 rfl) ?_
            refine va_get (D := D) (ci := 8) (v := .ref q_t_lasting) (C := RX8) (T := TX8) (N := 2) hx hb hts inX8 hown hK hP 0 rfl rfl 1 (by decide) (hts _ w_240) (fun _ h9 => h9) rfl dX8_comingTo_18 ?_
            refine lv_iload hx hb dX8_comingTo_21 (lv_at hl 4 rfl) ?_
            obtain ⟨hin, hf⟩ := gd_some hf
            refine va_iald hx hb hK hP 2 0 rfl rfl hin dX8_comingTo_23 ?_
            refine lv_icmp_gt (tgt := 64) hx hb dX8_comingTo_24 (by decide) (fun h_10 => ?_) (fun h_10 => ?_)
            · have hf := (if_pos h_10).symm.trans hf
              unfold f_X8_comingTo_J64 at hf
              refine lv_iinc (v := (x4_2 + 1)) (lv' := [(4, .int (x4_2 + 1)), (0, .ref q_t), (1, .int x1), (2, .int x2), (3, .int x3_6), (5, .int x5_7)]) hx hb dX8_comingTo_64 hl (k := 4) rfl rfl (by decide) rfl (fun ls hl => ?_)
              refine lv_goto (tgt := 5) hx hb dX8_comingTo_67 (by decide) ?_
              exact ih_4 x3_6 (x4_2 + 1) hf _ _ _ hP hD hS (lv_sub hl [1, 2, 3, 4, 0] rfl)
            · have hf := (if_neg h_10).symm.trans hf
              refine lv_aload_n hx hb dX8_comingTo_27 rfl (lv_at hl 0 rfl) ?_
              refine lv_iload hx hb dX8_comingTo_28 (lv_at hl 4 rfl) ?_
              refine lv_iload hx hb dX8_comingTo_30 (lv_at hl 5 rfl) ?_
              obtain ⟨z32_11, hz32_11, hf⟩ := bd_some hf
              refine cVi (rest := []) ⟨hx, hb, hml, hown, hts⟩ hE hK hP hD hS hA (c_X8_soundOf l D cI cJ cZ en q_t q_t_marks q_t_lasting H.size v_t_marks v_t_lasting x4_2 x5_7 hz32_11) (gv_X8_soundOf w_682) hd_X8_soundOf ⟨rfl, rfl⟩ ⟨by decide, by decide⟩ [0, 1, 2] rfl rfl rfl 8 rfl rfl 0 rfl  hl rfl (Nat.le_of_ble_eq_true rfl) ⟨Nat.zero_le _, Nat.zero_le _⟩ dX8_comingTo_32 (fun H locs hP hD hS => ?_)
              have hP : va_P D vwCl [(q_t, .inr (8, [.ref q_t_marks, .ref q_t_lasting])), (q_t_marks, .inl (cI, 480, .inl v_t_marks)), (q_t_lasting, .inl (cI, 8, .inl v_t_lasting))] H := hP
              have hD : va_D A [(q_t, .inr (8, [.ref q_t_marks, .ref q_t_lasting])), (q_t_marks, .inl (cI, 480, .inl v_t_marks)), (q_t_lasting, .inl (cI, 8, .inl v_t_lasting))] := hD
              refine lv_istore (lv' := [(6, .int z32_11), (0, .ref q_t), (1, .int x1), (2, .int x2), (3, .int x3_6), (4, .int x4_2), (5, .int x5_7)]) hx hb dX8_comingTo_35 hl (by decide) rfl (fun ls hl => ?_)
              refine lv_iload hx hb dX8_comingTo_37 (lv_at hl 0 rfl) ?_
              obtain ⟨z39_12, hz39_12, hf⟩ := bd_some hf
              refine cSi (rest := []) ⟨hx, hb, hml, hown, hts⟩ hE hK hP hD hS hA (c_X8_cellOf l D cI cJ cZ en  H.size z32_11 hz39_12) (gs_X8_cellOf w_683) hd_X8_cellOf ⟨rfl, rfl⟩ ⟨by decide, by decide⟩ [] rfl rfl rfl  hl rfl (Nat.le_of_ble_eq_true rfl) ⟨Nat.zero_le _, Nat.zero_le _⟩ dX8_comingTo_39 (fun H locs hP hD hS => ?_)
              have hP : va_P D vwCl [(q_t, .inr (8, [.ref q_t_marks, .ref q_t_lasting])), (q_t_marks, .inl (cI, 480, .inl v_t_marks)), (q_t_lasting, .inl (cI, 8, .inl v_t_lasting))] H := hP
              have hD : va_D A [(q_t, .inr (8, [.ref q_t_marks, .ref q_t_lasting])), (q_t_marks, .inl (cI, 480, .inl v_t_marks)), (q_t_lasting, .inl (cI, 8, .inl v_t_lasting))] := hD
              refine lv_iload_n hx hb dX8_comingTo_42 rfl (lv_at hl 2 rfl) ?_
              have J58_14 : ∀ (x3_13 : Int32), f_X8_comingTo_J58 (f_X8_comingTo_L15 (f_X8_comingTo_L5 v_t_marks v_t_lasting x1 x2 n) v_t_marks v_t_lasting x1 x2 x4_2 n) x3_13 x5_7 = some z → ∀ (H : Heap) (locs : List Loc) (ls : Array Slot), va_P D vwCl [(q_t, .inr (8, [.ref q_t_marks, .ref q_t_lasting])), (q_t_marks, .inl (cI, 480, .inl v_t_marks)), (q_t_lasting, .inl (cI, 8, .inl v_t_lasting))] H → va_D A [(q_t, .inr (8, [.ref q_t_marks, .ref q_t_lasting])), (q_t_marks, .inl (cI, 480, .inl v_t_marks)), (q_t_lasting, .inl (cI, 8, .inl v_t_lasting))] → va_S A s.heap H locs → lv_has ls 7 [(0, .ref q_t), (1, .int x1), (2, .int x2), (3, .int x3_13), (4, .int x4_2), (5, .int x5_7)] → W p l e ({ frames := 1, cells := 0, slots := 0, locals := 22 } : Room) s m ([.ref q_t, .int x1, .int x2] : List Value).toArray below meth c H locs 0 0 (MQ below (QI D cI cJ cZ [(q_t, .inr (8, [.ref q_t_marks, .ref q_t_lasting])), (q_t_marks, .inl (cI, 480, .inl v_t_marks)), (q_t_lasting, .inl (cI, 8, .inl v_t_lasting))] z A) ([.ref q_t, .int x1, .int x2] : List Value).toArray s 0 0 A) (F0 m 58 ls []) := by
                intro x3_13 hf H locs ls hP hD hS hl
                unfold f_X8_comingTo_J58 at hf
                refine lv_iinc (v := (x5_7 + 1)) (lv' := [(5, .int (x5_7 + 1)), (0, .ref q_t), (1, .int x1), (2, .int x2), (3, .int x3_13), (4, .int x4_2)]) hx hb dX8_comingTo_58 hl (k := 5) rfl rfl (by decide) rfl (fun ls hl => ?_)
                refine lv_goto (tgt := 15) hx hb dX8_comingTo_61 (by decide) ?_
                exact ih_9 x3_13 (x5_7 + 1) hf _ _ _ hP hD hS (lv_sub hl [1, 2, 3, 4, 5, 0] rfl)
              refine lv_icmp_ne (tgt := 58) hx hb dX8_comingTo_43 (by decide) (fun h_15 => ?_) (fun h_15 => ?_)
              · have hf := (if_neg h_15).symm.trans hf
                exact J58_14 x3_6 hf _ _ _ hP hD hS (lv_sub hl [1, 2, 3, 4, 5, 6] rfl)
              · have hf := (if_pos h_15).symm.trans hf
                refine lv_iload hx hb dX8_comingTo_46 (lv_at hl 0 rfl) ?_
                obtain ⟨z48_16, hz48_16, hf⟩ := bd_some hf
                refine cSi (rest := []) ⟨hx, hb, hml, hown, hts⟩ hE hK hP hD hS hA (c_X8_thrownOf l D cI cJ cZ en  H.size z32_11 hz48_16) (gs_X8_thrownOf w_684) hd_X8_thrownOf ⟨rfl, rfl⟩ ⟨by decide, by decide⟩ [] rfl rfl rfl  hl rfl (Nat.le_of_ble_eq_true rfl) ⟨Nat.zero_le _, Nat.zero_le _⟩ dX8_comingTo_48 (fun H locs hP hD hS => ?_)
                have hP : va_P D vwCl [(q_t, .inr (8, [.ref q_t_marks, .ref q_t_lasting])), (q_t_marks, .inl (cI, 480, .inl v_t_marks)), (q_t_lasting, .inl (cI, 8, .inl v_t_lasting))] H := hP
                have hD : va_D A [(q_t, .inr (8, [.ref q_t_marks, .ref q_t_lasting])), (q_t_marks, .inl (cI, 480, .inl v_t_marks)), (q_t_lasting, .inl (cI, 8, .inl v_t_lasting))] := hD
                refine lv_iload_n hx hb dX8_comingTo_51 rfl (lv_at hl 3 rfl) ?_
                refine lv_icmp_lt (tgt := 58) hx hb dX8_comingTo_52 (by decide) (fun h_17 => ?_) (fun h_17 => ?_)
                · have hf := (if_pos h_17).symm.trans hf
                  exact J58_14 x3_6 hf _ _ _ hP hD hS (lv_sub hl [1, 2, 3, 4, 5, 6] rfl)
                · have hf := (if_neg h_17).symm.trans hf
                  refine lv_iinc (v := (x3_6 + 1)) (lv' := [(3, .int (x3_6 + 1)), (6, .int z32_11), (0, .ref q_t), (1, .int x1), (2, .int x2), (4, .int x4_2), (5, .int x5_7)]) hx hb dX8_comingTo_55 hl (k := 4) rfl rfl (by decide) rfl (fun ls hl => ?_)
                  exact J58_14 (x3_6 + 1) hf _ _ _ hP hD hS (lv_sub hl [2, 3, 4, 0, 5, 6] rfl)
        exact L15_8 FU x3_1 1 hf _ _ _ hP hD hS (lv_sub hl [1, 2, 3, 4, 5, 0] rfl)
  exact L5_3 FU 0 0 hf _ _ _ hP hD hS (lv_sub hl [2, 3, 4, 1, 0] rfl)

def f_X8_firstTickAt_J37 (rc2 : (Int32) → Option (Int32)) (x2 : Int32) : Option (Int32) :=
  (rc2 (x2 + 1))
def f_X8_firstTickAt_L10 (rc2 : (Int32) → Option (Int32)) (v_t_marks : Nat → Int32) (v_t_lasting : Nat → Int32) (x1 : Int32) (x2 : Int32) : Nat → (Int32) → Option (Int32)
  | 0, _ => none
  | n + 1, x3 => (if 8 ≤ x3 then (f_X8_firstTickAt_J37 rc2 x2) else (f_X8_soundOf v_t_marks v_t_lasting x3 x2).bind (fun z19 => (f_X8_cellOf z19).bind (fun z22 => (if z22 = x1 then (some x2) else (f_X8_firstTickAt_L10 rc2 v_t_marks v_t_lasting x1 x2 n (x3 + 1))))))
def f_X8_firstTickAt_L2 (v_t_marks : Nat → Int32) (v_t_lasting : Nat → Int32) (x1 : Int32) : Nat → (Int32) → Option (Int32)
  | 0, _ => none
  | n + 1, x2 => (if 60 < x2 then (some (-1)) else (f_X8_firstTickAt_L10 (f_X8_firstTickAt_L2 v_t_marks v_t_lasting x1 n) v_t_marks v_t_lasting x1 x2 FU 0))
def f_X8_firstTickAt (v_t_marks : Nat → Int32) (v_t_lasting : Nat → Int32) (x1 : Int32) : Option (Int32) :=
  (f_X8_firstTickAt_L2 v_t_marks v_t_lasting x1 FU 1)
theorem gv_X8_firstTickAt {own : String} {idx : Nat} (h : Cond.methodLink own idx yX8_firstTickAt ∈ lw_g) : GoodIn lw_g (wsV own idx RX8 yX8_firstTickAt (Cond.code yX8_firstTickAt cX8_firstTickAt 4 (some .int) :: lw_g)) := gV h w_686 w_687 w_64 w_688
theorem hd_X8_firstTickAt : yX8_firstTickAt.cls = RX8 ∧ yX8_firstTickAt.cls ≠ "java/lang/invoke/MethodHandle" ∧ yX8_firstTickAt.cls ≠ "java/lang/invoke/VarHandle" ∧ (parseMethodDescriptor yX8_firstTickAt.desc).map (fun d => d.parameters.length) = some 1 := by decide +kernel
set_option maxHeartbeats 4000000 in
set_option maxRecDepth 100000 in
theorem c_X8_firstTickAt (l : Launch) (D : va_G) (cI cJ cZ : ClassId) (en : EnT) (q_t q_t_marks q_t_lasting : Nat) (sz : Nat) (v_t_marks : Nat → Int32) (v_t_lasting : Nat → Int32) (x1 : Int32) {z : Int32} (hf : f_X8_firstTickAt v_t_marks v_t_lasting x1 = some z) : Met l yX8_firstTickAt (Cond.code yX8_firstTickAt cX8_firstTickAt 4 (some .int) :: lw_g) ({ frames := 1, cells := 0, slots := 0, locals := 22 } : Room) (PC D cI cJ cZ en ([.ref q_t, .int x1] : List Value) [(q_t, .inr (8, [.ref q_t_marks, .ref q_t_lasting])), (q_t_marks, .inl (cI, 480, .inl v_t_marks)), (q_t_lasting, .inl (cI, 8, .inl v_t_lasting))] sz) (QI D cI cJ cZ [(q_t, .inr (8, [.ref q_t_marks, .ref q_t_lasting])), (q_t_marks, .inl (cI, 480, .inl v_t_marks)), (q_t_lasting, .inl (cI, 8, .inl v_t_lasting))] z (va_A [(q_t, .inr (8, [.ref q_t_marks, .ref q_t_lasting])), (q_t_marks, .inl (cI, 480, .inl v_t_marks)), (q_t_lasting, .inl (cI, 8, .inl v_t_lasting))] sz)) 0 0 (va_A [(q_t, .inr (8, [.ref q_t_marks, .ref q_t_lasting])), (q_t_marks, .inl (cI, 480, .inl v_t_marks)), (q_t_lasting, .inl (cI, 8, .inl v_t_lasting))] sz) := by
  refine mk_met (Qc := fun A => (QI D cI cJ cZ [(q_t, .inr (8, [.ref q_t_marks, .ref q_t_lasting])), (q_t_marks, .inl (cI, 480, .inl v_t_marks)), (q_t_lasting, .inl (cI, 8, .inl v_t_lasting))] z A)) RX8 (by decide) rfl (Nat.le_of_ble_eq_true rfl) ?_
  intro p e s m below meth c ls A hx hb hr hml hown hts hlocks hA hK hE hl hD H locs hP hS
  have hl : lv_has ls 4 [(0, .ref q_t), (1, .int x1)] := hl
  unfold f_X8_firstTickAt at hf
  refine lv_iconst (v := 1) hx hb dX8_firstTickAt_0 (by decide) ?_
  refine lv_istore_n (lv' := [(2, .int 1), (0, .ref q_t), (1, .int x1)]) hx hb dX8_firstTickAt_1 rfl hl (by decide) rfl (fun ls hl => ?_)
  have L2_2 : ∀ (n : Nat) (x2_1 : Int32), f_X8_firstTickAt_L2 v_t_marks v_t_lasting x1 n x2_1 = some z → ∀ (H : Heap) (locs : List Loc) (ls : Array Slot), va_P D vwCl [(q_t, .inr (8, [.ref q_t_marks, .ref q_t_lasting])), (q_t_marks, .inl (cI, 480, .inl v_t_marks)), (q_t_lasting, .inl (cI, 8, .inl v_t_lasting))] H → va_D A [(q_t, .inr (8, [.ref q_t_marks, .ref q_t_lasting])), (q_t_marks, .inl (cI, 480, .inl v_t_marks)), (q_t_lasting, .inl (cI, 8, .inl v_t_lasting))] → va_S A s.heap H locs → lv_has ls 4 [(0, .ref q_t), (1, .int x1), (2, .int x2_1)] → W p l e ({ frames := 1, cells := 0, slots := 0, locals := 22 } : Room) s m ([.ref q_t, .int x1] : List Value).toArray below meth c H locs 0 0 (MQ below (QI D cI cJ cZ [(q_t, .inr (8, [.ref q_t_marks, .ref q_t_lasting])), (q_t_marks, .inl (cI, 480, .inl v_t_marks)), (q_t_lasting, .inl (cI, 8, .inl v_t_lasting))] z A) ([.ref q_t, .int x1] : List Value).toArray s 0 0 A) (F0 m 2 ls []) := by
    intro n
    induction n with
    | zero =>
      intro x2_1 hf
      cases hf
    | succ n ih_3 =>
      intro x2_1 hf H locs ls hP hD hS hl
      rw [f_X8_firstTickAt_L2] at hf
      refine lv_iload_n hx hb dX8_firstTickAt_2 rfl (lv_at hl 2 rfl) ?_
      refine lv_bipush (v := 60) hx hb dX8_firstTickAt_3 (by decide) ?_
      refine lv_icmp_gt (tgt := 43) hx hb dX8_firstTickAt_5 (by decide) (fun h_4 => ?_) (fun h_4 => ?_)
      · have hf := (if_pos h_4).symm.trans hf
        refine lv_iconst (v := (-1)) hx hb dX8_firstTickAt_43 (by decide) ?_
        cases hf
        exact rt_i hx hb hr hlocks hK hP hS dX8_firstTickAt_44
      · have hf := (if_neg h_4).symm.trans hf
        refine lv_iconst (v := 0) hx hb dX8_firstTickAt_8 (by decide) ?_
        refine lv_istore_n (lv' := [(3, .int 0), (0, .ref q_t), (1, .int x1), (2, .int x2_1)]) hx hb dX8_firstTickAt_9 rfl hl (by decide) rfl (fun ls hl => ?_)
        have L10_6 : ∀ (n : Nat) (x3_5 : Int32), f_X8_firstTickAt_L10 (f_X8_firstTickAt_L2 v_t_marks v_t_lasting x1 n) v_t_marks v_t_lasting x1 x2_1 n x3_5 = some z → ∀ (H : Heap) (locs : List Loc) (ls : Array Slot), va_P D vwCl [(q_t, .inr (8, [.ref q_t_marks, .ref q_t_lasting])), (q_t_marks, .inl (cI, 480, .inl v_t_marks)), (q_t_lasting, .inl (cI, 8, .inl v_t_lasting))] H → va_D A [(q_t, .inr (8, [.ref q_t_marks, .ref q_t_lasting])), (q_t_marks, .inl (cI, 480, .inl v_t_marks)), (q_t_lasting, .inl (cI, 8, .inl v_t_lasting))] → va_S A s.heap H locs → lv_has ls 4 [(0, .ref q_t), (1, .int x1), (2, .int x2_1), (3, .int x3_5)] → W p l e ({ frames := 1, cells := 0, slots := 0, locals := 22 } : Room) s m ([.ref q_t, .int x1] : List Value).toArray below meth c H locs 0 0 (MQ below (QI D cI cJ cZ [(q_t, .inr (8, [.ref q_t_marks, .ref q_t_lasting])), (q_t_marks, .inl (cI, 480, .inl v_t_marks)), (q_t_lasting, .inl (cI, 8, .inl v_t_lasting))] z A) ([.ref q_t, .int x1] : List Value).toArray s 0 0 A) (F0 m 10 ls []) := by
          intro n
          induction n with
          | zero =>
            intro x3_5 hf
            cases hf
          | succ n ih_7 =>
            intro x3_5 hf H locs ls hP hD hS hl
            rw [f_X8_firstTickAt_L10] at hf
            refine lv_iload_n hx hb dX8_firstTickAt_10 rfl (lv_at hl 3 rfl) ?_
            refine lv_bipush (v := 8) hx hb dX8_firstTickAt_11 (by decide) ?_
            refine lv_icmp_ge (tgt := 37) hx hb dX8_firstTickAt_13 (by decide) (fun h_8 => ?_) (fun h_8 => ?_)
            · have hf := (if_pos h_8).symm.trans hf
              unfold f_X8_firstTickAt_J37 at hf
              refine lv_iinc (v := (x2_1 + 1)) (lv' := [(2, .int (x2_1 + 1)), (0, .ref q_t), (1, .int x1), (3, .int x3_5)]) hx hb dX8_firstTickAt_37 hl (k := 2) rfl rfl (by decide) rfl (fun ls hl => ?_)
              refine lv_goto (tgt := 2) hx hb dX8_firstTickAt_40 (by decide) ?_
              exact ih_3 (x2_1 + 1) hf _ _ _ hP hD hS (lv_sub hl [1, 2, 0] rfl)
            · have hf := (if_neg h_8).symm.trans hf
              refine lv_aload_n hx hb dX8_firstTickAt_16 rfl (lv_at hl 0 rfl) ?_
              refine lv_iload_n hx hb dX8_firstTickAt_17 rfl (lv_at hl 3 rfl) ?_
              refine lv_iload_n hx hb dX8_firstTickAt_18 rfl (lv_at hl 2 rfl) ?_
              obtain ⟨z19_9, hz19_9, hf⟩ := bd_some hf
              refine cVi (rest := []) ⟨hx, hb, hml, hown, hts⟩ hE hK hP hD hS hA (c_X8_soundOf l D cI cJ cZ en q_t q_t_marks q_t_lasting H.size v_t_marks v_t_lasting x3_5 x2_1 hz19_9) (gv_X8_soundOf w_682) hd_X8_soundOf ⟨rfl, rfl⟩ ⟨by decide, by decide⟩ [0, 1, 2] rfl rfl rfl 8 rfl rfl 0 rfl  hl rfl (Nat.le_of_ble_eq_true rfl) ⟨Nat.zero_le _, Nat.zero_le _⟩ dX8_firstTickAt_19 (fun H locs hP hD hS => ?_)
              have hP : va_P D vwCl [(q_t, .inr (8, [.ref q_t_marks, .ref q_t_lasting])), (q_t_marks, .inl (cI, 480, .inl v_t_marks)), (q_t_lasting, .inl (cI, 8, .inl v_t_lasting))] H := hP
              have hD : va_D A [(q_t, .inr (8, [.ref q_t_marks, .ref q_t_lasting])), (q_t_marks, .inl (cI, 480, .inl v_t_marks)), (q_t_lasting, .inl (cI, 8, .inl v_t_lasting))] := hD
              obtain ⟨z22_10, hz22_10, hf⟩ := bd_some hf
              refine cSi (rest := []) ⟨hx, hb, hml, hown, hts⟩ hE hK hP hD hS hA (c_X8_cellOf l D cI cJ cZ en  H.size z19_9 hz22_10) (gs_X8_cellOf w_683) hd_X8_cellOf ⟨rfl, rfl⟩ ⟨by decide, by decide⟩ [] rfl rfl rfl  hl rfl (Nat.le_of_ble_eq_true rfl) ⟨Nat.zero_le _, Nat.zero_le _⟩ dX8_firstTickAt_22 (fun H locs hP hD hS => ?_)
              have hP : va_P D vwCl [(q_t, .inr (8, [.ref q_t_marks, .ref q_t_lasting])), (q_t_marks, .inl (cI, 480, .inl v_t_marks)), (q_t_lasting, .inl (cI, 8, .inl v_t_lasting))] H := hP
              have hD : va_D A [(q_t, .inr (8, [.ref q_t_marks, .ref q_t_lasting])), (q_t_marks, .inl (cI, 480, .inl v_t_marks)), (q_t_lasting, .inl (cI, 8, .inl v_t_lasting))] := hD
              refine lv_iload_n hx hb dX8_firstTickAt_25 rfl (lv_at hl 1 rfl) ?_
              refine lv_icmp_ne (tgt := 31) hx hb dX8_firstTickAt_26 (by decide) (fun h_11 => ?_) (fun h_11 => ?_)
              · have hf := (if_neg h_11).symm.trans hf
                refine lv_iinc (v := (x3_5 + 1)) (lv' := [(3, .int (x3_5 + 1)), (0, .ref q_t), (1, .int x1), (2, .int x2_1)]) hx hb dX8_firstTickAt_31 hl (k := 3) rfl rfl (by decide) rfl (fun ls hl => ?_)
                refine lv_goto (tgt := 10) hx hb dX8_firstTickAt_34 (by decide) ?_
                exact ih_7 (x3_5 + 1) hf _ _ _ hP hD hS (lv_sub hl [1, 2, 3, 0] rfl)
              · have hf := (if_pos h_11).symm.trans hf
                refine lv_iload_n hx hb dX8_firstTickAt_29 rfl (lv_at hl 2 rfl) ?_
                cases hf
                exact rt_i hx hb hr hlocks hK hP hS dX8_firstTickAt_30
        exact L10_6 FU 0 hf _ _ _ hP hD hS (lv_sub hl [1, 2, 3, 0] rfl)
  exact L2_2 FU 1 hf _ _ _ hP hD hS (lv_sub hl [1, 2, 0] rfl)

def f_X8_greatestLoudAt_J58 (rc4 : (Int32) → (Int32) → Option (Int32)) (x2 : Int32) (x3 : Int32) : Option (Int32) :=
  (rc4 x2 (x3 + 1))
def f_X8_greatestLoudAt_J52 (rc13 : (Int32) → (Int32) → Option (Int32)) (x2 : Int32) (x4 : Int32) : Option (Int32) :=
  (rc13 x2 (x4 + 1))
def f_X8_greatestLoudAt_L13 (rc4 : (Int32) → (Int32) → Option (Int32)) (v_t_marks : Nat → Int32) (v_t_lasting : Nat → Int32) (x1 : Int32) (x3 : Int32) : Nat → (Int32) → (Int32) → Option (Int32)
  | 0, _, _ => none
  | n + 1, x2, x4 => gd (ib x3 8) ((if (v_t_lasting (Int32.toNatClampNeg x3)) < x4 then (f_X8_greatestLoudAt_J58 rc4 x2 x3) else (f_X8_soundOf v_t_marks v_t_lasting x3 x4).bind (fun z28 => (f_X8_cellOf z28).bind (fun z35 => (if z35 = x1 then (f_X8_loudOf z28).bind (fun z45 => (f_X8_greatestLoudAt_J52 (f_X8_greatestLoudAt_L13 rc4 v_t_marks v_t_lasting x1 x3 n) (if x2 < z45 then z45 else x2) x4)) else (f_X8_greatestLoudAt_J52 (f_X8_greatestLoudAt_L13 rc4 v_t_marks v_t_lasting x1 x3 n) x2 x4))))))
def f_X8_greatestLoudAt_L4 (v_t_marks : Nat → Int32) (v_t_lasting : Nat → Int32) (x1 : Int32) : Nat → (Int32) → (Int32) → Option (Int32)
  | 0, _, _ => none
  | n + 1, x2, x3 => (if 8 ≤ x3 then (some x2) else (f_X8_greatestLoudAt_L13 (f_X8_greatestLoudAt_L4 v_t_marks v_t_lasting x1 n) v_t_marks v_t_lasting x1 x3 FU x2 1))
def f_X8_greatestLoudAt (v_t_marks : Nat → Int32) (v_t_lasting : Nat → Int32) (x1 : Int32) : Option (Int32) :=
  (f_X8_greatestLoudAt_L4 v_t_marks v_t_lasting x1 FU (-1) 0)
theorem gv_X8_greatestLoudAt {own : String} {idx : Nat} (h : Cond.methodLink own idx yX8_greatestLoudAt ∈ lw_g) : GoodIn lw_g (wsV own idx RX8 yX8_greatestLoudAt (Cond.code yX8_greatestLoudAt cX8_greatestLoudAt 6 (some .int) :: lw_g)) := gV h w_690 w_691 w_64 w_692
theorem hd_X8_greatestLoudAt : yX8_greatestLoudAt.cls = RX8 ∧ yX8_greatestLoudAt.cls ≠ "java/lang/invoke/MethodHandle" ∧ yX8_greatestLoudAt.cls ≠ "java/lang/invoke/VarHandle" ∧ (parseMethodDescriptor yX8_greatestLoudAt.desc).map (fun d => d.parameters.length) = some 1 := by decide +kernel
set_option maxHeartbeats 4000000 in
set_option maxRecDepth 100000 in
theorem c_X8_greatestLoudAt (l : Launch) (D : va_G) (cI cJ cZ : ClassId) (en : EnT) (q_t q_t_marks q_t_lasting : Nat) (sz : Nat) (v_t_marks : Nat → Int32) (v_t_lasting : Nat → Int32) (x1 : Int32) {z : Int32} (hf : f_X8_greatestLoudAt v_t_marks v_t_lasting x1 = some z) : Met l yX8_greatestLoudAt (Cond.code yX8_greatestLoudAt cX8_greatestLoudAt 6 (some .int) :: lw_g) ({ frames := 1, cells := 0, slots := 0, locals := 22 } : Room) (PC D cI cJ cZ en ([.ref q_t, .int x1] : List Value) [(q_t, .inr (8, [.ref q_t_marks, .ref q_t_lasting])), (q_t_marks, .inl (cI, 480, .inl v_t_marks)), (q_t_lasting, .inl (cI, 8, .inl v_t_lasting))] sz) (QI D cI cJ cZ [(q_t, .inr (8, [.ref q_t_marks, .ref q_t_lasting])), (q_t_marks, .inl (cI, 480, .inl v_t_marks)), (q_t_lasting, .inl (cI, 8, .inl v_t_lasting))] z (va_A [(q_t, .inr (8, [.ref q_t_marks, .ref q_t_lasting])), (q_t_marks, .inl (cI, 480, .inl v_t_marks)), (q_t_lasting, .inl (cI, 8, .inl v_t_lasting))] sz)) 0 0 (va_A [(q_t, .inr (8, [.ref q_t_marks, .ref q_t_lasting])), (q_t_marks, .inl (cI, 480, .inl v_t_marks)), (q_t_lasting, .inl (cI, 8, .inl v_t_lasting))] sz) := by
  refine mk_met (Qc := fun A => (QI D cI cJ cZ [(q_t, .inr (8, [.ref q_t_marks, .ref q_t_lasting])), (q_t_marks, .inl (cI, 480, .inl v_t_marks)), (q_t_lasting, .inl (cI, 8, .inl v_t_lasting))] z A)) RX8 (by decide) rfl (Nat.le_of_ble_eq_true rfl) ?_
  intro p e s m below meth c ls A hx hb hr hml hown hts hlocks hA hK hE hl hD H locs hP hS
  have hl : lv_has ls 6 [(0, .ref q_t), (1, .int x1)] := hl
  unfold f_X8_greatestLoudAt at hf
  refine lv_iconst (v := (-1)) hx hb dX8_greatestLoudAt_0 (by decide) ?_
  refine lv_istore_n (lv' := [(2, .int (-1)), (0, .ref q_t), (1, .int x1)]) hx hb dX8_greatestLoudAt_1 rfl hl (by decide) rfl (fun ls hl => ?_)
  refine lv_iconst (v := 0) hx hb dX8_greatestLoudAt_2 (by decide) ?_
  refine lv_istore_n (lv' := [(3, .int 0), (2, .int (-1)), (0, .ref q_t), (1, .int x1)]) hx hb dX8_greatestLoudAt_3 rfl hl (by decide) rfl (fun ls hl => ?_)
  have L4_3 : ∀ (n : Nat) (x2_1 : Int32) (x3_2 : Int32), f_X8_greatestLoudAt_L4 v_t_marks v_t_lasting x1 n x2_1 x3_2 = some z → ∀ (H : Heap) (locs : List Loc) (ls : Array Slot), va_P D vwCl [(q_t, .inr (8, [.ref q_t_marks, .ref q_t_lasting])), (q_t_marks, .inl (cI, 480, .inl v_t_marks)), (q_t_lasting, .inl (cI, 8, .inl v_t_lasting))] H → va_D A [(q_t, .inr (8, [.ref q_t_marks, .ref q_t_lasting])), (q_t_marks, .inl (cI, 480, .inl v_t_marks)), (q_t_lasting, .inl (cI, 8, .inl v_t_lasting))] → va_S A s.heap H locs → lv_has ls 6 [(0, .ref q_t), (1, .int x1), (2, .int x2_1), (3, .int x3_2)] → W p l e ({ frames := 1, cells := 0, slots := 0, locals := 22 } : Room) s m ([.ref q_t, .int x1] : List Value).toArray below meth c H locs 0 0 (MQ below (QI D cI cJ cZ [(q_t, .inr (8, [.ref q_t_marks, .ref q_t_lasting])), (q_t_marks, .inl (cI, 480, .inl v_t_marks)), (q_t_lasting, .inl (cI, 8, .inl v_t_lasting))] z A) ([.ref q_t, .int x1] : List Value).toArray s 0 0 A) (F0 m 4 ls []) := by
    intro n
    induction n with
    | zero =>
      intro x2_1 x3_2 hf
      cases hf
    | succ n ih_4 =>
      intro x2_1 x3_2 hf H locs ls hP hD hS hl
      rw [f_X8_greatestLoudAt_L4] at hf
      refine lv_iload_n hx hb dX8_greatestLoudAt_4 rfl (lv_at hl 3 rfl) ?_
      refine lv_bipush (v := 8) hx hb dX8_greatestLoudAt_5 (by decide) ?_
      refine lv_icmp_ge (tgt := 64) hx hb dX8_greatestLoudAt_7 (by decide) (fun h_5 => ?_) (fun h_5 => ?_)
      · have hf := (if_pos h_5).symm.trans hf
        refine lv_iload_n hx hb dX8_greatestLoudAt_64 rfl (lv_at hl 2 rfl) ?_
        cases hf
        exact rt_i hx hb hr hlocks hK hP hS dX8_greatestLoudAt_65
      · have hf := (if_neg h_5).symm.trans hf
        refine lv_iconst (v := 1) hx hb dX8_greatestLoudAt_10 (by decide) ?_
        refine lv_istore (lv' := [(4, .int 1), (0, .ref q_t), (1, .int x1), (2, .int x2_1), (3, .int x3_2)]) hx hb dX8_greatestLoudAt_11 hl (by decide) rfl (fun ls hl => ?_)
        have L13_8 : ∀ (n : Nat) (x2_6 : Int32) (x4_7 : Int32), f_X8_greatestLoudAt_L13 (f_X8_greatestLoudAt_L4 v_t_marks v_t_lasting x1 n) v_t_marks v_t_lasting x1 x3_2 n x2_6 x4_7 = some z → ∀ (H : Heap) (locs : List Loc) (ls : Array Slot), va_P D vwCl [(q_t, .inr (8, [.ref q_t_marks, .ref q_t_lasting])), (q_t_marks, .inl (cI, 480, .inl v_t_marks)), (q_t_lasting, .inl (cI, 8, .inl v_t_lasting))] H → va_D A [(q_t, .inr (8, [.ref q_t_marks, .ref q_t_lasting])), (q_t_marks, .inl (cI, 480, .inl v_t_marks)), (q_t_lasting, .inl (cI, 8, .inl v_t_lasting))] → va_S A s.heap H locs → lv_has ls 6 [(0, .ref q_t), (1, .int x1), (2, .int x2_6), (3, .int x3_2), (4, .int x4_7)] → W p l e ({ frames := 1, cells := 0, slots := 0, locals := 22 } : Room) s m ([.ref q_t, .int x1] : List Value).toArray below meth c H locs 0 0 (MQ below (QI D cI cJ cZ [(q_t, .inr (8, [.ref q_t_marks, .ref q_t_lasting])), (q_t_marks, .inl (cI, 480, .inl v_t_marks)), (q_t_lasting, .inl (cI, 8, .inl v_t_lasting))] z A) ([.ref q_t, .int x1] : List Value).toArray s 0 0 A) (F0 m 13 ls []) := by
          intro n
          induction n with
          | zero =>
            intro x2_6 x4_7 hf
            cases hf
          | succ n ih_9 =>
            intro x2_6 x4_7 hf H locs ls hP hD hS hl
            rw [f_X8_greatestLoudAt_L13] at hf
            refine lv_iload hx hb dX8_greatestLoudAt_13 (lv_at hl 4 rfl) ?_
            refine lv_aload_n hx hb dX8_greatestLoudAt_15 rfl (lv_at hl 0 rfl) ?_
            refine va_get (D := D) (ci := 8) (v := .ref q_t_lasting) (C := RX8) (T := TX8) (N := 2) hx hb hts inX8 hown hK hP 0 rfl rfl 1 (by decide) (hts _ w_240) (fun _ h9 => h9) rfl dX8_greatestLoudAt_16 ?_
            refine lv_iload_n hx hb dX8_greatestLoudAt_19 rfl (lv_at hl 3 rfl) ?_
            obtain ⟨hin, hf⟩ := gd_some hf
            refine va_iald hx hb hK hP 2 0 rfl rfl hin dX8_greatestLoudAt_20 ?_
            refine lv_icmp_gt (tgt := 58) hx hb dX8_greatestLoudAt_21 (by decide) (fun h_10 => ?_) (fun h_10 => ?_)
            · have hf := (if_pos h_10).symm.trans hf
              unfold f_X8_greatestLoudAt_J58 at hf
              refine lv_iinc (v := (x3_2 + 1)) (lv' := [(3, .int (x3_2 + 1)), (0, .ref q_t), (1, .int x1), (2, .int x2_6), (4, .int x4_7)]) hx hb dX8_greatestLoudAt_58 hl (k := 3) rfl rfl (by decide) rfl (fun ls hl => ?_)
              refine lv_goto (tgt := 4) hx hb dX8_greatestLoudAt_61 (by decide) ?_
              exact ih_4 x2_6 (x3_2 + 1) hf _ _ _ hP hD hS (lv_sub hl [1, 2, 3, 0] rfl)
            · have hf := (if_neg h_10).symm.trans hf
              refine lv_aload_n hx hb dX8_greatestLoudAt_24 rfl (lv_at hl 0 rfl) ?_
              refine lv_iload_n hx hb dX8_greatestLoudAt_25 rfl (lv_at hl 3 rfl) ?_
              refine lv_iload hx hb dX8_greatestLoudAt_26 (lv_at hl 4 rfl) ?_
              obtain ⟨z28_11, hz28_11, hf⟩ := bd_some hf
              refine cVi (rest := []) ⟨hx, hb, hml, hown, hts⟩ hE hK hP hD hS hA (c_X8_soundOf l D cI cJ cZ en q_t q_t_marks q_t_lasting H.size v_t_marks v_t_lasting x3_2 x4_7 hz28_11) (gv_X8_soundOf w_682) hd_X8_soundOf ⟨rfl, rfl⟩ ⟨by decide, by decide⟩ [0, 1, 2] rfl rfl rfl 8 rfl rfl 0 rfl  hl rfl (Nat.le_of_ble_eq_true rfl) ⟨Nat.zero_le _, Nat.zero_le _⟩ dX8_greatestLoudAt_28 (fun H locs hP hD hS => ?_)
              have hP : va_P D vwCl [(q_t, .inr (8, [.ref q_t_marks, .ref q_t_lasting])), (q_t_marks, .inl (cI, 480, .inl v_t_marks)), (q_t_lasting, .inl (cI, 8, .inl v_t_lasting))] H := hP
              have hD : va_D A [(q_t, .inr (8, [.ref q_t_marks, .ref q_t_lasting])), (q_t_marks, .inl (cI, 480, .inl v_t_marks)), (q_t_lasting, .inl (cI, 8, .inl v_t_lasting))] := hD
              refine lv_istore (lv' := [(5, .int z28_11), (0, .ref q_t), (1, .int x1), (2, .int x2_6), (3, .int x3_2), (4, .int x4_7)]) hx hb dX8_greatestLoudAt_31 hl (by decide) rfl (fun ls hl => ?_)
              refine lv_iload hx hb dX8_greatestLoudAt_33 (lv_at hl 0 rfl) ?_
              obtain ⟨z35_12, hz35_12, hf⟩ := bd_some hf
              refine cSi (rest := []) ⟨hx, hb, hml, hown, hts⟩ hE hK hP hD hS hA (c_X8_cellOf l D cI cJ cZ en  H.size z28_11 hz35_12) (gs_X8_cellOf w_683) hd_X8_cellOf ⟨rfl, rfl⟩ ⟨by decide, by decide⟩ [] rfl rfl rfl  hl rfl (Nat.le_of_ble_eq_true rfl) ⟨Nat.zero_le _, Nat.zero_le _⟩ dX8_greatestLoudAt_35 (fun H locs hP hD hS => ?_)
              have hP : va_P D vwCl [(q_t, .inr (8, [.ref q_t_marks, .ref q_t_lasting])), (q_t_marks, .inl (cI, 480, .inl v_t_marks)), (q_t_lasting, .inl (cI, 8, .inl v_t_lasting))] H := hP
              have hD : va_D A [(q_t, .inr (8, [.ref q_t_marks, .ref q_t_lasting])), (q_t_marks, .inl (cI, 480, .inl v_t_marks)), (q_t_lasting, .inl (cI, 8, .inl v_t_lasting))] := hD
              refine lv_iload_n hx hb dX8_greatestLoudAt_38 rfl (lv_at hl 2 rfl) ?_
              have J52_14 : ∀ (x2_13 : Int32), f_X8_greatestLoudAt_J52 (f_X8_greatestLoudAt_L13 (f_X8_greatestLoudAt_L4 v_t_marks v_t_lasting x1 n) v_t_marks v_t_lasting x1 x3_2 n) x2_13 x4_7 = some z → ∀ (H : Heap) (locs : List Loc) (ls : Array Slot), va_P D vwCl [(q_t, .inr (8, [.ref q_t_marks, .ref q_t_lasting])), (q_t_marks, .inl (cI, 480, .inl v_t_marks)), (q_t_lasting, .inl (cI, 8, .inl v_t_lasting))] H → va_D A [(q_t, .inr (8, [.ref q_t_marks, .ref q_t_lasting])), (q_t_marks, .inl (cI, 480, .inl v_t_marks)), (q_t_lasting, .inl (cI, 8, .inl v_t_lasting))] → va_S A s.heap H locs → lv_has ls 6 [(0, .ref q_t), (1, .int x1), (2, .int x2_13), (3, .int x3_2), (4, .int x4_7)] → W p l e ({ frames := 1, cells := 0, slots := 0, locals := 22 } : Room) s m ([.ref q_t, .int x1] : List Value).toArray below meth c H locs 0 0 (MQ below (QI D cI cJ cZ [(q_t, .inr (8, [.ref q_t_marks, .ref q_t_lasting])), (q_t_marks, .inl (cI, 480, .inl v_t_marks)), (q_t_lasting, .inl (cI, 8, .inl v_t_lasting))] z A) ([.ref q_t, .int x1] : List Value).toArray s 0 0 A) (F0 m 52 ls []) := by
                intro x2_13 hf H locs ls hP hD hS hl
                unfold f_X8_greatestLoudAt_J52 at hf
                refine lv_iinc (v := (x4_7 + 1)) (lv' := [(4, .int (x4_7 + 1)), (0, .ref q_t), (1, .int x1), (2, .int x2_13), (3, .int x3_2)]) hx hb dX8_greatestLoudAt_52 hl (k := 4) rfl rfl (by decide) rfl (fun ls hl => ?_)
                refine lv_goto (tgt := 13) hx hb dX8_greatestLoudAt_55 (by decide) ?_
                exact ih_9 x2_13 (x4_7 + 1) hf _ _ _ hP hD hS (lv_sub hl [1, 2, 3, 4, 0] rfl)
              refine lv_icmp_ne (tgt := 52) hx hb dX8_greatestLoudAt_39 (by decide) (fun h_15 => ?_) (fun h_15 => ?_)
              · have hf := (if_neg h_15).symm.trans hf
                exact J52_14 x2_6 hf _ _ _ hP hD hS (lv_sub hl [1, 2, 3, 4, 5] rfl)
              · have hf := (if_pos h_15).symm.trans hf
                refine lv_iload_n hx hb dX8_greatestLoudAt_42 rfl (lv_at hl 3 rfl) ?_
                refine lv_iload hx hb dX8_greatestLoudAt_43 (lv_at hl 0 rfl) ?_
                obtain ⟨z45_16, hz45_16, hf⟩ := bd_some hf
                refine cSi (rest := [.int x2_6]) ⟨hx, hb, hml, hown, hts⟩ hE hK hP hD hS hA (c_X8_loudOf l D cI cJ cZ en  H.size z28_11 hz45_16) (gs_X8_loudOf w_693) hd_X8_loudOf ⟨rfl, rfl⟩ ⟨by decide, by decide⟩ [] rfl rfl rfl  hl rfl (Nat.le_of_ble_eq_true rfl) ⟨Nat.zero_le _, Nat.zero_le _⟩ dX8_greatestLoudAt_45 (fun H locs hP hD hS => ?_)
                have hP : va_P D vwCl [(q_t, .inr (8, [.ref q_t_marks, .ref q_t_lasting])), (q_t_marks, .inl (cI, 480, .inl v_t_marks)), (q_t_lasting, .inl (cI, 8, .inl v_t_lasting))] H := hP
                have hD : va_D A [(q_t, .inr (8, [.ref q_t_marks, .ref q_t_lasting])), (q_t_marks, .inl (cI, 480, .inl v_t_marks)), (q_t_lasting, .inl (cI, 8, .inl v_t_lasting))] := hD
                refine va_mmax hx hb (hml.trans hl.1.symm) hown (hts _ w_694) (hts _ w_523) (hts _ w_73) (hts _ w_524) (by decide) (Nat.le_of_ble_eq_true rfl) (Nat.zero_le _) (Nat.zero_le _) dX8_greatestLoudAt_48 ?_
                refine lv_istore_n (lv' := [(2, .int (if x2_6 < z45_16 then z45_16 else x2_6)), (5, .int z28_11), (0, .ref q_t), (1, .int x1), (3, .int x3_2), (4, .int x4_7)]) hx hb dX8_greatestLoudAt_51 rfl hl (by decide) rfl (fun ls hl => ?_)
                exact J52_14 (if x2_6 < z45_16 then z45_16 else x2_6) hf _ _ _ hP hD hS (lv_sub hl [2, 3, 0, 4, 5] rfl)
        exact L13_8 FU x2_1 1 hf _ _ _ hP hD hS (lv_sub hl [1, 2, 3, 4, 0] rfl)
  exact L4_3 FU (-1) 0 hf _ _ _ hP hD hS (lv_sub hl [2, 3, 1, 0] rfl)

def f_X8_howOften_J26 (rc5 : (Int32) → (Int32) → Option (Int32)) (x3 : Int32) (x4 : Int32) : Option (Int32) :=
  (rc5 x3 (x4 + 1))
def f_X8_howOften_L5 (v_t_marks : Nat → Int32) (v_t_lasting : Nat → Int32) (x1 : Int32) (x2 : Int32) : Nat → (Int32) → (Int32) → Option (Int32)
  | 0, _, _ => none
  | n + 1, x3, x4 => (if 8 ≤ x4 then (some x3) else (f_X8_soundOf v_t_marks v_t_lasting x4 x2).bind (fun z16 => (if z16 = x1 then (f_X8_howOften_J26 (f_X8_howOften_L5 v_t_marks v_t_lasting x1 x2 n) (x3 + 1) x4) else (f_X8_howOften_J26 (f_X8_howOften_L5 v_t_marks v_t_lasting x1 x2 n) x3 x4))))
def f_X8_howOften (v_t_marks : Nat → Int32) (v_t_lasting : Nat → Int32) (x1 : Int32) (x2 : Int32) : Option (Int32) :=
  (f_X8_howOften_L5 v_t_marks v_t_lasting x1 x2 FU 0 0)
theorem gv_X8_howOften {own : String} {idx : Nat} (h : Cond.methodLink own idx yX8_howOften ∈ lw_g) : GoodIn lw_g (wsV own idx RX8 yX8_howOften (Cond.code yX8_howOften cX8_howOften 5 (some .int) :: lw_g)) := gV h w_777 w_17 w_64 w_778
theorem hd_X8_howOften : yX8_howOften.cls = RX8 ∧ yX8_howOften.cls ≠ "java/lang/invoke/MethodHandle" ∧ yX8_howOften.cls ≠ "java/lang/invoke/VarHandle" ∧ (parseMethodDescriptor yX8_howOften.desc).map (fun d => d.parameters.length) = some 2 := by decide +kernel
set_option maxHeartbeats 4000000 in
set_option maxRecDepth 100000 in
theorem c_X8_howOften (l : Launch) (D : va_G) (cI cJ cZ : ClassId) (en : EnT) (q_t q_t_marks q_t_lasting : Nat) (sz : Nat) (v_t_marks : Nat → Int32) (v_t_lasting : Nat → Int32) (x1 : Int32) (x2 : Int32) {z : Int32} (hf : f_X8_howOften v_t_marks v_t_lasting x1 x2 = some z) : Met l yX8_howOften (Cond.code yX8_howOften cX8_howOften 5 (some .int) :: lw_g) ({ frames := 1, cells := 0, slots := 0, locals := 22 } : Room) (PC D cI cJ cZ en ([.ref q_t, .int x1, .int x2] : List Value) [(q_t, .inr (8, [.ref q_t_marks, .ref q_t_lasting])), (q_t_marks, .inl (cI, 480, .inl v_t_marks)), (q_t_lasting, .inl (cI, 8, .inl v_t_lasting))] sz) (QI D cI cJ cZ [(q_t, .inr (8, [.ref q_t_marks, .ref q_t_lasting])), (q_t_marks, .inl (cI, 480, .inl v_t_marks)), (q_t_lasting, .inl (cI, 8, .inl v_t_lasting))] z (va_A [(q_t, .inr (8, [.ref q_t_marks, .ref q_t_lasting])), (q_t_marks, .inl (cI, 480, .inl v_t_marks)), (q_t_lasting, .inl (cI, 8, .inl v_t_lasting))] sz)) 0 0 (va_A [(q_t, .inr (8, [.ref q_t_marks, .ref q_t_lasting])), (q_t_marks, .inl (cI, 480, .inl v_t_marks)), (q_t_lasting, .inl (cI, 8, .inl v_t_lasting))] sz) := by
  refine mk_met (Qc := fun A => (QI D cI cJ cZ [(q_t, .inr (8, [.ref q_t_marks, .ref q_t_lasting])), (q_t_marks, .inl (cI, 480, .inl v_t_marks)), (q_t_lasting, .inl (cI, 8, .inl v_t_lasting))] z A)) RX8 (by decide) rfl (Nat.le_of_ble_eq_true rfl) ?_
  intro p e s m below meth c ls A hx hb hr hml hown hts hlocks hA hK hE hl hD H locs hP hS
  have hl : lv_has ls 5 [(0, .ref q_t), (1, .int x1), (2, .int x2)] := hl
  unfold f_X8_howOften at hf
  refine lv_iconst (v := 0) hx hb dX8_howOften_0 (by decide) ?_
  refine lv_istore_n (lv' := [(3, .int 0), (0, .ref q_t), (1, .int x1), (2, .int x2)]) hx hb dX8_howOften_1 rfl hl (by decide) rfl (fun ls hl => ?_)
  refine lv_iconst (v := 0) hx hb dX8_howOften_2 (by decide) ?_
  refine lv_istore (lv' := [(4, .int 0), (3, .int 0), (0, .ref q_t), (1, .int x1), (2, .int x2)]) hx hb dX8_howOften_3 hl (by decide) rfl (fun ls hl => ?_)
  have L5_3 : ∀ (n : Nat) (x3_1 : Int32) (x4_2 : Int32), f_X8_howOften_L5 v_t_marks v_t_lasting x1 x2 n x3_1 x4_2 = some z → ∀ (H : Heap) (locs : List Loc) (ls : Array Slot), va_P D vwCl [(q_t, .inr (8, [.ref q_t_marks, .ref q_t_lasting])), (q_t_marks, .inl (cI, 480, .inl v_t_marks)), (q_t_lasting, .inl (cI, 8, .inl v_t_lasting))] H → va_D A [(q_t, .inr (8, [.ref q_t_marks, .ref q_t_lasting])), (q_t_marks, .inl (cI, 480, .inl v_t_marks)), (q_t_lasting, .inl (cI, 8, .inl v_t_lasting))] → va_S A s.heap H locs → lv_has ls 5 [(0, .ref q_t), (1, .int x1), (2, .int x2), (3, .int x3_1), (4, .int x4_2)] → W p l e ({ frames := 1, cells := 0, slots := 0, locals := 22 } : Room) s m ([.ref q_t, .int x1, .int x2] : List Value).toArray below meth c H locs 0 0 (MQ below (QI D cI cJ cZ [(q_t, .inr (8, [.ref q_t_marks, .ref q_t_lasting])), (q_t_marks, .inl (cI, 480, .inl v_t_marks)), (q_t_lasting, .inl (cI, 8, .inl v_t_lasting))] z A) ([.ref q_t, .int x1, .int x2] : List Value).toArray s 0 0 A) (F0 m 5 ls []) := by
    intro n
    induction n with
    | zero =>
      intro x3_1 x4_2 hf
      cases hf
    | succ n ih_4 =>
      intro x3_1 x4_2 hf H locs ls hP hD hS hl
      rw [f_X8_howOften_L5] at hf
      refine lv_iload hx hb dX8_howOften_5 (lv_at hl 4 rfl) ?_
      refine lv_bipush (v := 8) hx hb dX8_howOften_7 (by decide) ?_
      refine lv_icmp_ge (tgt := 32) hx hb dX8_howOften_9 (by decide) (fun h_5 => ?_) (fun h_5 => ?_)
      · have hf := (if_pos h_5).symm.trans hf
        refine lv_iload_n hx hb dX8_howOften_32 rfl (lv_at hl 3 rfl) ?_
        cases hf
        exact rt_i hx hb hr hlocks hK hP hS dX8_howOften_33
      · have hf := (if_neg h_5).symm.trans hf
        refine lv_aload_n hx hb dX8_howOften_12 rfl (lv_at hl 0 rfl) ?_
        refine lv_iload hx hb dX8_howOften_13 (lv_at hl 4 rfl) ?_
        refine lv_iload_n hx hb dX8_howOften_15 rfl (lv_at hl 2 rfl) ?_
        obtain ⟨z16_6, hz16_6, hf⟩ := bd_some hf
        refine cVi (rest := []) ⟨hx, hb, hml, hown, hts⟩ hE hK hP hD hS hA (c_X8_soundOf l D cI cJ cZ en q_t q_t_marks q_t_lasting H.size v_t_marks v_t_lasting x4_2 x2 hz16_6) (gv_X8_soundOf w_682) hd_X8_soundOf ⟨rfl, rfl⟩ ⟨by decide, by decide⟩ [0, 1, 2] rfl rfl rfl 8 rfl rfl 0 rfl  hl rfl (Nat.le_of_ble_eq_true rfl) ⟨Nat.zero_le _, Nat.zero_le _⟩ dX8_howOften_16 (fun H locs hP hD hS => ?_)
        have hP : va_P D vwCl [(q_t, .inr (8, [.ref q_t_marks, .ref q_t_lasting])), (q_t_marks, .inl (cI, 480, .inl v_t_marks)), (q_t_lasting, .inl (cI, 8, .inl v_t_lasting))] H := hP
        have hD : va_D A [(q_t, .inr (8, [.ref q_t_marks, .ref q_t_lasting])), (q_t_marks, .inl (cI, 480, .inl v_t_marks)), (q_t_lasting, .inl (cI, 8, .inl v_t_lasting))] := hD
        refine lv_iload_n hx hb dX8_howOften_19 rfl (lv_at hl 1 rfl) ?_
        have J26_8 : ∀ (x3_7 : Int32), f_X8_howOften_J26 (f_X8_howOften_L5 v_t_marks v_t_lasting x1 x2 n) x3_7 x4_2 = some z → ∀ (H : Heap) (locs : List Loc) (ls : Array Slot), va_P D vwCl [(q_t, .inr (8, [.ref q_t_marks, .ref q_t_lasting])), (q_t_marks, .inl (cI, 480, .inl v_t_marks)), (q_t_lasting, .inl (cI, 8, .inl v_t_lasting))] H → va_D A [(q_t, .inr (8, [.ref q_t_marks, .ref q_t_lasting])), (q_t_marks, .inl (cI, 480, .inl v_t_marks)), (q_t_lasting, .inl (cI, 8, .inl v_t_lasting))] → va_S A s.heap H locs → lv_has ls 5 [(0, .ref q_t), (1, .int x1), (2, .int x2), (3, .int x3_7), (4, .int x4_2)] → W p l e ({ frames := 1, cells := 0, slots := 0, locals := 22 } : Room) s m ([.ref q_t, .int x1, .int x2] : List Value).toArray below meth c H locs 0 0 (MQ below (QI D cI cJ cZ [(q_t, .inr (8, [.ref q_t_marks, .ref q_t_lasting])), (q_t_marks, .inl (cI, 480, .inl v_t_marks)), (q_t_lasting, .inl (cI, 8, .inl v_t_lasting))] z A) ([.ref q_t, .int x1, .int x2] : List Value).toArray s 0 0 A) (F0 m 26 ls []) := by
          intro x3_7 hf H locs ls hP hD hS hl
          unfold f_X8_howOften_J26 at hf
          refine lv_iinc (v := (x4_2 + 1)) (lv' := [(4, .int (x4_2 + 1)), (0, .ref q_t), (1, .int x1), (2, .int x2), (3, .int x3_7)]) hx hb dX8_howOften_26 hl (k := 4) rfl rfl (by decide) rfl (fun ls hl => ?_)
          refine lv_goto (tgt := 5) hx hb dX8_howOften_29 (by decide) ?_
          exact ih_4 x3_7 (x4_2 + 1) hf _ _ _ hP hD hS (lv_sub hl [1, 2, 3, 4, 0] rfl)
        refine lv_icmp_ne (tgt := 26) hx hb dX8_howOften_20 (by decide) (fun h_9 => ?_) (fun h_9 => ?_)
        · have hf := (if_neg h_9).symm.trans hf
          exact J26_8 x3_1 hf _ _ _ hP hD hS (lv_sub hl [0, 1, 2, 3, 4] rfl)
        · have hf := (if_pos h_9).symm.trans hf
          refine lv_iinc (v := (x3_1 + 1)) (lv' := [(3, .int (x3_1 + 1)), (0, .ref q_t), (1, .int x1), (2, .int x2), (4, .int x4_2)]) hx hb dX8_howOften_23 hl (k := 3) rfl rfl (by decide) rfl (fun ls hl => ?_)
          exact J26_8 (x3_1 + 1) hf _ _ _ hP hD hS (lv_sub hl [1, 2, 3, 0, 4] rfl)
  exact L5_3 FU 0 0 hf _ _ _ hP hD hS (lv_sub hl [2, 3, 4, 1, 0] rfl)

def f_X8_asOften (v_t_marks : Nat → Int32) (v_t_lasting : Nat → Int32) (v_a4_marks : Nat → Int32) (v_a4_lasting : Nat → Int32) (x1 : Int32) (x2 : Int32) (x3 : Int32) : Option (Int32) :=
  (f_X8_cellOf x1).bind (fun z1 => (if z1 = x2 then (f_X8_howOften v_t_marks v_t_lasting x1 x3).bind (fun z13 => (f_X8_howOften v_a4_marks v_a4_lasting x1 x3).bind (fun z20 => (if z13 = z20 then (some 1) else (some 0)))) else (some 1)))
theorem gv_X8_asOften {own : String} {idx : Nat} (h : Cond.methodLink own idx yX8_asOften ∈ lw_g) : GoodIn lw_g (wsV own idx RX8 yX8_asOften (Cond.code yX8_asOften cX8_asOften 5 (some .boolean) :: lw_g)) := gV h w_773 w_16 w_64 w_774
theorem hd_X8_asOften : yX8_asOften.cls = RX8 ∧ yX8_asOften.cls ≠ "java/lang/invoke/MethodHandle" ∧ yX8_asOften.cls ≠ "java/lang/invoke/VarHandle" ∧ (parseMethodDescriptor yX8_asOften.desc).map (fun d => d.parameters.length) = some 4 := by decide +kernel
set_option maxHeartbeats 4000000 in
set_option maxRecDepth 100000 in
theorem c_X8_asOften (l : Launch) (D : va_G) (cI cJ cZ : ClassId) (en : EnT) (q_t q_t_marks q_t_lasting q_a4 q_a4_marks q_a4_lasting : Nat) (sz : Nat) (v_t_marks : Nat → Int32) (v_t_lasting : Nat → Int32) (v_a4_marks : Nat → Int32) (v_a4_lasting : Nat → Int32) (x1 : Int32) (x2 : Int32) (x3 : Int32) {z : Int32} (hf : f_X8_asOften v_t_marks v_t_lasting v_a4_marks v_a4_lasting x1 x2 x3 = some z) : Met l yX8_asOften (Cond.code yX8_asOften cX8_asOften 5 (some .boolean) :: lw_g) ({ frames := 2, cells := 0, slots := 0, locals := 46 } : Room) (PC D cI cJ cZ en ([.ref q_t, .int x1, .int x2, .int x3, .ref q_a4] : List Value) [(q_t, .inr (8, [.ref q_t_marks, .ref q_t_lasting])), (q_t_marks, .inl (cI, 480, .inl v_t_marks)), (q_t_lasting, .inl (cI, 8, .inl v_t_lasting)), (q_a4, .inr (8, [.ref q_a4_marks, .ref q_a4_lasting])), (q_a4_marks, .inl (cI, 480, .inl v_a4_marks)), (q_a4_lasting, .inl (cI, 8, .inl v_a4_lasting))] sz) (QI D cI cJ cZ [(q_t, .inr (8, [.ref q_t_marks, .ref q_t_lasting])), (q_t_marks, .inl (cI, 480, .inl v_t_marks)), (q_t_lasting, .inl (cI, 8, .inl v_t_lasting)), (q_a4, .inr (8, [.ref q_a4_marks, .ref q_a4_lasting])), (q_a4_marks, .inl (cI, 480, .inl v_a4_marks)), (q_a4_lasting, .inl (cI, 8, .inl v_a4_lasting))] z (va_A [(q_t, .inr (8, [.ref q_t_marks, .ref q_t_lasting])), (q_t_marks, .inl (cI, 480, .inl v_t_marks)), (q_t_lasting, .inl (cI, 8, .inl v_t_lasting)), (q_a4, .inr (8, [.ref q_a4_marks, .ref q_a4_lasting])), (q_a4_marks, .inl (cI, 480, .inl v_a4_marks)), (q_a4_lasting, .inl (cI, 8, .inl v_a4_lasting))] sz)) 0 0 (va_A [(q_t, .inr (8, [.ref q_t_marks, .ref q_t_lasting])), (q_t_marks, .inl (cI, 480, .inl v_t_marks)), (q_t_lasting, .inl (cI, 8, .inl v_t_lasting)), (q_a4, .inr (8, [.ref q_a4_marks, .ref q_a4_lasting])), (q_a4_marks, .inl (cI, 480, .inl v_a4_marks)), (q_a4_lasting, .inl (cI, 8, .inl v_a4_lasting))] sz) := by
  refine mk_met (Qc := fun A => (QI D cI cJ cZ [(q_t, .inr (8, [.ref q_t_marks, .ref q_t_lasting])), (q_t_marks, .inl (cI, 480, .inl v_t_marks)), (q_t_lasting, .inl (cI, 8, .inl v_t_lasting)), (q_a4, .inr (8, [.ref q_a4_marks, .ref q_a4_lasting])), (q_a4_marks, .inl (cI, 480, .inl v_a4_marks)), (q_a4_lasting, .inl (cI, 8, .inl v_a4_lasting))] z A)) RX8 (by decide) rfl (Nat.le_of_ble_eq_true rfl) ?_
  intro p e s m below meth c ls A hx hb hr hml hown hts hlocks hA hK hE hl hD H locs hP hS
  have hl : lv_has ls 5 [(0, .ref q_t), (1, .int x1), (2, .int x2), (3, .int x3), (4, .ref q_a4)] := hl
  unfold f_X8_asOften at hf
  refine lv_iload_n hx hb dX8_asOften_0 rfl (lv_at hl 1 rfl) ?_
  obtain ⟨z1_1, hz1_1, hf⟩ := bd_some hf
  refine cSi (rest := []) ⟨hx, hb, hml, hown, hts⟩ hE hK hP hD hS hA (c_X8_cellOf l D cI cJ cZ en  H.size x1 hz1_1) (gs_X8_cellOf w_683) hd_X8_cellOf ⟨rfl, rfl⟩ ⟨by decide, by decide⟩ [] rfl rfl rfl  hl rfl (Nat.le_of_ble_eq_true rfl) ⟨Nat.zero_le _, Nat.zero_le _⟩ dX8_asOften_1 (fun H locs hP hD hS => ?_)
  have hP : va_P D vwCl [(q_t, .inr (8, [.ref q_t_marks, .ref q_t_lasting])), (q_t_marks, .inl (cI, 480, .inl v_t_marks)), (q_t_lasting, .inl (cI, 8, .inl v_t_lasting)), (q_a4, .inr (8, [.ref q_a4_marks, .ref q_a4_lasting])), (q_a4_marks, .inl (cI, 480, .inl v_a4_marks)), (q_a4_lasting, .inl (cI, 8, .inl v_a4_lasting))] H := hP
  have hD : va_D A [(q_t, .inr (8, [.ref q_t_marks, .ref q_t_lasting])), (q_t_marks, .inl (cI, 480, .inl v_t_marks)), (q_t_lasting, .inl (cI, 8, .inl v_t_lasting)), (q_a4, .inr (8, [.ref q_a4_marks, .ref q_a4_lasting])), (q_a4_marks, .inl (cI, 480, .inl v_a4_marks)), (q_a4_lasting, .inl (cI, 8, .inl v_a4_lasting))] := hD
  refine lv_iload_n hx hb dX8_asOften_4 rfl (lv_at hl 2 rfl) ?_
  refine lv_icmp_eq (tgt := 10) hx hb dX8_asOften_5 (by decide) (fun h_2 => ?_) (fun h_2 => ?_)
  · have hf := (if_pos h_2).symm.trans hf
    refine lv_aload_n hx hb dX8_asOften_10 rfl (lv_at hl 0 rfl) ?_
    refine lv_iload_n hx hb dX8_asOften_11 rfl (lv_at hl 1 rfl) ?_
    refine lv_iload_n hx hb dX8_asOften_12 rfl (lv_at hl 3 rfl) ?_
    obtain ⟨z13_3, hz13_3, hf⟩ := bd_some hf
    refine cVi (rest := []) ⟨hx, hb, hml, hown, hts⟩ hE hK hP hD hS hA (c_X8_howOften l D cI cJ cZ en q_t q_t_marks q_t_lasting H.size v_t_marks v_t_lasting x1 x3 hz13_3) (gv_X8_howOften w_775) hd_X8_howOften ⟨rfl, rfl⟩ ⟨by decide, by decide⟩ [0, 1, 2] rfl rfl rfl 8 rfl rfl 0 rfl  hl rfl (Nat.le_of_ble_eq_true rfl) ⟨Nat.zero_le _, Nat.zero_le _⟩ dX8_asOften_13 (fun H locs hP hD hS => ?_)
    have hP : va_P D vwCl [(q_t, .inr (8, [.ref q_t_marks, .ref q_t_lasting])), (q_t_marks, .inl (cI, 480, .inl v_t_marks)), (q_t_lasting, .inl (cI, 8, .inl v_t_lasting)), (q_a4, .inr (8, [.ref q_a4_marks, .ref q_a4_lasting])), (q_a4_marks, .inl (cI, 480, .inl v_a4_marks)), (q_a4_lasting, .inl (cI, 8, .inl v_a4_lasting))] H := hP
    have hD : va_D A [(q_t, .inr (8, [.ref q_t_marks, .ref q_t_lasting])), (q_t_marks, .inl (cI, 480, .inl v_t_marks)), (q_t_lasting, .inl (cI, 8, .inl v_t_lasting)), (q_a4, .inr (8, [.ref q_a4_marks, .ref q_a4_lasting])), (q_a4_marks, .inl (cI, 480, .inl v_a4_marks)), (q_a4_lasting, .inl (cI, 8, .inl v_a4_lasting))] := hD
    refine lv_aload hx hb dX8_asOften_16 (lv_at hl 4 rfl) ?_
    refine lv_iload_n hx hb dX8_asOften_18 rfl (lv_at hl 1 rfl) ?_
    refine lv_iload_n hx hb dX8_asOften_19 rfl (lv_at hl 3 rfl) ?_
    obtain ⟨z20_4, hz20_4, hf⟩ := bd_some hf
    refine cVi (rest := [.int z13_3]) ⟨hx, hb, hml, hown, hts⟩ hE hK hP hD hS hA (c_X8_howOften l D cI cJ cZ en q_a4 q_a4_marks q_a4_lasting H.size v_a4_marks v_a4_lasting x1 x3 hz20_4) (gv_X8_howOften w_775) hd_X8_howOften ⟨rfl, rfl⟩ ⟨by decide, by decide⟩ [3, 4, 5] rfl rfl rfl 8 rfl rfl 3 rfl  hl rfl (Nat.le_of_ble_eq_true rfl) ⟨Nat.zero_le _, Nat.zero_le _⟩ dX8_asOften_20 (fun H locs hP hD hS => ?_)
    have hP : va_P D vwCl [(q_t, .inr (8, [.ref q_t_marks, .ref q_t_lasting])), (q_t_marks, .inl (cI, 480, .inl v_t_marks)), (q_t_lasting, .inl (cI, 8, .inl v_t_lasting)), (q_a4, .inr (8, [.ref q_a4_marks, .ref q_a4_lasting])), (q_a4_marks, .inl (cI, 480, .inl v_a4_marks)), (q_a4_lasting, .inl (cI, 8, .inl v_a4_lasting))] H := hP
    have hD : va_D A [(q_t, .inr (8, [.ref q_t_marks, .ref q_t_lasting])), (q_t_marks, .inl (cI, 480, .inl v_t_marks)), (q_t_lasting, .inl (cI, 8, .inl v_t_lasting)), (q_a4, .inr (8, [.ref q_a4_marks, .ref q_a4_lasting])), (q_a4_marks, .inl (cI, 480, .inl v_a4_marks)), (q_a4_lasting, .inl (cI, 8, .inl v_a4_lasting))] := hD
    refine lv_icmp_ne (tgt := 30) hx hb dX8_asOften_23 (by decide) (fun h_5 => ?_) (fun h_5 => ?_)
    · have hf := (if_neg h_5).symm.trans hf
      refine lv_iconst (v := 0) hx hb dX8_asOften_30 (by decide) ?_
      cases hf
      exact rt_z hx hb hr hlocks hK hP hS (Or.inl rfl) dX8_asOften_31
    · have hf := (if_pos h_5).symm.trans hf
      refine lv_iconst (v := 1) hx hb dX8_asOften_26 (by decide) ?_
      refine lv_goto (tgt := 31) hx hb dX8_asOften_27 (by decide) ?_
      cases hf
      exact rt_z hx hb hr hlocks hK hP hS (Or.inr rfl) dX8_asOften_31
  · have hf := (if_neg h_2).symm.trans hf
    refine lv_iconst (v := 1) hx hb dX8_asOften_8 (by decide) ?_
    cases hf
    exact rt_z hx hb hr hlocks hK hP hS (Or.inr rfl) dX8_asOften_9

def f_X8_sameAt_J62 (rc2 : (Int32) → Option (Int32)) (x3 : Int32) : Option (Int32) :=
  (rc2 (x3 + 1))
def f_X8_sameAt_L11 (rc2 : (Int32) → Option (Int32)) (v_t_marks : Nat → Int32) (v_t_lasting : Nat → Int32) (v_a2_marks : Nat → Int32) (v_a2_lasting : Nat → Int32) (x1 : Int32) (x3 : Int32) : Nat → (Int32) → Option (Int32)
  | 0, _ => none
  | n + 1, x4 => (if 8 ≤ x4 then (f_X8_sameAt_J62 rc2 x3) else (f_X8_soundOf v_t_marks v_t_lasting x4 x3).bind (fun z23 => (f_X8_asOften v_t_marks v_t_lasting v_a2_marks v_a2_lasting z23 x1 x3).bind (fun z29 => (if z29 = 0 then (some 0) else (f_X8_soundOf v_a2_marks v_a2_lasting x4 x3).bind (fun z42 => (f_X8_asOften v_t_marks v_t_lasting v_a2_marks v_a2_lasting z42 x1 x3).bind (fun z48 => (if z48 = 0 then (some 0) else (f_X8_sameAt_L11 rc2 v_t_marks v_t_lasting v_a2_marks v_a2_lasting x1 x3 n (x4 + 1)))))))))
def f_X8_sameAt_L2 (v_t_marks : Nat → Int32) (v_t_lasting : Nat → Int32) (v_a2_marks : Nat → Int32) (v_a2_lasting : Nat → Int32) (x1 : Int32) : Nat → (Int32) → Option (Int32)
  | 0, _ => none
  | n + 1, x3 => (if 60 < x3 then (some 1) else (f_X8_sameAt_L11 (f_X8_sameAt_L2 v_t_marks v_t_lasting v_a2_marks v_a2_lasting x1 n) v_t_marks v_t_lasting v_a2_marks v_a2_lasting x1 x3 FU 0))
def f_X8_sameAt (v_t_marks : Nat → Int32) (v_t_lasting : Nat → Int32) (v_a2_marks : Nat → Int32) (v_a2_lasting : Nat → Int32) (x1 : Int32) : Option (Int32) :=
  (f_X8_sameAt_L2 v_t_marks v_t_lasting v_a2_marks v_a2_lasting x1 FU 1)
theorem gv_X8_sameAt {own : String} {idx : Nat} (h : Cond.methodLink own idx yX8_sameAt ∈ lw_g) : GoodIn lw_g (wsV own idx RX8 yX8_sameAt (Cond.code yX8_sameAt cX8_sameAt 5 (some .boolean) :: lw_g)) := gV h w_768 w_769 w_64 w_770
theorem hd_X8_sameAt : yX8_sameAt.cls = RX8 ∧ yX8_sameAt.cls ≠ "java/lang/invoke/MethodHandle" ∧ yX8_sameAt.cls ≠ "java/lang/invoke/VarHandle" ∧ (parseMethodDescriptor yX8_sameAt.desc).map (fun d => d.parameters.length) = some 2 := by decide +kernel
set_option maxHeartbeats 4000000 in
set_option maxRecDepth 100000 in
theorem c_X8_sameAt (l : Launch) (D : va_G) (cI cJ cZ : ClassId) (en : EnT) (q_t q_t_marks q_t_lasting q_a2 q_a2_marks q_a2_lasting : Nat) (sz : Nat) (v_t_marks : Nat → Int32) (v_t_lasting : Nat → Int32) (v_a2_marks : Nat → Int32) (v_a2_lasting : Nat → Int32) (x1 : Int32) {z : Int32} (hf : f_X8_sameAt v_t_marks v_t_lasting v_a2_marks v_a2_lasting x1 = some z) : Met l yX8_sameAt (Cond.code yX8_sameAt cX8_sameAt 5 (some .boolean) :: lw_g) ({ frames := 3, cells := 0, slots := 0, locals := 70 } : Room) (PC D cI cJ cZ en ([.ref q_t, .int x1, .ref q_a2] : List Value) [(q_t, .inr (8, [.ref q_t_marks, .ref q_t_lasting])), (q_t_marks, .inl (cI, 480, .inl v_t_marks)), (q_t_lasting, .inl (cI, 8, .inl v_t_lasting)), (q_a2, .inr (8, [.ref q_a2_marks, .ref q_a2_lasting])), (q_a2_marks, .inl (cI, 480, .inl v_a2_marks)), (q_a2_lasting, .inl (cI, 8, .inl v_a2_lasting))] sz) (QI D cI cJ cZ [(q_t, .inr (8, [.ref q_t_marks, .ref q_t_lasting])), (q_t_marks, .inl (cI, 480, .inl v_t_marks)), (q_t_lasting, .inl (cI, 8, .inl v_t_lasting)), (q_a2, .inr (8, [.ref q_a2_marks, .ref q_a2_lasting])), (q_a2_marks, .inl (cI, 480, .inl v_a2_marks)), (q_a2_lasting, .inl (cI, 8, .inl v_a2_lasting))] z (va_A [(q_t, .inr (8, [.ref q_t_marks, .ref q_t_lasting])), (q_t_marks, .inl (cI, 480, .inl v_t_marks)), (q_t_lasting, .inl (cI, 8, .inl v_t_lasting)), (q_a2, .inr (8, [.ref q_a2_marks, .ref q_a2_lasting])), (q_a2_marks, .inl (cI, 480, .inl v_a2_marks)), (q_a2_lasting, .inl (cI, 8, .inl v_a2_lasting))] sz)) 0 0 (va_A [(q_t, .inr (8, [.ref q_t_marks, .ref q_t_lasting])), (q_t_marks, .inl (cI, 480, .inl v_t_marks)), (q_t_lasting, .inl (cI, 8, .inl v_t_lasting)), (q_a2, .inr (8, [.ref q_a2_marks, .ref q_a2_lasting])), (q_a2_marks, .inl (cI, 480, .inl v_a2_marks)), (q_a2_lasting, .inl (cI, 8, .inl v_a2_lasting))] sz) := by
  refine mk_met (Qc := fun A => (QI D cI cJ cZ [(q_t, .inr (8, [.ref q_t_marks, .ref q_t_lasting])), (q_t_marks, .inl (cI, 480, .inl v_t_marks)), (q_t_lasting, .inl (cI, 8, .inl v_t_lasting)), (q_a2, .inr (8, [.ref q_a2_marks, .ref q_a2_lasting])), (q_a2_marks, .inl (cI, 480, .inl v_a2_marks)), (q_a2_lasting, .inl (cI, 8, .inl v_a2_lasting))] z A)) RX8 (by decide) rfl (Nat.le_of_ble_eq_true rfl) ?_
  intro p e s m below meth c ls A hx hb hr hml hown hts hlocks hA hK hE hl hD H locs hP hS
  have hl : lv_has ls 5 [(0, .ref q_t), (1, .int x1), (2, .ref q_a2)] := hl
  unfold f_X8_sameAt at hf
  refine lv_iconst (v := 1) hx hb dX8_sameAt_0 (by decide) ?_
  refine lv_istore_n (lv' := [(3, .int 1), (0, .ref q_t), (1, .int x1), (2, .ref q_a2)]) hx hb dX8_sameAt_1 rfl hl (by decide) rfl (fun ls hl => ?_)
  have L2_2 : ∀ (n : Nat) (x3_1 : Int32), f_X8_sameAt_L2 v_t_marks v_t_lasting v_a2_marks v_a2_lasting x1 n x3_1 = some z → ∀ (H : Heap) (locs : List Loc) (ls : Array Slot), va_P D vwCl [(q_t, .inr (8, [.ref q_t_marks, .ref q_t_lasting])), (q_t_marks, .inl (cI, 480, .inl v_t_marks)), (q_t_lasting, .inl (cI, 8, .inl v_t_lasting)), (q_a2, .inr (8, [.ref q_a2_marks, .ref q_a2_lasting])), (q_a2_marks, .inl (cI, 480, .inl v_a2_marks)), (q_a2_lasting, .inl (cI, 8, .inl v_a2_lasting))] H → va_D A [(q_t, .inr (8, [.ref q_t_marks, .ref q_t_lasting])), (q_t_marks, .inl (cI, 480, .inl v_t_marks)), (q_t_lasting, .inl (cI, 8, .inl v_t_lasting)), (q_a2, .inr (8, [.ref q_a2_marks, .ref q_a2_lasting])), (q_a2_marks, .inl (cI, 480, .inl v_a2_marks)), (q_a2_lasting, .inl (cI, 8, .inl v_a2_lasting))] → va_S A s.heap H locs → lv_has ls 5 [(0, .ref q_t), (1, .int x1), (2, .ref q_a2), (3, .int x3_1)] → W p l e ({ frames := 3, cells := 0, slots := 0, locals := 70 } : Room) s m ([.ref q_t, .int x1, .ref q_a2] : List Value).toArray below meth c H locs 0 0 (MQ below (QI D cI cJ cZ [(q_t, .inr (8, [.ref q_t_marks, .ref q_t_lasting])), (q_t_marks, .inl (cI, 480, .inl v_t_marks)), (q_t_lasting, .inl (cI, 8, .inl v_t_lasting)), (q_a2, .inr (8, [.ref q_a2_marks, .ref q_a2_lasting])), (q_a2_marks, .inl (cI, 480, .inl v_a2_marks)), (q_a2_lasting, .inl (cI, 8, .inl v_a2_lasting))] z A) ([.ref q_t, .int x1, .ref q_a2] : List Value).toArray s 0 0 A) (F0 m 2 ls []) := by
    intro n
    induction n with
    | zero =>
      intro x3_1 hf
      cases hf
    | succ n ih_3 =>
      intro x3_1 hf H locs ls hP hD hS hl
      rw [f_X8_sameAt_L2] at hf
      refine lv_iload_n hx hb dX8_sameAt_2 rfl (lv_at hl 3 rfl) ?_
      refine lv_bipush (v := 60) hx hb dX8_sameAt_3 (by decide) ?_
      refine lv_icmp_gt (tgt := 68) hx hb dX8_sameAt_5 (by decide) (fun h_4 => ?_) (fun h_4 => ?_)
      · have hf := (if_pos h_4).symm.trans hf
        refine lv_iconst (v := 1) hx hb dX8_sameAt_68 (by decide) ?_
        cases hf
        exact rt_z hx hb hr hlocks hK hP hS (Or.inr rfl) dX8_sameAt_69
      · have hf := (if_neg h_4).symm.trans hf
        refine lv_iconst (v := 0) hx hb dX8_sameAt_8 (by decide) ?_
        refine lv_istore (lv' := [(4, .int 0), (0, .ref q_t), (1, .int x1), (2, .ref q_a2), (3, .int x3_1)]) hx hb dX8_sameAt_9 hl (by decide) rfl (fun ls hl => ?_)
        have L11_6 : ∀ (n : Nat) (x4_5 : Int32), f_X8_sameAt_L11 (f_X8_sameAt_L2 v_t_marks v_t_lasting v_a2_marks v_a2_lasting x1 n) v_t_marks v_t_lasting v_a2_marks v_a2_lasting x1 x3_1 n x4_5 = some z → ∀ (H : Heap) (locs : List Loc) (ls : Array Slot), va_P D vwCl [(q_t, .inr (8, [.ref q_t_marks, .ref q_t_lasting])), (q_t_marks, .inl (cI, 480, .inl v_t_marks)), (q_t_lasting, .inl (cI, 8, .inl v_t_lasting)), (q_a2, .inr (8, [.ref q_a2_marks, .ref q_a2_lasting])), (q_a2_marks, .inl (cI, 480, .inl v_a2_marks)), (q_a2_lasting, .inl (cI, 8, .inl v_a2_lasting))] H → va_D A [(q_t, .inr (8, [.ref q_t_marks, .ref q_t_lasting])), (q_t_marks, .inl (cI, 480, .inl v_t_marks)), (q_t_lasting, .inl (cI, 8, .inl v_t_lasting)), (q_a2, .inr (8, [.ref q_a2_marks, .ref q_a2_lasting])), (q_a2_marks, .inl (cI, 480, .inl v_a2_marks)), (q_a2_lasting, .inl (cI, 8, .inl v_a2_lasting))] → va_S A s.heap H locs → lv_has ls 5 [(0, .ref q_t), (1, .int x1), (2, .ref q_a2), (3, .int x3_1), (4, .int x4_5)] → W p l e ({ frames := 3, cells := 0, slots := 0, locals := 70 } : Room) s m ([.ref q_t, .int x1, .ref q_a2] : List Value).toArray below meth c H locs 0 0 (MQ below (QI D cI cJ cZ [(q_t, .inr (8, [.ref q_t_marks, .ref q_t_lasting])), (q_t_marks, .inl (cI, 480, .inl v_t_marks)), (q_t_lasting, .inl (cI, 8, .inl v_t_lasting)), (q_a2, .inr (8, [.ref q_a2_marks, .ref q_a2_lasting])), (q_a2_marks, .inl (cI, 480, .inl v_a2_marks)), (q_a2_lasting, .inl (cI, 8, .inl v_a2_lasting))] z A) ([.ref q_t, .int x1, .ref q_a2] : List Value).toArray s 0 0 A) (F0 m 11 ls []) := by
          intro n
          induction n with
          | zero =>
            intro x4_5 hf
            cases hf
          | succ n ih_7 =>
            intro x4_5 hf H locs ls hP hD hS hl
            rw [f_X8_sameAt_L11] at hf
            refine lv_iload hx hb dX8_sameAt_11 (lv_at hl 4 rfl) ?_
            refine lv_bipush (v := 8) hx hb dX8_sameAt_13 (by decide) ?_
            refine lv_icmp_ge (tgt := 62) hx hb dX8_sameAt_15 (by decide) (fun h_8 => ?_) (fun h_8 => ?_)
            · have hf := (if_pos h_8).symm.trans hf
              unfold f_X8_sameAt_J62 at hf
              refine lv_iinc (v := (x3_1 + 1)) (lv' := [(3, .int (x3_1 + 1)), (0, .ref q_t), (1, .int x1), (2, .ref q_a2), (4, .int x4_5)]) hx hb dX8_sameAt_62 hl (k := 3) rfl rfl (by decide) rfl (fun ls hl => ?_)
              refine lv_goto (tgt := 2) hx hb dX8_sameAt_65 (by decide) ?_
              exact ih_3 (x3_1 + 1) hf _ _ _ hP hD hS (lv_sub hl [1, 2, 3, 0] rfl)
            · have hf := (if_neg h_8).symm.trans hf
              refine lv_aload_n hx hb dX8_sameAt_18 rfl (lv_at hl 0 rfl) ?_
              refine lv_aload_n hx hb dX8_sameAt_19 rfl (lv_at hl 0 rfl) ?_
              refine lv_iload hx hb dX8_sameAt_20 (lv_at hl 4 rfl) ?_
              refine lv_iload_n hx hb dX8_sameAt_22 rfl (lv_at hl 3 rfl) ?_
              obtain ⟨z23_9, hz23_9, hf⟩ := bd_some hf
              refine cVi (rest := [.ref q_t]) ⟨hx, hb, hml, hown, hts⟩ hE hK hP hD hS hA (c_X8_soundOf l D cI cJ cZ en q_t q_t_marks q_t_lasting H.size v_t_marks v_t_lasting x4_5 x3_1 hz23_9) (gv_X8_soundOf w_682) hd_X8_soundOf ⟨rfl, rfl⟩ ⟨by decide, by decide⟩ [0, 1, 2] rfl rfl rfl 8 rfl rfl 0 rfl  hl rfl (Nat.le_of_ble_eq_true rfl) ⟨Nat.zero_le _, Nat.zero_le _⟩ dX8_sameAt_23 (fun H locs hP hD hS => ?_)
              have hP : va_P D vwCl [(q_t, .inr (8, [.ref q_t_marks, .ref q_t_lasting])), (q_t_marks, .inl (cI, 480, .inl v_t_marks)), (q_t_lasting, .inl (cI, 8, .inl v_t_lasting)), (q_a2, .inr (8, [.ref q_a2_marks, .ref q_a2_lasting])), (q_a2_marks, .inl (cI, 480, .inl v_a2_marks)), (q_a2_lasting, .inl (cI, 8, .inl v_a2_lasting))] H := hP
              have hD : va_D A [(q_t, .inr (8, [.ref q_t_marks, .ref q_t_lasting])), (q_t_marks, .inl (cI, 480, .inl v_t_marks)), (q_t_lasting, .inl (cI, 8, .inl v_t_lasting)), (q_a2, .inr (8, [.ref q_a2_marks, .ref q_a2_lasting])), (q_a2_marks, .inl (cI, 480, .inl v_a2_marks)), (q_a2_lasting, .inl (cI, 8, .inl v_a2_lasting))] := hD
              refine lv_iload_n hx hb dX8_sameAt_26 rfl (lv_at hl 1 rfl) ?_
              refine lv_iload_n hx hb dX8_sameAt_27 rfl (lv_at hl 3 rfl) ?_
              refine lv_aload_n hx hb dX8_sameAt_28 rfl (lv_at hl 2 rfl) ?_
              obtain ⟨z29_10, hz29_10, hf⟩ := bd_some hf
              refine cVi (rest := []) ⟨hx, hb, hml, hown, hts⟩ hE hK hP hD hS hA (c_X8_asOften l D cI cJ cZ en q_t q_t_marks q_t_lasting q_a2 q_a2_marks q_a2_lasting H.size v_t_marks v_t_lasting v_a2_marks v_a2_lasting z23_9 x1 x3_1 hz29_10) (gv_X8_asOften w_771) hd_X8_asOften ⟨rfl, rfl⟩ ⟨by decide, by decide⟩ [0, 1, 2, 3, 4, 5] rfl rfl rfl 8 rfl rfl 0 rfl  hl rfl (Nat.le_of_ble_eq_true rfl) ⟨Nat.zero_le _, Nat.zero_le _⟩ dX8_sameAt_29 (fun H locs hP hD hS => ?_)
              have hP : va_P D vwCl [(q_t, .inr (8, [.ref q_t_marks, .ref q_t_lasting])), (q_t_marks, .inl (cI, 480, .inl v_t_marks)), (q_t_lasting, .inl (cI, 8, .inl v_t_lasting)), (q_a2, .inr (8, [.ref q_a2_marks, .ref q_a2_lasting])), (q_a2_marks, .inl (cI, 480, .inl v_a2_marks)), (q_a2_lasting, .inl (cI, 8, .inl v_a2_lasting))] H := hP
              have hD : va_D A [(q_t, .inr (8, [.ref q_t_marks, .ref q_t_lasting])), (q_t_marks, .inl (cI, 480, .inl v_t_marks)), (q_t_lasting, .inl (cI, 8, .inl v_t_lasting)), (q_a2, .inr (8, [.ref q_a2_marks, .ref q_a2_lasting])), (q_a2_marks, .inl (cI, 480, .inl v_a2_marks)), (q_a2_lasting, .inl (cI, 8, .inl v_a2_lasting))] := hD
              refine lv_if_ne (tgt := 37) hx hb dX8_sameAt_32 (by decide) (fun h_11 => ?_) (fun h_11 => ?_)
              · have hf := (if_neg h_11).symm.trans hf
                refine lv_aload_n hx hb dX8_sameAt_37 rfl (lv_at hl 0 rfl) ?_
                refine lv_aload_n hx hb dX8_sameAt_38 rfl (lv_at hl 2 rfl) ?_
                refine lv_iload hx hb dX8_sameAt_39 (lv_at hl 4 rfl) ?_
                refine lv_iload_n hx hb dX8_sameAt_41 rfl (lv_at hl 3 rfl) ?_
                obtain ⟨z42_12, hz42_12, hf⟩ := bd_some hf
                refine cVi (rest := [.ref q_t]) ⟨hx, hb, hml, hown, hts⟩ hE hK hP hD hS hA (c_X8_soundOf l D cI cJ cZ en q_a2 q_a2_marks q_a2_lasting H.size v_a2_marks v_a2_lasting x4_5 x3_1 hz42_12) (gv_X8_soundOf w_682) hd_X8_soundOf ⟨rfl, rfl⟩ ⟨by decide, by decide⟩ [3, 4, 5] rfl rfl rfl 8 rfl rfl 3 rfl  hl rfl (Nat.le_of_ble_eq_true rfl) ⟨Nat.zero_le _, Nat.zero_le _⟩ dX8_sameAt_42 (fun H locs hP hD hS => ?_)
                have hP : va_P D vwCl [(q_t, .inr (8, [.ref q_t_marks, .ref q_t_lasting])), (q_t_marks, .inl (cI, 480, .inl v_t_marks)), (q_t_lasting, .inl (cI, 8, .inl v_t_lasting)), (q_a2, .inr (8, [.ref q_a2_marks, .ref q_a2_lasting])), (q_a2_marks, .inl (cI, 480, .inl v_a2_marks)), (q_a2_lasting, .inl (cI, 8, .inl v_a2_lasting))] H := hP
                have hD : va_D A [(q_t, .inr (8, [.ref q_t_marks, .ref q_t_lasting])), (q_t_marks, .inl (cI, 480, .inl v_t_marks)), (q_t_lasting, .inl (cI, 8, .inl v_t_lasting)), (q_a2, .inr (8, [.ref q_a2_marks, .ref q_a2_lasting])), (q_a2_marks, .inl (cI, 480, .inl v_a2_marks)), (q_a2_lasting, .inl (cI, 8, .inl v_a2_lasting))] := hD
                refine lv_iload_n hx hb dX8_sameAt_45 rfl (lv_at hl 1 rfl) ?_
                refine lv_iload_n hx hb dX8_sameAt_46 rfl (lv_at hl 3 rfl) ?_
                refine lv_aload_n hx hb dX8_sameAt_47 rfl (lv_at hl 2 rfl) ?_
                obtain ⟨z48_13, hz48_13, hf⟩ := bd_some hf
                refine cVi (rest := []) ⟨hx, hb, hml, hown, hts⟩ hE hK hP hD hS hA (c_X8_asOften l D cI cJ cZ en q_t q_t_marks q_t_lasting q_a2 q_a2_marks q_a2_lasting H.size v_t_marks v_t_lasting v_a2_marks v_a2_lasting z42_12 x1 x3_1 hz48_13) (gv_X8_asOften w_771) hd_X8_asOften ⟨rfl, rfl⟩ ⟨by decide, by decide⟩ [0, 1, 2, 3, 4, 5] rfl rfl rfl 8 rfl rfl 0 rfl  hl rfl (Nat.le_of_ble_eq_true rfl) ⟨Nat.zero_le _, Nat.zero_le _⟩ dX8_sameAt_48 (fun H locs hP hD hS => ?_)
                have hP : va_P D vwCl [(q_t, .inr (8, [.ref q_t_marks, .ref q_t_lasting])), (q_t_marks, .inl (cI, 480, .inl v_t_marks)), (q_t_lasting, .inl (cI, 8, .inl v_t_lasting)), (q_a2, .inr (8, [.ref q_a2_marks, .ref q_a2_lasting])), (q_a2_marks, .inl (cI, 480, .inl v_a2_marks)), (q_a2_lasting, .inl (cI, 8, .inl v_a2_lasting))] H := hP
                have hD : va_D A [(q_t, .inr (8, [.ref q_t_marks, .ref q_t_lasting])), (q_t_marks, .inl (cI, 480, .inl v_t_marks)), (q_t_lasting, .inl (cI, 8, .inl v_t_lasting)), (q_a2, .inr (8, [.ref q_a2_marks, .ref q_a2_lasting])), (q_a2_marks, .inl (cI, 480, .inl v_a2_marks)), (q_a2_lasting, .inl (cI, 8, .inl v_a2_lasting))] := hD
                refine lv_if_ne (tgt := 56) hx hb dX8_sameAt_51 (by decide) (fun h_14 => ?_) (fun h_14 => ?_)
                · have hf := (if_neg h_14).symm.trans hf
                  refine lv_iinc (v := (x4_5 + 1)) (lv' := [(4, .int (x4_5 + 1)), (0, .ref q_t), (1, .int x1), (2, .ref q_a2), (3, .int x3_1)]) hx hb dX8_sameAt_56 hl (k := 4) rfl rfl (by decide) rfl (fun ls hl => ?_)
                  refine lv_goto (tgt := 11) hx hb dX8_sameAt_59 (by decide) ?_
                  exact ih_7 (x4_5 + 1) hf _ _ _ hP hD hS (lv_sub hl [1, 2, 3, 4, 0] rfl)
                · have hf := (if_pos h_14).symm.trans hf
                  refine lv_iconst (v := 0) hx hb dX8_sameAt_54 (by decide) ?_
                  cases hf
                  exact rt_z hx hb hr hlocks hK hP hS (Or.inl rfl) dX8_sameAt_55
              · have hf := (if_pos h_11).symm.trans hf
                refine lv_iconst (v := 0) hx hb dX8_sameAt_35 (by decide) ?_
                cases hf
                exact rt_z hx hb hr hlocks hK hP hS (Or.inl rfl) dX8_sameAt_36
        exact L11_6 FU 0 hf _ _ _ hP hD hS (lv_sub hl [1, 2, 3, 4, 0] rfl)
  exact L2_2 FU 1 hf _ _ _ hP hD hS (lv_sub hl [1, 2, 3, 0] rfl)
