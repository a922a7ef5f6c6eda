def f_X7_append (v_t_length : Int32) (v_t_bytes : Nat → Int32) (x1 : Int32) : Option (Int32 × (Nat → Int32)) :=
  (if v_t_length < 0 then (some (v_t_length, v_t_bytes)) else (if v_t_length < 200 then gd (ib v_t_length 200) ((some ((v_t_length + 1), (upd v_t_bytes (Int32.toNatClampNeg v_t_length) x1)))) else (some (v_t_length, v_t_bytes))))
theorem gv_X7_append {own : String} {idx : Nat} (h : Cond.methodLink own idx yX7_append ∈ lw_g) : GoodIn lw_g (wsV own idx RX7 yX7_append (Cond.code yX7_append cX7_append 2 none :: lw_g)) := gV h w_329 w_330 w_58 w_331
theorem hd_X7_append : yX7_append.cls = RX7 ∧ yX7_append.cls ≠ "java/lang/invoke/MethodHandle" ∧ yX7_append.cls ≠ "java/lang/invoke/VarHandle" ∧ (parseMethodDescriptor yX7_append.desc).map (fun d => d.parameters.length) = some 1 := by decide +kernel
set_option maxHeartbeats 4000000 in
set_option maxRecDepth 100000 in
theorem c_X7_append (l : Launch) (D : va_G) (cI cJ cZ : ClassId) (en : EnT) (q_t q_t_bytes : Nat) (sz : Nat) (v_t_length : Int32) (v_t_bytes : Nat → Int32) (x1 : Int32) {z : Int32 × (Nat → Int32)} (hf : f_X7_append v_t_length v_t_bytes x1 = some z) : Met l yX7_append (Cond.code yX7_append cX7_append 2 none :: lw_g) ({ frames := 0, cells := 0, slots := 0, locals := 0 } : Room) (PC D cI cJ cZ en ([.ref q_t, .int x1] : List Value) [(q_t, .inr (7, [.ref q_t_bytes, .int v_t_length])), (q_t_bytes, .inl (cI, 200, .inl v_t_bytes))] sz) (QV D cI cJ cZ [(q_t, .inr (7, [.ref q_t_bytes, .int z.1])), (q_t_bytes, .inl (cI, 200, .inl z.2))] (va_A [(q_t, .inr (7, [.ref q_t_bytes, .int v_t_length])), (q_t_bytes, .inl (cI, 200, .inl v_t_bytes))] sz)) 0 0 (va_A [(q_t, .inr (7, [.ref q_t_bytes, .int v_t_length])), (q_t_bytes, .inl (cI, 200, .inl v_t_bytes))] sz) := by
  refine mk_met (Qc := fun A => (QV D cI cJ cZ [(q_t, .inr (7, [.ref q_t_bytes, .int z.1])), (q_t_bytes, .inl (cI, 200, .inl z.2))] A)) RX7 (by decide) rfl (Nat.le_of_ble_eq_true rfl) ?_
  intro p e s m below meth c ls A hx hb hr hml hown hts hlocks hA hK hE hl hD H locs hP hS
  have hl : lv_has ls 2 [(0, .ref q_t), (1, .int x1)] := hl
  unfold f_X7_append at hf
  refine lv_aload_n hx hb dX7_append_0 rfl (lv_at hl 0 rfl) ?_
  refine va_get (D := D) (ci := 7) (v := .int v_t_length) (C := RX7) (T := TX7) (N := 2) hx hb hts inX7 hown hK hP 0 rfl rfl 1 (by decide) (hts _ w_90) (fun _ h9 => h9) rfl dX7_append_1 ?_
  refine lv_if_lt (tgt := 17) hx hb dX7_append_4 (by decide) (fun h_1 => ?_) (fun h_1 => ?_)
  · have hf := (if_pos h_1).symm.trans hf
    have hf := Option.some.inj hf
    subst hf
    exact rt_v hx hb hr hlocks hK hP hS dX7_append_17
  · have hf := (if_neg h_1).symm.trans hf
    refine lv_aload_n hx hb dX7_append_7 rfl (lv_at hl 0 rfl) ?_
    refine va_get (D := D) (ci := 7) (v := .int v_t_length) (C := RX7) (T := TX7) (N := 2) hx hb hts inX7 hown hK hP 0 rfl rfl 1 (by decide) (hts _ w_90) (fun _ h9 => h9) rfl dX7_append_8 ?_
    refine lv_sipush (v := 200) hx hb dX7_append_11 (by decide) ?_
    refine lv_icmp_lt (tgt := 18) hx hb dX7_append_14 (by decide) (fun h_2 => ?_) (fun h_2 => ?_)
    · have hf := (if_pos h_2).symm.trans hf
      refine lv_aload_n hx hb dX7_append_18 rfl (lv_at hl 0 rfl) ?_
      refine va_get (D := D) (ci := 7) (v := .ref q_t_bytes) (C := RX7) (T := TX7) (N := 2) hx hb hts inX7 hown hK hP 0 rfl rfl 0 (by decide) (hts _ w_89) (fun _ h9 => h9) rfl dX7_append_19 ?_
      refine lv_aload_n hx hb dX7_append_22 rfl (lv_at hl 0 rfl) ?_
      refine va_get (D := D) (ci := 7) (v := .int v_t_length) (C := RX7) (T := TX7) (N := 2) hx hb hts inX7 hown hK hP 0 rfl rfl 1 (by decide) (hts _ w_90) (fun _ h9 => h9) rfl dX7_append_23 ?_
      refine lv_iload_n hx hb dX7_append_26 rfl (lv_at hl 1 rfl) ?_
      obtain ⟨hin, hf⟩ := gd_some hf
      refine va_iast hx hb hK hP hD hS 1 0 rfl rfl hin dX7_append_27 (fun H locs hP hD hS => ?_)
      have hP : va_P D vwCl [(q_t, .inr (7, [.ref q_t_bytes, .int v_t_length])), (q_t_bytes, .inl (cI, 200, .inl (upd v_t_bytes (Int32.toNatClampNeg v_t_length) x1)))] H := hP
      have hD : va_D A [(q_t, .inr (7, [.ref q_t_bytes, .int v_t_length])), (q_t_bytes, .inl (cI, 200, .inl (upd v_t_bytes (Int32.toNatClampNeg v_t_length) x1)))] := hD
      refine lv_aload_n hx hb dX7_append_28 rfl (lv_at hl 0 rfl) ?_
      refine lv_dup hx hb dX7_append_29 rfl ?_
      refine va_get (D := D) (ci := 7) (v := .int v_t_length) (C := RX7) (T := TX7) (N := 2) hx hb hts inX7 hown hK hP 0 rfl rfl 1 (by decide) (hts _ w_90) (fun _ h9 => h9) rfl dX7_append_30 ?_
      refine lv_iconst (v := 1) hx hb dX7_append_33 (by decide) ?_
      refine lv_iadd hx hb dX7_append_34 ?_
      refine va_put (D := D) (ci := 7) (v := .int (v_t_length + 1)) (ty := .int) (C := RX7) (T := TX7) (N := 2) hx hb hts inX7 tyX7 tyX7_ok nmX7 hown hK hP hD hS 0 rfl rfl 1 (by decide) (hts _ w_90) (fun _ h9 => h9) rfl (by decide +kernel) rfl rfl (Nat.le_of_ble_eq_true rfl) dX7_append_35 (fun H locs hP hD hS => ?_)
      have hP : va_P D vwCl [(q_t, .inr (7, [.ref q_t_bytes, .int (v_t_length + 1)])), (q_t_bytes, .inl (cI, 200, .inl (upd v_t_bytes (Int32.toNatClampNeg v_t_length) x1)))] H := hP
      have hD : va_D A [(q_t, .inr (7, [.ref q_t_bytes, .int (v_t_length + 1)])), (q_t_bytes, .inl (cI, 200, .inl (upd v_t_bytes (Int32.toNatClampNeg v_t_length) x1)))] := hD
      have hf := Option.some.inj hf
      subst hf
      exact rt_v hx hb hr hlocks hK hP hS dX7_append_38
    · have hf := (if_neg h_2).symm.trans hf
      have hf := Option.some.inj hf
      subst hf
      exact rt_v hx hb hr hlocks hK hP hS dX7_append_17

def f_X7_byteAt (v_t_length : Int32) (v_t_bytes : Nat → Int32) (x1 : Int32) : Option (Int32) :=
  (if x1 < 0 then (some (-1)) else (if v_t_length ≤ x1 then (some (-1)) else (if x1 < 200 then gd (ib x1 200) ((some (v_t_bytes (Int32.toNatClampNeg x1)))) else (some (-1)))))
theorem gv_X7_byteAt {own : String} {idx : Nat} (h : Cond.methodLink own idx yX7_byteAt ∈ lw_g) : GoodIn lw_g (wsV own idx RX7 yX7_byteAt (Cond.code yX7_byteAt cX7_byteAt 2 (some .int) :: lw_g)) := gV h w_357 w_358 w_58 w_359
theorem hd_X7_byteAt : yX7_byteAt.cls = RX7 ∧ yX7_byteAt.cls ≠ "java/lang/invoke/MethodHandle" ∧ yX7_byteAt.cls ≠ "java/lang/invoke/VarHandle" ∧ (parseMethodDescriptor yX7_byteAt.desc).map (fun d => d.parameters.length) = some 1 := by decide +kernel
set_option maxHeartbeats 4000000 in
set_option maxRecDepth 100000 in
theorem c_X7_byteAt (l : Launch) (D : va_G) (cI cJ cZ : ClassId) (en : EnT) (q_t q_t_bytes : Nat) (sz : Nat) (v_t_length : Int32) (v_t_bytes : Nat → Int32) (x1 : Int32) {z : Int32} (hf : f_X7_byteAt v_t_length v_t_bytes x1 = some z) : Met l yX7_byteAt (Cond.code yX7_byteAt cX7_byteAt 2 (some .int) :: lw_g) ({ frames := 0, cells := 0, slots := 0, locals := 0 } : Room) (PC D cI cJ cZ en ([.ref q_t, .int x1] : List Value) [(q_t, .inr (7, [.ref q_t_bytes, .int v_t_length])), (q_t_bytes, .inl (cI, 200, .inl v_t_bytes))] sz) (QI D cI cJ cZ [(q_t, .inr (7, [.ref q_t_bytes, .int v_t_length])), (q_t_bytes, .inl (cI, 200, .inl v_t_bytes))] z (va_A [(q_t, .inr (7, [.ref q_t_bytes, .int v_t_length])), (q_t_bytes, .inl (cI, 200, .inl v_t_bytes))] sz)) 0 0 (va_A [(q_t, .inr (7, [.ref q_t_bytes, .int v_t_length])), (q_t_bytes, .inl (cI, 200, .inl v_t_bytes))] sz) := by
  refine mk_met (Qc := fun A => (QI D cI cJ cZ [(q_t, .inr (7, [.ref q_t_bytes, .int v_t_length])), (q_t_bytes, .inl (cI, 200, .inl v_t_bytes))] z A)) RX7 (by decide) rfl (Nat.le_of_ble_eq_true rfl) ?_
  intro p e s m below meth c ls A hx hb hr hml hown hts hlocks hA hK hE hl hD H locs hP hS
  have hl : lv_has ls 2 [(0, .ref q_t), (1, .int x1)] := hl
  unfold f_X7_byteAt at hf
  refine lv_iload_n hx hb dX7_byteAt_0 rfl (lv_at hl 1 rfl) ?_
  refine lv_if_lt (tgt := 19) hx hb dX7_byteAt_1 (by decide) (fun h_1 => ?_) (fun h_1 => ?_)
  · have hf := (if_pos h_1).symm.trans hf
    refine lv_iconst (v := (-1)) hx hb dX7_byteAt_19 (by decide) ?_
    refine lv_goto (tgt := 29) hx hb dX7_byteAt_20 (by decide) ?_
    have hf := Option.some.inj hf
    subst hf
    exact rt_i hx hb hr hlocks hK hP hS dX7_byteAt_29
  · have hf := (if_neg h_1).symm.trans hf
    refine lv_iload_n hx hb dX7_byteAt_4 rfl (lv_at hl 1 rfl) ?_
    refine lv_aload_n hx hb dX7_byteAt_5 rfl (lv_at hl 0 rfl) ?_
    refine va_get (D := D) (ci := 7) (v := .int v_t_length) (C := RX7) (T := TX7) (N := 2) hx hb hts inX7 hown hK hP 0 rfl rfl 1 (by decide) (hts _ w_90) (fun _ h9 => h9) rfl dX7_byteAt_6 ?_
    refine lv_icmp_ge (tgt := 19) hx hb dX7_byteAt_9 (by decide) (fun h_2 => ?_) (fun h_2 => ?_)
    · have hf := (if_pos h_2).symm.trans hf
      refine lv_iconst (v := (-1)) hx hb dX7_byteAt_19 (by decide) ?_
      refine lv_goto (tgt := 29) hx hb dX7_byteAt_20 (by decide) ?_
      have hf := Option.some.inj hf
      subst hf
      exact rt_i hx hb hr hlocks hK hP hS dX7_byteAt_29
    · have hf := (if_neg h_2).symm.trans hf
      refine lv_iload_n hx hb dX7_byteAt_12 rfl (lv_at hl 1 rfl) ?_
      refine lv_sipush (v := 200) hx hb dX7_byteAt_13 (by decide) ?_
      refine lv_icmp_lt (tgt := 23) hx hb dX7_byteAt_16 (by decide) (fun h_3 => ?_) (fun h_3 => ?_)
      · have hf := (if_pos h_3).symm.trans hf
        refine lv_aload_n hx hb dX7_byteAt_23 rfl (lv_at hl 0 rfl) ?_
        refine va_get (D := D) (ci := 7) (v := .ref q_t_bytes) (C := RX7) (T := TX7) (N := 2) hx hb hts inX7 hown hK hP 0 rfl rfl 0 (by decide) (hts _ w_89) (fun _ h9 => h9) rfl dX7_byteAt_24 ?_
        refine lv_iload_n hx hb dX7_byteAt_27 rfl (lv_at hl 1 rfl) ?_
        obtain ⟨hin, hf⟩ := gd_some hf
        refine va_iald hx hb hK hP 1 0 rfl rfl hin dX7_byteAt_28 ?_
        have hf := Option.some.inj hf
        subst hf
        exact rt_i hx hb hr hlocks hK hP hS dX7_byteAt_29
      · have hf := (if_neg h_3).symm.trans hf
        refine lv_iconst (v := (-1)) hx hb dX7_byteAt_19 (by decide) ?_
        refine lv_goto (tgt := 29) hx hb dX7_byteAt_20 (by decide) ?_
        have hf := Option.some.inj hf
        subst hf
        exact rt_i hx hb hr hlocks hK hP hS dX7_byteAt_29

def f_X8_lastTickOf (v_t_lasting : Nat → Int32) (x1 : Int32) : Option (Int32) :=
  (if x1 < 0 then (some 0) else (if x1 < 8 then gd (ib x1 8) ((some (v_t_lasting (Int32.toNatClampNeg x1)))) else (some 0)))
theorem gv_X8_lastTickOf {own : String} {idx : Nat} (h : Cond.methodLink own idx yX8_lastTickOf ∈ lw_g) : GoodIn lw_g (wsV own idx RX8 yX8_lastTickOf (Cond.code yX8_lastTickOf cX8_lastTickOf 2 (some .int) :: lw_g)) := gV h w_633 w_634 w_64 w_635
theorem hd_X8_lastTickOf : yX8_lastTickOf.cls = RX8 ∧ yX8_lastTickOf.cls ≠ "java/lang/invoke/MethodHandle" ∧ yX8_lastTickOf.cls ≠ "java/lang/invoke/VarHandle" ∧ (parseMethodDescriptor yX8_lastTickOf.desc).map (fun d => d.parameters.length) = some 1 := by decide +kernel
set_option maxHeartbeats 4000000 in
set_option maxRecDepth 100000 in
theorem c_X8_lastTickOf (l : Launch) (D : va_G) (cI cJ cZ : ClassId) (en : EnT) (q_t q_t_marks q_t_lasting : Nat) (sz : Nat) (v_t_marks : Nat → Int32) (v_t_lasting : Nat → Int32) (x1 : Int32) {z : Int32} (hf : f_X8_lastTickOf v_t_lasting x1 = some z) : Met l yX8_lastTickOf (Cond.code yX8_lastTickOf cX8_lastTickOf 2 (some .int) :: lw_g) ({ frames := 0, cells := 0, slots := 0, locals := 0 } : Room) (PC D cI cJ cZ en ([.ref q_t, .int x1] : List Value) [(q_t, .inr (8, [.ref q_t_marks, .ref q_t_lasting])), (q_t_marks, .inl (cI, 480, .inl v_t_marks)), (q_t_lasting, .inl (cI, 8, .inl v_t_lasting))] sz) (QI D cI cJ cZ [(q_t, .inr (8, [.ref q_t_marks, .ref q_t_lasting])), (q_t_marks, .inl (cI, 480, .inl v_t_marks)), (q_t_lasting, .inl (cI, 8, .inl v_t_lasting))] z (va_A [(q_t, .inr (8, [.ref q_t_marks, .ref q_t_lasting])), (q_t_marks, .inl (cI, 480, .inl v_t_marks)), (q_t_lasting, .inl (cI, 8, .inl v_t_lasting))] sz)) 0 0 (va_A [(q_t, .inr (8, [.ref q_t_marks, .ref q_t_lasting])), (q_t_marks, .inl (cI, 480, .inl v_t_marks)), (q_t_lasting, .inl (cI, 8, .inl v_t_lasting))] sz) := by
  refine mk_met (Qc := fun A => (QI D cI cJ cZ [(q_t, .inr (8, [.ref q_t_marks, .ref q_t_lasting])), (q_t_marks, .inl (cI, 480, .inl v_t_marks)), (q_t_lasting, .inl (cI, 8, .inl v_t_lasting))] z A)) RX8 (by decide) rfl (Nat.le_of_ble_eq_true rfl) ?_
  intro p e s m below meth c ls A hx hb hr hml hown hts hlocks hA hK hE hl hD H locs hP hS
  have hl : lv_has ls 2 [(0, .ref q_t), (1, .int x1)] := hl
  unfold f_X8_lastTickOf at hf
  refine lv_iload_n hx hb dX8_lastTickOf_0 rfl (lv_at hl 1 rfl) ?_
  refine lv_if_lt (tgt := 10) hx hb dX8_lastTickOf_1 (by decide) (fun h_1 => ?_) (fun h_1 => ?_)
  · have hf := (if_pos h_1).symm.trans hf
    refine lv_iconst (v := 0) hx hb dX8_lastTickOf_10 (by decide) ?_
    refine lv_goto (tgt := 20) hx hb dX8_lastTickOf_11 (by decide) ?_
    have hf := Option.some.inj hf
    subst hf
    exact rt_i hx hb hr hlocks hK hP hS dX8_lastTickOf_20
  · have hf := (if_neg h_1).symm.trans hf
    refine lv_iload_n hx hb dX8_lastTickOf_4 rfl (lv_at hl 1 rfl) ?_
    refine lv_bipush (v := 8) hx hb dX8_lastTickOf_5 (by decide) ?_
    refine lv_icmp_lt (tgt := 14) hx hb dX8_lastTickOf_7 (by decide) (fun h_2 => ?_) (fun h_2 => ?_)
    · have hf := (if_pos h_2).symm.trans hf
      refine lv_aload_n hx hb dX8_lastTickOf_14 rfl (lv_at hl 0 rfl) ?_
      refine va_get (D := D) (ci := 8) (v := .ref q_t_lasting) (C := RX8) (T := TX8) (N := 2) hx hb hts inX8 hown hK hP 0 rfl rfl 1 (by decide) (hts _ w_240) (fun _ h9 => h9) rfl dX8_lastTickOf_15 ?_
      refine lv_iload_n hx hb dX8_lastTickOf_18 rfl (lv_at hl 1 rfl) ?_
      obtain ⟨hin, hf⟩ := gd_some hf
      refine va_iald hx hb hK hP 2 0 rfl rfl hin dX8_lastTickOf_19 ?_
      have hf := Option.some.inj hf
      subst hf
      exact rt_i hx hb hr hlocks hK hP hS dX8_lastTickOf_20
    · have hf := (if_neg h_2).symm.trans hf
      refine lv_iconst (v := 0) hx hb dX8_lastTickOf_10 (by decide) ?_
      refine lv_goto (tgt := 20) hx hb dX8_lastTickOf_11 (by decide) ?_
      have hf := Option.some.inj hf
      subst hf
      exact rt_i hx hb hr hlocks hK hP hS dX8_lastTickOf_20

def f_X8_soundOf (v_t_marks : Nat → Int32) (v_t_lasting : Nat → Int32) (x1 : Int32) (x2 : Int32) : Option (Int32) :=
  (if x1 < 0 then (some 0) else (if 8 ≤ x1 then (some 0) else (if x2 < 1 then (some 0) else gd (ib x1 8) ((if x2 ≤ (v_t_lasting (Int32.toNatClampNeg x1)) then gd (ib (((x1 * 60) + x2) - 1) 480) ((some (v_t_marks (Int32.toNatClampNeg (((x1 * 60) + x2) - 1))))) else (some 0))))))
theorem gv_X8_soundOf {own : String} {idx : Nat} (h : Cond.methodLink own idx yX8_soundOf ∈ lw_g) : GoodIn lw_g (wsV own idx RX8 yX8_soundOf (Cond.code yX8_soundOf cX8_soundOf 3 (some .int) :: lw_g)) := gV h w_637 w_638 w_64 w_639
theorem hd_X8_soundOf : yX8_soundOf.cls = RX8 ∧ yX8_soundOf.cls ≠ "java/lang/invoke/MethodHandle" ∧ yX8_soundOf.cls ≠ "java/lang/invoke/VarHandle" ∧ (parseMethodDescriptor yX8_soundOf.desc).map (fun d => d.parameters.length) = some 2 := by decide +kernel
set_option maxHeartbeats 4000000 in
set_option maxRecDepth 100000 in
theorem c_X8_soundOf (l : Launch) (D : va_G) (cI cJ cZ : ClassId) (en : EnT) (q_t q_t_marks q_t_lasting : Nat) (sz : Nat) (v_t_marks : Nat → Int32) (v_t_lasting : Nat → Int32) (x1 : Int32) (x2 : Int32) {z : Int32} (hf : f_X8_soundOf v_t_marks v_t_lasting x1 x2 = some z) : Met l yX8_soundOf (Cond.code yX8_soundOf cX8_soundOf 3 (some .int) :: lw_g) ({ frames := 0, cells := 0, slots := 0, locals := 0 } : Room) (PC D cI cJ cZ en ([.ref q_t, .int x1, .int x2] : List Value) [(q_t, .inr (8, [.ref q_t_marks, .ref q_t_lasting])), (q_t_marks, .inl (cI, 480, .inl v_t_marks)), (q_t_lasting, .inl (cI, 8, .inl v_t_lasting))] sz) (QI D cI cJ cZ [(q_t, .inr (8, [.ref q_t_marks, .ref q_t_lasting])), (q_t_marks, .inl (cI, 480, .inl v_t_marks)), (q_t_lasting, .inl (cI, 8, .inl v_t_lasting))] z (va_A [(q_t, .inr (8, [.ref q_t_marks, .ref q_t_lasting])), (q_t_marks, .inl (cI, 480, .inl v_t_marks)), (q_t_lasting, .inl (cI, 8, .inl v_t_lasting))] sz)) 0 0 (va_A [(q_t, .inr (8, [.ref q_t_marks, .ref q_t_lasting])), (q_t_marks, .inl (cI, 480, .inl v_t_marks)), (q_t_lasting, .inl (cI, 8, .inl v_t_lasting))] sz) := by
  refine mk_met (Qc := fun A => (QI D cI cJ cZ [(q_t, .inr (8, [.ref q_t_marks, .ref q_t_lasting])), (q_t_marks, .inl (cI, 480, .inl v_t_marks)), (q_t_lasting, .inl (cI, 8, .inl v_t_lasting))] z A)) RX8 (by decide) rfl (Nat.le_of_ble_eq_true rfl) ?_
  intro p e s m below meth c ls A hx hb hr hml hown hts hlocks hA hK hE hl hD H locs hP hS
  have hl : lv_has ls 3 [(0, .ref q_t), (1, .int x1), (2, .int x2)] := hl
  unfold f_X8_soundOf at hf
  refine lv_iload_n hx hb dX8_soundOf_0 rfl (lv_at hl 1 rfl) ?_
  refine lv_if_lt (tgt := 25) hx hb dX8_soundOf_1 (by decide) (fun h_1 => ?_) (fun h_1 => ?_)
  · have hf := (if_pos h_1).symm.trans hf
    refine lv_iconst (v := 0) hx hb dX8_soundOf_25 (by decide) ?_
    have hf := Option.some.inj hf
    subst hf
    exact rt_i hx hb hr hlocks hK hP hS dX8_soundOf_26
  · have hf := (if_neg h_1).symm.trans hf
    refine lv_iload_n hx hb dX8_soundOf_4 rfl (lv_at hl 1 rfl) ?_
    refine lv_bipush (v := 8) hx hb dX8_soundOf_5 (by decide) ?_
    refine lv_icmp_ge (tgt := 25) hx hb dX8_soundOf_7 (by decide) (fun h_2 => ?_) (fun h_2 => ?_)
    · have hf := (if_pos h_2).symm.trans hf
      refine lv_iconst (v := 0) hx hb dX8_soundOf_25 (by decide) ?_
      have hf := Option.some.inj hf
      subst hf
      exact rt_i hx hb hr hlocks hK hP hS dX8_soundOf_26
    · have hf := (if_neg h_2).symm.trans hf
      refine lv_iload_n hx hb dX8_soundOf_10 rfl (lv_at hl 2 rfl) ?_
      refine lv_iconst (v := 1) hx hb dX8_soundOf_11 (by decide) ?_
      refine lv_icmp_lt (tgt := 25) hx hb dX8_soundOf_12 (by decide) (fun h_3 => ?_) (fun h_3 => ?_)
      · have hf := (if_pos h_3).symm.trans hf
        refine lv_iconst (v := 0) hx hb dX8_soundOf_25 (by decide) ?_
        have hf := Option.some.inj hf
        subst hf
        exact rt_i hx hb hr hlocks hK hP hS dX8_soundOf_26
      · have hf := (if_neg h_3).symm.trans hf
        refine lv_iload_n hx hb dX8_soundOf_15 rfl (lv_at hl 2 rfl) ?_
        refine lv_aload_n hx hb dX8_soundOf_16 rfl (lv_at hl 0 rfl) ?_
        refine va_get (D := D) (ci := 8) (v := .ref q_t_lasting) (C := RX8) (T := TX8) (N := 2) hx hb hts inX8 hown hK hP 0 rfl rfl 1 (by decide) (hts _ w_240) (fun _ h9 => h9) rfl dX8_soundOf_17 ?_
        refine lv_iload_n hx hb dX8_soundOf_20 rfl (lv_at hl 1 rfl) ?_
        obtain ⟨hin, hf⟩ := gd_some hf
        refine va_iald hx hb hK hP 2 0 rfl rfl hin dX8_soundOf_21 ?_
        refine lv_icmp_le (tgt := 27) hx hb dX8_soundOf_22 (by decide) (fun h_4 => ?_) (fun h_4 => ?_)
        · have hf := (if_pos h_4).symm.trans hf
          refine lv_aload_n hx hb dX8_soundOf_27 rfl (lv_at hl 0 rfl) ?_
          refine va_get (D := D) (ci := 8) (v := .ref q_t_marks) (C := RX8) (T := TX8) (N := 2) hx hb hts inX8 hown hK hP 0 rfl rfl 0 (by decide) (hts _ w_239) (fun _ h9 => h9) rfl dX8_soundOf_28 ?_
          refine lv_iload_n hx hb dX8_soundOf_31 rfl (lv_at hl 1 rfl) ?_
          refine lv_bipush (v := 60) hx hb dX8_soundOf_32 (by decide) ?_
          refine lv_imul hx hb dX8_soundOf_34 ?_
          refine lv_iload_n hx hb dX8_soundOf_35 rfl (lv_at hl 2 rfl) ?_
          refine lv_iadd hx hb dX8_soundOf_36 ?_
          refine lv_iconst (v := 1) hx hb dX8_soundOf_37 (by decide) ?_
          refine lv_isub hx hb dX8_soundOf_38 ?_
          obtain ⟨hin, hf⟩ := gd_some hf
          refine va_iald hx hb hK hP 1 0 rfl rfl hin dX8_soundOf_39 ?_
          have hf := Option.some.inj hf
          subst hf
          exact rt_i hx hb hr hlocks hK hP hS dX8_soundOf_40
        · have hf := (if_neg h_4).symm.trans hf
          refine lv_iconst (v := 0) hx hb dX8_soundOf_25 (by decide) ?_
          have hf := Option.some.inj hf
          subst hf
          exact rt_i hx hb hr hlocks hK hP hS dX8_soundOf_26

def f_X8_cellOf (x0 : Int32) : Option (Int32) :=
  (some ((x0 &&& 63) - 1))
theorem gs_X8_cellOf {own : String} {idx : Nat} (h : Cond.methodLink own idx yX8_cellOf ∈ lw_g) : GoodIn lw_g (va_wsS own idx yX8_cellOf (Cond.code yX8_cellOf cX8_cellOf 1 (some .int) :: lw_g)) := gS h w_641 w_64 w_642
theorem hd_X8_cellOf : yX8_cellOf.cls ≠ "java/lang/invoke/MethodHandle" ∧ yX8_cellOf.cls ≠ "java/lang/invoke/VarHandle" ∧ (parseMethodDescriptor yX8_cellOf.desc).map (fun d => d.parameters.length) = some 1 := by decide +kernel
set_option maxHeartbeats 4000000 in
set_option maxRecDepth 100000 in
theorem c_X8_cellOf (l : Launch) (D : va_G) (cI cJ cZ : ClassId) (en : EnT) (sz : Nat) (x0 : Int32) {z : Int32} (hf : f_X8_cellOf x0 = some z) : Met l yX8_cellOf (Cond.code yX8_cellOf cX8_cellOf 1 (some .int) :: lw_g) ({ frames := 0, cells := 0, slots := 0, locals := 0 } : Room) (PC D cI cJ cZ en ([.int x0] : List Value) [] sz) (QI D cI cJ cZ [] z (va_A [] sz)) 0 0 (va_A [] sz) := by
  refine mk_met (Qc := fun A => (QI D cI cJ cZ [] z A)) RX8 (by decide) rfl (Nat.le_of_ble_eq_true rfl) ?_
  intro p e s m below meth c ls A hx hb hr hml hown hts hlocks hA hK hE hl hD H locs hP hS
  have hl : lv_has ls 1 [(0, .int x0)] := hl
  unfold f_X8_cellOf at hf
  refine lv_iload_n hx hb dX8_cellOf_0 rfl (lv_at hl 0 rfl) ?_
  refine lv_bipush (v := 63) hx hb dX8_cellOf_1 (by decide) ?_
  refine lv_iand hx hb dX8_cellOf_3 ?_
  refine lv_iconst (v := 1) hx hb dX8_cellOf_4 (by decide) ?_
  refine lv_isub hx hb dX8_cellOf_5 ?_
  have hf := Option.some.inj hf
  subst hf
  exact rt_i hx hb hr hlocks hK hP hS dX8_cellOf_6

def f_X8_thrownOf (x0 : Int32) : Option (Int32) :=
  (some (x0 >>> (13 &&& 31)))
theorem gs_X8_thrownOf {own : String} {idx : Nat} (h : Cond.methodLink own idx yX8_thrownOf ∈ lw_g) : GoodIn lw_g (va_wsS own idx yX8_thrownOf (Cond.code yX8_thrownOf cX8_thrownOf 1 (some .int) :: lw_g)) := gS h w_644 w_64 w_645
theorem hd_X8_thrownOf : yX8_thrownOf.cls ≠ "java/lang/invoke/MethodHandle" ∧ yX8_thrownOf.cls ≠ "java/lang/invoke/VarHandle" ∧ (parseMethodDescriptor yX8_thrownOf.desc).map (fun d => d.parameters.length) = some 1 := by decide +kernel
set_option maxHeartbeats 4000000 in
set_option maxRecDepth 100000 in
theorem c_X8_thrownOf (l : Launch) (D : va_G) (cI cJ cZ : ClassId) (en : EnT) (sz : Nat) (x0 : Int32) {z : Int32} (hf : f_X8_thrownOf x0 = some z) : Met l yX8_thrownOf (Cond.code yX8_thrownOf cX8_thrownOf 1 (some .int) :: lw_g) ({ frames := 0, cells := 0, slots := 0, locals := 0 } : Room) (PC D cI cJ cZ en ([.int x0] : List Value) [] sz) (QI D cI cJ cZ [] z (va_A [] sz)) 0 0 (va_A [] sz) := by
  refine mk_met (Qc := fun A => (QI D cI cJ cZ [] z A)) RX8 (by decide) rfl (Nat.le_of_ble_eq_true rfl) ?_
  intro p e s m below meth c ls A hx hb hr hml hown hts hlocks hA hK hE hl hD H locs hP hS
  have hl : lv_has ls 1 [(0, .int x0)] := hl
  unfold f_X8_thrownOf at hf
  refine lv_iload_n hx hb dX8_thrownOf_0 rfl (lv_at hl 0 rfl) ?_
  refine lv_bipush (v := 13) hx hb dX8_thrownOf_1 (by decide) ?_
  refine lv_ishr hx hb dX8_thrownOf_3 ?_
  have hf := Option.some.inj hf
  subst hf
  exact rt_i hx hb hr hlocks hK hP hS dX8_thrownOf_4

def f_X8_loudOf (x0 : Int32) : Option (Int32) :=
  (some ((x0 >>> (6 &&& 31)) &&& 127))
theorem gs_X8_loudOf {own : String} {idx : Nat} (h : Cond.methodLink own idx yX8_loudOf ∈ lw_g) : GoodIn lw_g (va_wsS own idx yX8_loudOf (Cond.code yX8_loudOf cX8_loudOf 1 (some .int) :: lw_g)) := gS h w_647 w_64 w_648
theorem hd_X8_loudOf : yX8_loudOf.cls ≠ "java/lang/invoke/MethodHandle" ∧ yX8_loudOf.cls ≠ "java/lang/invoke/VarHandle" ∧ (parseMethodDescriptor yX8_loudOf.desc).map (fun d => d.parameters.length) = some 1 := by decide +kernel
set_option maxHeartbeats 4000000 in
set_option maxRecDepth 100000 in
theorem c_X8_loudOf (l : Launch) (D : va_G) (cI cJ cZ : ClassId) (en : EnT) (sz : Nat) (x0 : Int32) {z : Int32} (hf : f_X8_loudOf x0 = some z) : Met l yX8_loudOf (Cond.code yX8_loudOf cX8_loudOf 1 (some .int) :: lw_g) ({ frames := 0, cells := 0, slots := 0, locals := 0 } : Room) (PC D cI cJ cZ en ([.int x0] : List Value) [] sz) (QI D cI cJ cZ [] z (va_A [] sz)) 0 0 (va_A [] sz) := by
  refine mk_met (Qc := fun A => (QI D cI cJ cZ [] z A)) RX8 (by decide) rfl (Nat.le_of_ble_eq_true rfl) ?_
  intro p e s m below meth c ls A hx hb hr hml hown hts hlocks hA hK hE hl hD H locs hP hS
  have hl : lv_has ls 1 [(0, .int x0)] := hl
  unfold f_X8_loudOf at hf
  refine lv_iload_n hx hb dX8_loudOf_0 rfl (lv_at hl 0 rfl) ?_
  refine lv_bipush (v := 6) hx hb dX8_loudOf_1 (by decide) ?_
  refine lv_ishr hx hb dX8_loudOf_3 ?_
  refine lv_bipush (v := 127) hx hb dX8_loudOf_4 (by decide) ?_
  refine lv_iand hx hb dX8_loudOf_6 ?_
  have hf := Option.some.inj hf
  subst hf
  exact rt_i hx hb hr hlocks hK hP hS dX8_loudOf_7

def f_X8_soundFrom (x0 : Int32) (x1 : Int32) (x2 : Int32) : Option (Int32) :=
  (some ((((x2 <<< (7 &&& 31)) ||| x1) <<< (6 &&& 31)) ||| (x0 + 1)))
theorem gs_X8_soundFrom {own : String} {idx : Nat} (h : Cond.methodLink own idx yX8_soundFrom ∈ lw_g) : GoodIn lw_g (va_wsS own idx yX8_soundFrom (Cond.code yX8_soundFrom cX8_soundFrom 3 (some .int) :: lw_g)) := gS h w_625 w_64 w_626
theorem hd_X8_soundFrom : yX8_soundFrom.cls ≠ "java/lang/invoke/MethodHandle" ∧ yX8_soundFrom.cls ≠ "java/lang/invoke/VarHandle" ∧ (parseMethodDescriptor yX8_soundFrom.desc).map (fun d => d.parameters.length) = some 3 := by decide +kernel
set_option maxHeartbeats 4000000 in
set_option maxRecDepth 100000 in
theorem c_X8_soundFrom (l : Launch) (D : va_G) (cI cJ cZ : ClassId) (en : EnT) (sz : Nat) (x0 : Int32) (x1 : Int32) (x2 : Int32) {z : Int32} (hf : f_X8_soundFrom x0 x1 x2 = some z) : Met l yX8_soundFrom (Cond.code yX8_soundFrom cX8_soundFrom 3 (some .int) :: lw_g) ({ frames := 0, cells := 0, slots := 0, locals := 0 } : Room) (PC D cI cJ cZ en ([.int x0, .int x1, .int x2] : List Value) [] sz) (QI D cI cJ cZ [] z (va_A [] sz)) 0 0 (va_A [] sz) := by
  refine mk_met (Qc := fun A => (QI D cI cJ cZ [] z A)) RX8 (by decide) rfl (Nat.le_of_ble_eq_true rfl) ?_
  intro p e s m below meth c ls A hx hb hr hml hown hts hlocks hA hK hE hl hD H locs hP hS
  have hl : lv_has ls 3 [(0, .int x0), (1, .int x1), (2, .int x2)] := hl
  unfold f_X8_soundFrom at hf
  refine lv_iload_n hx hb dX8_soundFrom_0 rfl (lv_at hl 2 rfl) ?_
  refine lv_bipush (v := 7) hx hb dX8_soundFrom_1 (by decide) ?_
  refine lv_ishl hx hb dX8_soundFrom_3 ?_
  refine lv_iload_n hx hb dX8_soundFrom_4 rfl (lv_at hl 1 rfl) ?_
  refine lv_ior hx hb dX8_soundFrom_5 ?_
  refine lv_bipush (v := 6) hx hb dX8_soundFrom_6 (by decide) ?_
  refine lv_ishl hx hb dX8_soundFrom_8 ?_
  refine lv_iload_n hx hb dX8_soundFrom_9 rfl (lv_at hl 0 rfl) ?_
  refine lv_iconst (v := 1) hx hb dX8_soundFrom_10 (by decide) ?_
  refine lv_iadd hx hb dX8_soundFrom_11 ?_
  refine lv_ior hx hb dX8_soundFrom_12 ?_
  have hf := Option.some.inj hf
  subst hf
  exact rt_i hx hb hr hlocks hK hP hS dX8_soundFrom_13

def f_X8_follow_J114 (v_t_marks : Nat → Int32) (x10 : Int32) : Option (Int32 × (Nat → Int32)) :=
  (some ((x10 - 1), v_t_marks))
def f_X8_follow_J108 (rc16 : (Int32) → (Int32) → (Int32) → (Int32) → (Int32) → (Nat → Int32) → Option (Int32 × (Nat → Int32))) (v_t_marks : Nat → Int32) (x2 : Int32) (x6 : Int32) (x7 : Int32) (x8 : Int32) (x9 : Int32) (x10 : Int32) (x12 : Int32) : Option (Int32 × (Nat → Int32)) :=
  (if 1 ≤ x8 then gd (ib (((x2 * 60) + x10) - 1) 480) ((rc16 x6 x7 x8 x9 (x10 + 1) (upd v_t_marks (Int32.toNatClampNeg (((x2 * 60) + x10) - 1)) x12))) else (f_X8_follow_J114 v_t_marks x10))
def f_X8_follow_J42 (v_t_marks : Nat → Int32) (x10 : Int32) : Option (Int32 × (Nat → Int32)) :=
  (some ((x10 - 1), v_t_marks))
def f_X8_follow_L16 (v_a1_columns : Int32) (v_a1_rows : Int32) (v_a1_fade : Int32) (v_a1_ground : Nat → Int32) (x2 : Int32) (x5 : Int32) : Nat → (Int32) → (Int32) → (Int32) → (Int32) → (Int32) → (Nat → Int32) → Option (Int32 × (Nat → Int32))
  | 0, _, _, _, _, _, _ => none
  | n + 1, x6, x7, x8, x9, x10, v_t_marks => (if 60 < x10 then (some (60, v_t_marks)) else (f_X2_ahead v_a1_columns v_a1_rows x7 x6).bind (fun z28 => (if z28 = (-1) then (f_X8_follow_J42 v_t_marks x10) else (f_X2_isRock v_a1_columns v_a1_rows v_a1_ground z28).bind (fun z50 => (if z50 = 0 then (f_X8_soundFrom z28 (x8 - v_a1_fade) x9).bind (fun z103 => (f_X8_follow_J108 (f_X8_follow_L16 v_a1_columns v_a1_rows v_a1_fade v_a1_ground x2 x5 n) v_t_marks x2 x6 z28 (x8 - v_a1_fade) x9 x10 z103)) else (f_X2_loudThrownBack v_a1_columns v_a1_rows v_a1_ground z28 x8 x5).bind (fun z63 => (f_X2_wayBack v_a1_columns v_a1_rows v_a1_ground x7 x6).bind (fun z73 => (f_X8_follow_J108 (f_X8_follow_L16 v_a1_columns v_a1_rows v_a1_fade v_a1_ground x2 x5 n) v_t_marks x2 z73 x7 z63 (x9 + 1) x10 0))))))))
def f_X8_follow (v_t_marks : Nat → Int32) (v_a1_columns : Int32) (v_a1_rows : Int32) (v_a1_fade : Int32) (v_a1_ground : Nat → Int32) (x2 : Int32) (x3 : Int32) (x4 : Int32) (x5 : Int32) : Option (Int32 × (Nat → Int32)) :=
  (f_X8_follow_L16 v_a1_columns v_a1_rows v_a1_fade v_a1_ground x2 x5 FU x2 x3 x4 0 1 v_t_marks)
theorem gv_X8_follow {own : String} {idx : Nat} (h : Cond.methodLink own idx yX8_follow ∈ lw_g) : GoodIn lw_g (wsV own idx RX8 yX8_follow (Cond.code yX8_follow cX8_follow 13 (some .int) :: lw_g)) := gV h w_591 w_11 w_64 w_592
theorem hd_X8_follow : yX8_follow.cls = RX8 ∧ yX8_follow.cls ≠ "java/lang/invoke/MethodHandle" ∧ yX8_follow.cls ≠ "java/lang/invoke/VarHandle" ∧ (parseMethodDescriptor yX8_follow.desc).map (fun d => d.parameters.length) = some 5 := by decide +kernel
set_option maxHeartbeats 4000000 in
set_option maxRecDepth 100000 in
theorem c_X8_follow (l : Launch) (D : va_G) (cI cJ cZ : ClassId) (en : EnT) (q_t q_t_marks q_t_lasting q_a1 q_a1_ground q_a1_windows q_a1_lawParts : Nat) (sz : Nat) (v_t_marks : Nat → Int32) (v_t_lasting : Nat → Int32) (v_a1_columns : Int32) (v_a1_rows : Int32) (v_a1_fade : Int32) (v_a1_laws : Int32) (v_a1_nightHours : Int32) (v_a1_nightTimes : Int32) (v_a1_ground : Nat → Int32) (v_a1_windows : Nat → Int32) (v_a1_lawParts : Nat → Int32) (x2 : Int32) (x3 : Int32) (x4 : Int32) (x5 : Int32) {z : Int32 × (Nat → Int32)} (hf : f_X8_follow v_t_marks v_a1_columns v_a1_rows v_a1_fade v_a1_ground x2 x3 x4 x5 = some z) : Met l yX8_follow (Cond.code yX8_follow cX8_follow 13 (some .int) :: lw_g) ({ frames := 3, cells := 0, slots := 0, locals := 67 } : Room) (PC D cI cJ cZ en ([.ref q_t, .ref q_a1, .int x2, .int x3, .int x4, .int x5] : List Value) [(q_t, .inr (8, [.ref q_t_marks, .ref q_t_lasting])), (q_t_marks, .inl (cI, 480, .inl v_t_marks)), (q_t_lasting, .inl (cI, 8, .inl v_t_lasting)), (q_a1, .inr (2, [.int v_a1_columns, .int v_a1_rows, .int v_a1_fade, .int v_a1_laws, .int v_a1_nightHours, .int v_a1_nightTimes, .ref q_a1_ground, .ref q_a1_windows, .ref q_a1_lawParts])), (q_a1_ground, .inl (cI, 36, .inl v_a1_ground)), (q_a1_windows, .inl (cI, 6, .inl v_a1_windows)), (q_a1_lawParts, .inl (cI, 18, .inl v_a1_lawParts))] sz) (QI D cI cJ cZ [(q_t, .inr (8, [.ref q_t_marks, .ref q_t_lasting])), (q_t_marks, .inl (cI, 480, .inl z.2)), (q_t_lasting, .inl (cI, 8, .inl v_t_lasting)), (q_a1, .inr (2, [.int v_a1_columns, .int v_a1_rows, .int v_a1_fade, .int v_a1_laws, .int v_a1_nightHours, .int v_a1_nightTimes, .ref q_a1_ground, .ref q_a1_windows, .ref q_a1_lawParts])), (q_a1_ground, .inl (cI, 36, .inl v_a1_ground)), (q_a1_windows, .inl (cI, 6, .inl v_a1_windows)), (q_a1_lawParts, .inl (cI, 18, .inl v_a1_lawParts))] z.1 (va_A [(q_t, .inr (8, [.ref q_t_marks, .ref q_t_lasting])), (q_t_marks, .inl (cI, 480, .inl v_t_marks)), (q_t_lasting, .inl (cI, 8, .inl v_t_lasting)), (q_a1, .inr (2, [.int v_a1_columns, .int v_a1_rows, .int v_a1_fade, .int v_a1_laws, .int v_a1_nightHours, .int v_a1_nightTimes, .ref q_a1_ground, .ref q_a1_windows, .ref q_a1_lawParts])), (q_a1_ground, .inl (cI, 36, .inl v_a1_ground)), (q_a1_windows, .inl (cI, 6, .inl v_a1_windows)), (q_a1_lawParts, .inl (cI, 18, .inl v_a1_lawParts))] sz)) 0 0 (va_A [(q_t, .inr (8, [.ref q_t_marks, .ref q_t_lasting])), (q_t_marks, .inl (cI, 480, .inl v_t_marks)), (q_t_lasting, .inl (cI, 8, .inl v_t_lasting)), (q_a1, .inr (2, [.int v_a1_columns, .int v_a1_rows, .int v_a1_fade, .int v_a1_laws, .int v_a1_nightHours, .int v_a1_nightTimes, .ref q_a1_ground, .ref q_a1_windows, .ref q_a1_lawParts])), (q_a1_ground, .inl (cI, 36, .inl v_a1_ground)), (q_a1_windows, .inl (cI, 6, .inl v_a1_windows)), (q_a1_lawParts, .inl (cI, 18, .inl v_a1_lawParts))] sz) := by
  refine mk_met (Qc := fun A => (QI D cI cJ cZ [(q_t, .inr (8, [.ref q_t_marks, .ref q_t_lasting])), (q_t_marks, .inl (cI, 480, .inl z.2)), (q_t_lasting, .inl (cI, 8, .inl v_t_lasting)), (q_a1, .inr (2, [.int v_a1_columns, .int v_a1_rows, .int v_a1_fade, .int v_a1_laws, .int v_a1_nightHours, .int v_a1_nightTimes, .ref q_a1_ground, .ref q_a1_windows, .ref q_a1_lawParts])), (q_a1_ground, .inl (cI, 36, .inl v_a1_ground)), (q_a1_windows, .inl (cI, 6, .inl v_a1_windows)), (q_a1_lawParts, .inl (cI, 18, .inl v_a1_lawParts))] z.1 A)) RX8 (by decide) rfl (Nat.le_of_ble_eq_true rfl) ?_
  intro p e s m below meth c ls A hx hb hr hml hown hts hlocks hA hK hE hl hD H locs hP hS
  have hl : lv_has ls 13 [(0, .ref q_t), (1, .ref q_a1), (2, .int x2), (3, .int x3), (4, .int x4), (5, .int x5)] := hl
  unfold f_X8_follow at hf
  refine lv_iload_n hx hb dX8_follow_0 rfl (lv_at hl 2 rfl) ?_
  refine lv_istore (lv' := [(6, .int x2), (0, .ref q_t), (1, .ref q_a1), (2, .int x2), (3, .int x3), (4, .int x4), (5, .int x5)]) hx hb dX8_follow_1 hl (by decide) rfl (fun ls hl => ?_)
  refine lv_iload_n hx hb dX8_follow_3 rfl (lv_at hl 4 rfl) ?_
  refine lv_istore (lv' := [(7, .int x3), (6, .int x2), (0, .ref q_t), (1, .ref q_a1), (2, .int x2), (3, .int x3), (4, .int x4), (5, .int x5)]) hx hb dX8_follow_4 hl (by decide) rfl (fun ls hl => ?_)
  refine lv_iload hx hb dX8_follow_6 (lv_at hl 6 rfl) ?_
  refine lv_istore (lv' := [(8, .int x4), (7, .int x3), (6, .int x2), (0, .ref q_t), (1, .ref q_a1), (2, .int x2), (3, .int x3), (4, .int x4), (5, .int x5)]) hx hb dX8_follow_8 hl (by decide) rfl (fun ls hl => ?_)
  refine lv_iconst (v := 0) hx hb dX8_follow_10 (by decide) ?_
  refine lv_istore (lv' := [(9, .int 0), (8, .int x4), (7, .int x3), (6, .int x2), (0, .ref q_t), (1, .ref q_a1), (2, .int x2), (3, .int x3), (4, .int x4), (5, .int x5)]) hx hb dX8_follow_11 hl (by decide) rfl (fun ls hl => ?_)
  refine lv_iconst (v := 1) hx hb dX8_follow_13 (by decide) ?_
  refine lv_istore (lv' := [(10, .int 1), (9, .int 0), (8, .int x4), (7, .int x3), (6, .int x2), (0, .ref q_t), (1, .ref q_a1), (2, .int x2), (3, .int x3), (4, .int x4), (5, .int x5)]) hx hb dX8_follow_14 hl (by decide) rfl (fun ls hl => ?_)
  have L16_7 : ∀ (n_9 : Nat) (x6_1 : Int32) (x7_2 : Int32) (x8_3 : Int32) (x9_4 : Int32) (x10_5 : Int32) (v_t_marks_6 : Nat → Int32), f_X8_follow_L16 v_a1_columns v_a1_rows v_a1_fade v_a1_ground x2 x5 n_9 x6_1 x7_2 x8_3 x9_4 x10_5 v_t_marks_6 = some z → ∀ (H : Heap) (locs : List Loc) (ls : Array Slot), va_P D vwCl [(q_t, .inr (8, [.ref q_t_marks, .ref q_t_lasting])), (q_t_marks, .inl (cI, 480, .inl v_t_marks_6)), (q_t_lasting, .inl (cI, 8, .inl v_t_lasting)), (q_a1, .inr (2, [.int v_a1_columns, .int v_a1_rows, .int v_a1_fade, .int v_a1_laws, .int v_a1_nightHours, .int v_a1_nightTimes, .ref q_a1_ground, .ref q_a1_windows, .ref q_a1_lawParts])), (q_a1_ground, .inl (cI, 36, .inl v_a1_ground)), (q_a1_windows, .inl (cI, 6, .inl v_a1_windows)), (q_a1_lawParts, .inl (cI, 18, .inl v_a1_lawParts))] H → va_D A [(q_t, .inr (8, [.ref q_t_marks, .ref q_t_lasting])), (q_t_marks, .inl (cI, 480, .inl v_t_marks_6)), (q_t_lasting, .inl (cI, 8, .inl v_t_lasting)), (q_a1, .inr (2, [.int v_a1_columns, .int v_a1_rows, .int v_a1_fade, .int v_a1_laws, .int v_a1_nightHours, .int v_a1_nightTimes, .ref q_a1_ground, .ref q_a1_windows, .ref q_a1_lawParts])), (q_a1_ground, .inl (cI, 36, .inl v_a1_ground)), (q_a1_windows, .inl (cI, 6, .inl v_a1_windows)), (q_a1_lawParts, .inl (cI, 18, .inl v_a1_lawParts))] → va_S A s.heap H locs → lv_has ls 13 [(0, .ref q_t), (1, .ref q_a1), (2, .int x2), (5, .int x5), (6, .int x6_1), (7, .int x7_2), (8, .int x8_3), (9, .int x9_4), (10, .int x10_5)] → W p l e ({ frames := 3, cells := 0, slots := 0, locals := 67 } : Room) s m ([.ref q_t, .ref q_a1, .int x2, .int x3, .int x4, .int x5] : List Value).toArray below meth c H locs 0 0 (MQ below (QI D cI cJ cZ [(q_t, .inr (8, [.ref q_t_marks, .ref q_t_lasting])), (q_t_marks, .inl (cI, 480, .inl z.2)), (q_t_lasting, .inl (cI, 8, .inl v_t_lasting)), (q_a1, .inr (2, [.int v_a1_columns, .int v_a1_rows, .int v_a1_fade, .int v_a1_laws, .int v_a1_nightHours, .int v_a1_nightTimes, .ref q_a1_ground, .ref q_a1_windows, .ref q_a1_lawParts])), (q_a1_ground, .inl (cI, 36, .inl v_a1_ground)), (q_a1_windows, .inl (cI, 6, .inl v_a1_windows)), (q_a1_lawParts, .inl (cI, 18, .inl v_a1_lawParts))] z.1 A) ([.ref q_t, .ref q_a1, .int x2, .int x3, .int x4, .int x5] : List Value).toArray s 0 0 A) (F0 m 16 ls []) := by
    intro n_9
    induction n_9 with
    | zero =>
      intro x6_1 x7_2 x8_3 x9_4 x10_5 v_t_marks_6 hf
      cases hf
    | succ n_9 ih_8 =>
      intro x6_1 x7_2 x8_3 x9_4 x10_5 v_t_marks_6 hf H locs ls hP hD hS hl
      rw [f_X8_follow_L16] at hf
      refine lv_iload hx hb dX8_follow_16 (lv_at hl 8 rfl) ?_
      refine lv_bipush (v := 60) hx hb dX8_follow_18 (by decide) ?_
      refine lv_icmp_gt (tgt := 141) hx hb dX8_follow_20 (by decide) (fun h_10 => ?_) (fun h_10 => ?_)
      · have hf := (if_pos h_10).symm.trans hf
        refine lv_bipush (v := 60) hx hb dX8_follow_141 (by decide) ?_
        have hf := Option.some.inj hf
        subst hf
        exact rt_i hx hb hr hlocks hK hP hS dX8_follow_143
      · have hf := (if_neg h_10).symm.trans hf
        refine lv_aload_n hx hb dX8_follow_23 rfl (lv_at hl 1 rfl) ?_
        refine lv_iload hx hb dX8_follow_24 (lv_at hl 5 rfl) ?_
        refine lv_iload hx hb dX8_follow_26 (lv_at hl 4 rfl) ?_
        obtain ⟨z28_11, hz28_11, hf⟩ := bd_some hf
        refine cVi (rest := []) ⟨hx, hb, hml, hown, hts⟩ hE hK hP hD hS hA (c_X2_ahead l D cI cJ cZ en q_a1 q_a1_ground q_a1_windows q_a1_lawParts H.size v_a1_columns v_a1_rows v_a1_fade v_a1_laws v_a1_nightHours v_a1_nightTimes v_a1_ground v_a1_windows v_a1_lawParts x7_2 x6_1 hz28_11) (gv_X2_ahead w_593) hd_X2_ahead ⟨rfl, rfl⟩ ⟨by decide, by decide⟩ [3, 4, 5, 6] (And.intro rfl (And.intro rfl (And.intro rfl (And.intro rfl trivial)))) rfl (And.intro rfl (And.intro rfl (And.intro rfl (And.intro rfl trivial)))) 2 rfl rfl 3 rfl  hl rfl (Nat.le_of_ble_eq_true rfl) ⟨Nat.zero_le _, Nat.zero_le _⟩ dX8_follow_28 (fun H locs hP hD hS => ?_)
        have hP : va_P D vwCl [(q_t, .inr (8, [.ref q_t_marks, .ref q_t_lasting])), (q_t_marks, .inl (cI, 480, .inl v_t_marks_6)), (q_t_lasting, .inl (cI, 8, .inl v_t_lasting)), (q_a1, .inr (2, [.int v_a1_columns, .int v_a1_rows, .int v_a1_fade, .int v_a1_laws, .int v_a1_nightHours, .int v_a1_nightTimes, .ref q_a1_ground, .ref q_a1_windows, .ref q_a1_lawParts])), (q_a1_ground, .inl (cI, 36, .inl v_a1_ground)), (q_a1_windows, .inl (cI, 6, .inl v_a1_windows)), (q_a1_lawParts, .inl (cI, 18, .inl v_a1_lawParts))] H := hP
        have hD : va_D A [(q_t, .inr (8, [.ref q_t_marks, .ref q_t_lasting])), (q_t_marks, .inl (cI, 480, .inl v_t_marks_6)), (q_t_lasting, .inl (cI, 8, .inl v_t_lasting)), (q_a1, .inr (2, [.int v_a1_columns, .int v_a1_rows, .int v_a1_fade, .int v_a1_laws, .int v_a1_nightHours, .int v_a1_nightTimes, .ref q_a1_ground, .ref q_a1_windows, .ref q_a1_lawParts])), (q_a1_ground, .inl (cI, 36, .inl v_a1_ground)), (q_a1_windows, .inl (cI, 6, .inl v_a1_windows)), (q_a1_lawParts, .inl (cI, 18, .inl v_a1_lawParts))] := hD
        refine lv_istore (lv' := [(11, .int z28_11), (0, .ref q_t), (1, .ref q_a1), (2, .int x2), (5, .int x5), (6, .int x6_1), (7, .int x7_2), (8, .int x8_3), (9, .int x9_4), (10, .int x10_5)]) hx hb dX8_follow_31 hl (by decide) rfl (fun ls hl => ?_)
        refine lv_iconst (v := 0) hx hb dX8_follow_33 (by decide) ?_
        refine lv_istore (lv' := [(12, .int 0), (11, .int z28_11), (0, .ref q_t), (1, .ref q_a1), (2, .int x2), (5, .int x5), (6, .int x6_1), (7, .int x7_2), (8, .int x8_3), (9, .int x9_4), (10, .int x10_5)]) hx hb dX8_follow_34 hl (by decide) rfl (fun ls hl => ?_)
        refine lv_iload hx hb dX8_follow_36 (lv_at hl 1 rfl) ?_
        refine lv_iconst (v := (-1)) hx hb dX8_follow_38 (by decide) ?_
        refine lv_icmp_ne (tgt := 47) hx hb dX8_follow_39 (by decide) (fun h_12 => ?_) (fun h_12 => ?_)
        · have hf := (if_neg h_12).symm.trans hf
          refine lv_aload_n hx hb dX8_follow_47 rfl (lv_at hl 3 rfl) ?_
          refine lv_iload hx hb dX8_follow_48 (lv_at hl 1 rfl) ?_
          obtain ⟨z50_13, hz50_13, hf⟩ := bd_some hf
          refine cVi (rest := []) ⟨hx, hb, hml, hown, hts⟩ hE hK hP hD hS hA (c_X2_isRock l D cI cJ cZ en q_a1 q_a1_ground q_a1_windows q_a1_lawParts H.size v_a1_columns v_a1_rows v_a1_fade v_a1_laws v_a1_nightHours v_a1_nightTimes v_a1_ground v_a1_windows v_a1_lawParts z28_11 hz50_13) (gv_X2_isRock w_610) hd_X2_isRock ⟨rfl, rfl⟩ ⟨by decide, by decide⟩ [3, 4, 5, 6] (And.intro rfl (And.intro rfl (And.intro rfl (And.intro rfl trivial)))) rfl (And.intro rfl (And.intro rfl (And.intro rfl (And.intro rfl trivial)))) 2 rfl rfl 3 rfl  hl rfl (Nat.le_of_ble_eq_true rfl) ⟨Nat.zero_le _, Nat.zero_le _⟩ dX8_follow_50 (fun H locs hP hD hS => ?_)
          have hP : va_P D vwCl [(q_t, .inr (8, [.ref q_t_marks, .ref q_t_lasting])), (q_t_marks, .inl (cI, 480, .inl v_t_marks_6)), (q_t_lasting, .inl (cI, 8, .inl v_t_lasting)), (q_a1, .inr (2, [.int v_a1_columns, .int v_a1_rows, .int v_a1_fade, .int v_a1_laws, .int v_a1_nightHours, .int v_a1_nightTimes, .ref q_a1_ground, .ref q_a1_windows, .ref q_a1_lawParts])), (q_a1_ground, .inl (cI, 36, .inl v_a1_ground)), (q_a1_windows, .inl (cI, 6, .inl v_a1_windows)), (q_a1_lawParts, .inl (cI, 18, .inl v_a1_lawParts))] H := hP
          have hD : va_D A [(q_t, .inr (8, [.ref q_t_marks, .ref q_t_lasting])), (q_t_marks, .inl (cI, 480, .inl v_t_marks_6)), (q_t_lasting, .inl (cI, 8, .inl v_t_lasting)), (q_a1, .inr (2, [.int v_a1_columns, .int v_a1_rows, .int v_a1_fade, .int v_a1_laws, .int v_a1_nightHours, .int v_a1_nightTimes, .ref q_a1_ground, .ref q_a1_windows, .ref q_a1_lawParts])), (q_a1_ground, .inl (cI, 36, .inl v_a1_ground)), (q_a1_windows, .inl (cI, 6, .inl v_a1_windows)), (q_a1_lawParts, .inl (cI, 18, .inl v_a1_lawParts))] := hD
          have J108_19 : ∀ (x6_14 : Int32) (x7_15 : Int32) (x8_16 : Int32) (x9_17 : Int32) (x12_18 : Int32), f_X8_follow_J108 (f_X8_follow_L16 v_a1_columns v_a1_rows v_a1_fade v_a1_ground x2 x5 n_9) v_t_marks_6 x2 x6_14 x7_15 x8_16 x9_17 x10_5 x12_18 = some z → ∀ (H : Heap) (locs : List Loc) (ls : Array Slot), va_P D vwCl [(q_t, .inr (8, [.ref q_t_marks, .ref q_t_lasting])), (q_t_marks, .inl (cI, 480, .inl v_t_marks_6)), (q_t_lasting, .inl (cI, 8, .inl v_t_lasting)), (q_a1, .inr (2, [.int v_a1_columns, .int v_a1_rows, .int v_a1_fade, .int v_a1_laws, .int v_a1_nightHours, .int v_a1_nightTimes, .ref q_a1_ground, .ref q_a1_windows, .ref q_a1_lawParts])), (q_a1_ground, .inl (cI, 36, .inl v_a1_ground)), (q_a1_windows, .inl (cI, 6, .inl v_a1_windows)), (q_a1_lawParts, .inl (cI, 18, .inl v_a1_lawParts))] H → va_D A [(q_t, .inr (8, [.ref q_t_marks, .ref q_t_lasting])), (q_t_marks, .inl (cI, 480, .inl v_t_marks_6)), (q_t_lasting, .inl (cI, 8, .inl v_t_lasting)), (q_a1, .inr (2, [.int v_a1_columns, .int v_a1_rows, .int v_a1_fade, .int v_a1_laws, .int v_a1_nightHours, .int v_a1_nightTimes, .ref q_a1_ground, .ref q_a1_windows, .ref q_a1_lawParts])), (q_a1_ground, .inl (cI, 36, .inl v_a1_ground)), (q_a1_windows, .inl (cI, 6, .inl v_a1_windows)), (q_a1_lawParts, .inl (cI, 18, .inl v_a1_lawParts))] → va_S A s.heap H locs → lv_has ls 13 [(0, .ref q_t), (1, .ref q_a1), (2, .int x2), (5, .int x5), (6, .int x6_14), (7, .int x7_15), (8, .int x8_16), (9, .int x9_17), (10, .int x10_5), (12, .int x12_18)] → W p l e ({ frames := 3, cells := 0, slots := 0, locals := 67 } : Room) s m ([.ref q_t, .ref q_a1, .int x2, .int x3, .int x4, .int x5] : List Value).toArray below meth c H locs 0 0 (MQ below (QI D cI cJ cZ [(q_t, .inr (8, [.ref q_t_marks, .ref q_t_lasting])), (q_t_marks, .inl (cI, 480, .inl z.2)), (q_t_lasting, .inl (cI, 8, .inl v_t_lasting)), (q_a1, .inr (2, [.int v_a1_columns, .int v_a1_rows, .int v_a1_fade, .int v_a1_laws, .int v_a1_nightHours, .int v_a1_nightTimes, .ref q_a1_ground, .ref q_a1_windows, .ref q_a1_lawParts])), (q_a1_ground, .inl (cI, 36, .inl v_a1_ground)), (q_a1_windows, .inl (cI, 6, .inl v_a1_windows)), (q_a1_lawParts, .inl (cI, 18, .inl v_a1_lawParts))] z.1 A) ([.ref q_t, .ref q_a1, .int x2, .int x3, .int x4, .int x5] : List Value).toArray s 0 0 A) (F0 m 108 ls []) := by
            intro x6_14 x7_15 x8_16 x9_17 x12_18 hf H locs ls hP hD hS hl
            unfold f_X8_follow_J108 at hf
            refine lv_iload hx hb dX8_follow_108 (lv_at hl 6 rfl) ?_
            refine lv_iconst (v := 1) hx hb dX8_follow_110 (by decide) ?_
            refine lv_icmp_ge (tgt := 119) hx hb dX8_follow_111 (by decide) (fun h_20 => ?_) (fun h_20 => ?_)
            · have hf := (if_pos h_20).symm.trans hf
              refine lv_aload_n hx hb dX8_follow_119 rfl (lv_at hl 0 rfl) ?_
              refine va_get (D := D) (ci := 8) (v := .ref q_t_marks) (C := RX8) (T := TX8) (N := 2) hx hb hts inX8 hown hK hP 0 rfl rfl 0 (by decide) (hts _ w_239) (fun _ h9 => h9) rfl dX8_follow_120 ?_
              refine lv_iload_n hx hb dX8_follow_123 rfl (lv_at hl 2 rfl) ?_
              refine lv_bipush (v := 60) hx hb dX8_follow_124 (by decide) ?_
              refine lv_imul hx hb dX8_follow_126 ?_
              refine lv_iload hx hb dX8_follow_127 (lv_at hl 8 rfl) ?_
              refine lv_iadd hx hb dX8_follow_129 ?_
              refine lv_iconst (v := 1) hx hb dX8_follow_130 (by decide) ?_
              refine lv_isub hx hb dX8_follow_131 ?_
              refine lv_iload hx hb dX8_follow_132 (lv_at hl 9 rfl) ?_
              obtain ⟨hin, hf⟩ := gd_some hf
              refine va_iast hx hb hK hP hD hS 1 0 rfl rfl hin dX8_follow_134 (fun H locs hP hD hS => ?_)
              have hP : va_P D vwCl [(q_t, .inr (8, [.ref q_t_marks, .ref q_t_lasting])), (q_t_marks, .inl (cI, 480, .inl (upd v_t_marks_6 (Int32.toNatClampNeg (((x2 * 60) + x10_5) - 1)) x12_18))), (q_t_lasting, .inl (cI, 8, .inl v_t_lasting)), (q_a1, .inr (2, [.int v_a1_columns, .int v_a1_rows, .int v_a1_fade, .int v_a1_laws, .int v_a1_nightHours, .int v_a1_nightTimes, .ref q_a1_ground, .ref q_a1_windows, .ref q_a1_lawParts])), (q_a1_ground, .inl (cI, 36, .inl v_a1_ground)), (q_a1_windows, .inl (cI, 6, .inl v_a1_windows)), (q_a1_lawParts, .inl (cI, 18, .inl v_a1_lawParts))] H := hP
              have hD : va_D A [(q_t, .inr (8, [.ref q_t_marks, .ref q_t_lasting])), (q_t_marks, .inl (cI, 480, .inl (upd v_t_marks_6 (Int32.toNatClampNeg (((x2 * 60) + x10_5) - 1)) x12_18))), (q_t_lasting, .inl (cI, 8, .inl v_t_lasting)), (q_a1, .inr (2, [.int v_a1_columns, .int v_a1_rows, .int v_a1_fade, .int v_a1_laws, .int v_a1_nightHours, .int v_a1_nightTimes, .ref q_a1_ground, .ref q_a1_windows, .ref q_a1_lawParts])), (q_a1_ground, .inl (cI, 36, .inl v_a1_ground)), (q_a1_windows, .inl (cI, 6, .inl v_a1_windows)), (q_a1_lawParts, .inl (cI, 18, .inl v_a1_lawParts))] := hD
              refine lv_iinc (v := (x10_5 + 1)) (lv' := [(10, .int (x10_5 + 1)), (0, .ref q_t), (1, .ref q_a1), (2, .int x2), (5, .int x5), (6, .int x6_14), (7, .int x7_15), (8, .int x8_16), (9, .int x9_17), (12, .int x12_18)]) hx hb dX8_follow_135 hl (k := 8) rfl rfl (by decide) rfl (fun ls hl => ?_)
              refine lv_goto (tgt := 16) hx hb dX8_follow_138 (by decide) ?_
              exact ih_8 x6_14 x7_15 x8_16 x9_17 (x10_5 + 1) (upd v_t_marks_6 (Int32.toNatClampNeg (((x2 * 60) + x10_5) - 1)) x12_18) hf _ _ _ hP hD hS (lv_sub hl [1, 2, 3, 4, 5, 6, 7, 8, 0] rfl)
            · have hf := (if_neg h_20).symm.trans hf
              unfold f_X8_follow_J114 at hf
              refine lv_iload hx hb dX8_follow_114 (lv_at hl 8 rfl) ?_
              refine lv_iconst (v := 1) hx hb dX8_follow_116 (by decide) ?_
              refine lv_isub hx hb dX8_follow_117 ?_
              have hf := Option.some.inj hf
              subst hf
              exact rt_i hx hb hr hlocks hK hP hS dX8_follow_118
          refine lv_if_eq (tgt := 84) hx hb dX8_follow_53 (by decide) (fun h_21 => ?_) (fun h_21 => ?_)
          · have hf := (if_pos h_21).symm.trans hf
            refine lv_iload hx hb dX8_follow_84 (lv_at hl 1 rfl) ?_
            refine lv_istore (lv' := [(7, .int z28_11), (12, .int 0), (11, .int z28_11), (0, .ref q_t), (1, .ref q_a1), (2, .int x2), (5, .int x5), (6, .int x6_1), (8, .int x8_3), (9, .int x9_4), (10, .int x10_5)]) hx hb dX8_follow_86 hl (by decide) rfl (fun ls hl => ?_)
            refine lv_iload hx hb dX8_follow_88 (lv_at hl 8 rfl) ?_
            refine lv_aload_n hx hb dX8_follow_90 rfl (lv_at hl 4 rfl) ?_
            refine va_get (D := D) (ci := 2) (v := .int v_a1_fade) (C := RX2) (T := TX2) (N := 9) hx hb hts inX2 hown hK hP 3 rfl rfl 2 (by decide) (hts _ w_140) (fun _ h9 => h9) rfl dX8_follow_91 ?_
            refine lv_isub hx hb dX8_follow_94 ?_
            refine lv_istore (lv' := [(8, .int (x8_3 - v_a1_fade)), (7, .int z28_11), (12, .int 0), (11, .int z28_11), (0, .ref q_t), (1, .ref q_a1), (2, .int x2), (5, .int x5), (6, .int x6_1), (9, .int x9_4), (10, .int x10_5)]) hx hb dX8_follow_95 hl (by decide) rfl (fun ls hl => ?_)
            refine lv_iload hx hb dX8_follow_97 (lv_at hl 1 rfl) ?_
            refine lv_iload hx hb dX8_follow_99 (lv_at hl 0 rfl) ?_
            refine lv_iload hx hb dX8_follow_101 (lv_at hl 9 rfl) ?_
            obtain ⟨z103_22, hz103_22, hf⟩ := bd_some hf
            refine cSi (rest := []) ⟨hx, hb, hml, hown, hts⟩ hE hK hP hD hS hA (c_X8_soundFrom l D cI cJ cZ en  H.size z28_11 (x8_3 - v_a1_fade) x9_4 hz103_22) (gs_X8_soundFrom w_624) hd_X8_soundFrom ⟨rfl, rfl⟩ ⟨by decide, by decide⟩ [] trivial rfl trivial  hl rfl (Nat.le_of_ble_eq_true rfl) ⟨Nat.zero_le _, Nat.zero_le _⟩ dX8_follow_103 (fun H locs hP hD hS => ?_)
            have hP : va_P D vwCl [(q_t, .inr (8, [.ref q_t_marks, .ref q_t_lasting])), (q_t_marks, .inl (cI, 480, .inl v_t_marks_6)), (q_t_lasting, .inl (cI, 8, .inl v_t_lasting)), (q_a1, .inr (2, [.int v_a1_columns, .int v_a1_rows, .int v_a1_fade, .int v_a1_laws, .int v_a1_nightHours, .int v_a1_nightTimes, .ref q_a1_ground, .ref q_a1_windows, .ref q_a1_lawParts])), (q_a1_ground, .inl (cI, 36, .inl v_a1_ground)), (q_a1_windows, .inl (cI, 6, .inl v_a1_windows)), (q_a1_lawParts, .inl (cI, 18, .inl v_a1_lawParts))] H := hP
            have hD : va_D A [(q_t, .inr (8, [.ref q_t_marks, .ref q_t_lasting])), (q_t_marks, .inl (cI, 480, .inl v_t_marks_6)), (q_t_lasting, .inl (cI, 8, .inl v_t_lasting)), (q_a1, .inr (2, [.int v_a1_columns, .int v_a1_rows, .int v_a1_fade, .int v_a1_laws, .int v_a1_nightHours, .int v_a1_nightTimes, .ref q_a1_ground, .ref q_a1_windows, .ref q_a1_lawParts])), (q_a1_ground, .inl (cI, 36, .inl v_a1_ground)), (q_a1_windows, .inl (cI, 6, .inl v_a1_windows)), (q_a1_lawParts, .inl (cI, 18, .inl v_a1_lawParts))] := hD
            refine lv_istore (lv' := [(12, .int z103_22), (8, .int (x8_3 - v_a1_fade)), (7, .int z28_11), (11, .int z28_11), (0, .ref q_t), (1, .ref q_a1), (2, .int x2), (5, .int x5), (6, .int x6_1), (9, .int x9_4), (10, .int x10_5)]) hx hb dX8_follow_106 hl (by decide) rfl (fun ls hl => ?_)
            exact J108_19 x6_1 z28_11 (x8_3 - v_a1_fade) x9_4 z103_22 hf _ _ _ hP hD hS (lv_sub hl [4, 5, 6, 7, 8, 2, 1, 9, 10, 0] rfl)
          · have hf := (if_neg h_21).symm.trans hf
            refine lv_aload_n hx hb dX8_follow_56 rfl (lv_at hl 3 rfl) ?_
            refine lv_iload hx hb dX8_follow_57 (lv_at hl 1 rfl) ?_
            refine lv_iload hx hb dX8_follow_59 (lv_at hl 8 rfl) ?_
            refine lv_iload hx hb dX8_follow_61 (lv_at hl 5 rfl) ?_
            obtain ⟨z63_23, hz63_23, hf⟩ := bd_some hf
            refine cVi (rest := []) ⟨hx, hb, hml, hown, hts⟩ hE hK hP hD hS hA (c_X2_loudThrownBack l D cI cJ cZ en q_a1 q_a1_ground q_a1_windows q_a1_lawParts H.size v_a1_columns v_a1_rows v_a1_fade v_a1_laws v_a1_nightHours v_a1_nightTimes v_a1_ground v_a1_windows v_a1_lawParts z28_11 x8_3 x5 hz63_23) (gv_X2_loudThrownBack w_611) hd_X2_loudThrownBack ⟨rfl, rfl⟩ ⟨by decide, by decide⟩ [3, 4, 5, 6] (And.intro rfl (And.intro rfl (And.intro rfl (And.intro rfl trivial)))) rfl (And.intro rfl (And.intro rfl (And.intro rfl (And.intro rfl trivial)))) 2 rfl rfl 3 rfl  hl rfl (Nat.le_of_ble_eq_true rfl) ⟨Nat.zero_le _, Nat.zero_le _⟩ dX8_follow_63 (fun H locs hP hD hS => ?_)
            have hP : va_P D vwCl [(q_t, .inr (8, [.ref q_t_marks, .ref q_t_lasting])), (q_t_marks, .inl (cI, 480, .inl v_t_marks_6)), (q_t_lasting, .inl (cI, 8, .inl v_t_lasting)), (q_a1, .inr (2, [.int v_a1_columns, .int v_a1_rows, .int v_a1_fade, .int v_a1_laws, .int v_a1_nightHours, .int v_a1_nightTimes, .ref q_a1_ground, .ref q_a1_windows, .ref q_a1_lawParts])), (q_a1_ground, .inl (cI, 36, .inl v_a1_ground)), (q_a1_windows, .inl (cI, 6, .inl v_a1_windows)), (q_a1_lawParts, .inl (cI, 18, .inl v_a1_lawParts))] H := hP
            have hD : va_D A [(q_t, .inr (8, [.ref q_t_marks, .ref q_t_lasting])), (q_t_marks, .inl (cI, 480, .inl v_t_marks_6)), (q_t_lasting, .inl (cI, 8, .inl v_t_lasting)), (q_a1, .inr (2, [.int v_a1_columns, .int v_a1_rows, .int v_a1_fade, .int v_a1_laws, .int v_a1_nightHours, .int v_a1_nightTimes, .ref q_a1_ground, .ref q_a1_windows, .ref q_a1_lawParts])), (q_a1_ground, .inl (cI, 36, .inl v_a1_ground)), (q_a1_windows, .inl (cI, 6, .inl v_a1_windows)), (q_a1_lawParts, .inl (cI, 18, .inl v_a1_lawParts))] := hD
            refine lv_istore (lv' := [(8, .int z63_23), (12, .int 0), (11, .int z28_11), (0, .ref q_t), (1, .ref q_a1), (2, .int x2), (5, .int x5), (6, .int x6_1), (7, .int x7_2), (9, .int x9_4), (10, .int x10_5)]) hx hb dX8_follow_66 hl (by decide) rfl (fun ls hl => ?_)
            refine lv_aload_n hx hb dX8_follow_68 rfl (lv_at hl 4 rfl) ?_
            refine lv_iload hx hb dX8_follow_69 (lv_at hl 8 rfl) ?_
            refine lv_iload hx hb dX8_follow_71 (lv_at hl 7 rfl) ?_
            obtain ⟨z73_24, hz73_24, hf⟩ := bd_some hf
            refine cVi (rest := []) ⟨hx, hb, hml, hown, hts⟩ hE hK hP hD hS hA (c_X2_wayBack l D cI cJ cZ en q_a1 q_a1_ground q_a1_windows q_a1_lawParts H.size v_a1_columns v_a1_rows v_a1_fade v_a1_laws v_a1_nightHours v_a1_nightTimes v_a1_ground v_a1_windows v_a1_lawParts x7_2 x6_1 hz73_24) (gv_X2_wayBack w_619) hd_X2_wayBack ⟨rfl, rfl⟩ ⟨by decide, by decide⟩ [3, 4, 5, 6] (And.intro rfl (And.intro rfl (And.intro rfl (And.intro rfl trivial)))) rfl (And.intro rfl (And.intro rfl (And.intro rfl (And.intro rfl trivial)))) 2 rfl rfl 3 rfl  hl rfl (Nat.le_of_ble_eq_true rfl) ⟨Nat.zero_le _, Nat.zero_le _⟩ dX8_follow_73 (fun H locs hP hD hS => ?_)
            have hP : va_P D vwCl [(q_t, .inr (8, [.ref q_t_marks, .ref q_t_lasting])), (q_t_marks, .inl (cI, 480, .inl v_t_marks_6)), (q_t_lasting, .inl (cI, 8, .inl v_t_lasting)), (q_a1, .inr (2, [.int v_a1_columns, .int v_a1_rows, .int v_a1_fade, .int v_a1_laws, .int v_a1_nightHours, .int v_a1_nightTimes, .ref q_a1_ground, .ref q_a1_windows, .ref q_a1_lawParts])), (q_a1_ground, .inl (cI, 36, .inl v_a1_ground)), (q_a1_windows, .inl (cI, 6, .inl v_a1_windows)), (q_a1_lawParts, .inl (cI, 18, .inl v_a1_lawParts))] H := hP
            have hD : va_D A [(q_t, .inr (8, [.ref q_t_marks, .ref q_t_lasting])), (q_t_marks, .inl (cI, 480, .inl v_t_marks_6)), (q_t_lasting, .inl (cI, 8, .inl v_t_lasting)), (q_a1, .inr (2, [.int v_a1_columns, .int v_a1_rows, .int v_a1_fade, .int v_a1_laws, .int v_a1_nightHours, .int v_a1_nightTimes, .ref q_a1_ground, .ref q_a1_windows, .ref q_a1_lawParts])), (q_a1_ground, .inl (cI, 36, .inl v_a1_ground)), (q_a1_windows, .inl (cI, 6, .inl v_a1_windows)), (q_a1_lawParts, .inl (cI, 18, .inl v_a1_lawParts))] := hD
            refine lv_istore (lv' := [(6, .int z73_24), (8, .int z63_23), (12, .int 0), (11, .int z28_11), (0, .ref q_t), (1, .ref q_a1), (2, .int x2), (5, .int x5), (7, .int x7_2), (9, .int x9_4), (10, .int x10_5)]) hx hb dX8_follow_76 hl (by decide) rfl (fun ls hl => ?_)
            refine lv_iinc (v := (x9_4 + 1)) (lv' := [(9, .int (x9_4 + 1)), (6, .int z73_24), (8, .int z63_23), (12, .int 0), (11, .int z28_11), (0, .ref q_t), (1, .ref q_a1), (2, .int x2), (5, .int x5), (7, .int x7_2), (10, .int x10_5)]) hx hb dX8_follow_78 hl (k := 9) rfl rfl (by decide) rfl (fun ls hl => ?_)
            refine lv_goto (tgt := 108) hx hb dX8_follow_81 (by decide) ?_
            exact J108_19 z73_24 x7_2 z63_23 (x9_4 + 1) 0 hf _ _ _ hP hD hS (lv_sub hl [5, 6, 7, 8, 1, 9, 2, 0, 10, 3] rfl)
        · have hf := (if_pos h_12).symm.trans hf
          unfold f_X8_follow_J42 at hf
          refine lv_iload hx hb dX8_follow_42 (lv_at hl 10 rfl) ?_
          refine lv_iconst (v := 1) hx hb dX8_follow_44 (by decide) ?_
          refine lv_isub hx hb dX8_follow_45 ?_
          have hf := Option.some.inj hf
          subst hf
          exact rt_i hx hb hr hlocks hK hP hS dX8_follow_46
  exact L16_7 FU x2 x3 x4 0 1 v_t_marks hf _ _ _ hP hD hS (lv_sub hl [5, 6, 7, 10, 4, 3, 2, 1, 0] rfl)

def f_X8_spread_L3 (v_a1_columns : Int32) (v_a1_rows : Int32) (v_a1_fade : Int32) (v_a1_ground : Nat → Int32) (x2 : Int32) (x3 : Int32) (x4 : Int32) : Nat → (Int32) → (Nat → Int32) → (Nat → Int32) → Option ((Nat → Int32) × (Nat → Int32))
  | 0, _, _, _ => none
  | n + 1, x5, v_t_marks, v_t_lasting => (if 8 ≤ x5 then (some (v_t_marks, v_t_lasting)) else (f_X8_follow v_t_marks v_a1_columns v_a1_rows v_a1_fade v_a1_ground x5 x2 x3 x4).bind (fun z24 => gd (ib x5 8) ((f_X8_spread_L3 v_a1_columns v_a1_rows v_a1_fade v_a1_ground x2 x3 x4 n (x5 + 1) z24.2 (upd v_t_lasting (Int32.toNatClampNeg x5) z24.1)))))
def f_X8_spread (v_t_marks : Nat → Int32) (v_t_lasting : Nat → Int32) (v_a1_columns : Int32) (v_a1_rows : Int32) (v_a1_fade : Int32) (v_a1_ground : Nat → Int32) (x2 : Int32) (x3 : Int32) (x4 : Int32) : Option ((Nat → Int32) × (Nat → Int32)) :=
  (f_X8_spread_L3 v_a1_columns v_a1_rows v_a1_fade v_a1_ground x2 x3 x4 FU 0 v_t_marks v_t_lasting)
theorem gv_X8_spread {own : String} {idx : Nat} (h : Cond.methodLink own idx yX8_spread ∈ lw_g) : GoodIn lw_g (wsV own idx RX8 yX8_spread (Cond.code yX8_spread cX8_spread 6 none :: lw_g)) := gV h w_586 w_587 w_64 w_588
theorem hd_X8_spread : yX8_spread.cls = RX8 ∧ yX8_spread.cls ≠ "java/lang/invoke/MethodHandle" ∧ yX8_spread.cls ≠ "java/lang/invoke/VarHandle" ∧ (parseMethodDescriptor yX8_spread.desc).map (fun d => d.parameters.length) = some 4 := by decide +kernel
set_option maxHeartbeats 4000000 in
set_option maxRecDepth 100000 in
theorem c_X8_spread (l : Launch) (D : va_G) (cI cJ cZ : ClassId) (en : EnT) (q_t q_t_marks q_t_lasting q_a1 q_a1_ground q_a1_windows q_a1_lawParts : Nat) (sz : Nat) (v_t_marks : Nat → Int32) (v_t_lasting : Nat → Int32) (v_a1_columns : Int32) (v_a1_rows : Int32) (v_a1_fade : Int32) (v_a1_laws : Int32) (v_a1_nightHours : Int32) (v_a1_nightTimes : Int32) (v_a1_ground : Nat → Int32) (v_a1_windows : Nat → Int32) (v_a1_lawParts : Nat → Int32) (x2 : Int32) (x3 : Int32) (x4 : Int32) {z : (Nat → Int32) × (Nat → Int32)} (hf : f_X8_spread v_t_marks v_t_lasting v_a1_columns v_a1_rows v_a1_fade v_a1_ground x2 x3 x4 = some z) : Met l yX8_spread (Cond.code yX8_spread cX8_spread 6 none :: lw_g) ({ frames := 4, cells := 0, slots := 0, locals := 99 } : Room) (PC D cI cJ cZ en ([.ref q_t, .ref q_a1, .int x2, .int x3, .int x4] : List Value) [(q_t, .inr (8, [.ref q_t_marks, .ref q_t_lasting])), (q_t_marks, .inl (cI, 480, .inl v_t_marks)), (q_t_lasting, .inl (cI, 8, .inl v_t_lasting)), (q_a1, .inr (2, [.int v_a1_columns, .int v_a1_rows, .int v_a1_fade, .int v_a1_laws, .int v_a1_nightHours, .int v_a1_nightTimes, .ref q_a1_ground, .ref q_a1_windows, .ref q_a1_lawParts])), (q_a1_ground, .inl (cI, 36, .inl v_a1_ground)), (q_a1_windows, .inl (cI, 6, .inl v_a1_windows)), (q_a1_lawParts, .inl (cI, 18, .inl v_a1_lawParts))] sz) (QV D cI cJ cZ [(q_t, .inr (8, [.ref q_t_marks, .ref q_t_lasting])), (q_t_marks, .inl (cI, 480, .inl z.1)), (q_t_lasting, .inl (cI, 8, .inl z.2)), (q_a1, .inr (2, [.int v_a1_columns, .int v_a1_rows, .int v_a1_fade, .int v_a1_laws, .int v_a1_nightHours, .int v_a1_nightTimes, .ref q_a1_ground, .ref q_a1_windows, .ref q_a1_lawParts])), (q_a1_ground, .inl (cI, 36, .inl v_a1_ground)), (q_a1_windows, .inl (cI, 6, .inl v_a1_windows)), (q_a1_lawParts, .inl (cI, 18, .inl v_a1_lawParts))] (va_A [(q_t, .inr (8, [.ref q_t_marks, .ref q_t_lasting])), (q_t_marks, .inl (cI, 480, .inl v_t_marks)), (q_t_lasting, .inl (cI, 8, .inl v_t_lasting)), (q_a1, .inr (2, [.int v_a1_columns, .int v_a1_rows, .int v_a1_fade, .int v_a1_laws, .int v_a1_nightHours, .int v_a1_nightTimes, .ref q_a1_ground, .ref q_a1_windows, .ref q_a1_lawParts])), (q_a1_ground, .inl (cI, 36, .inl v_a1_ground)), (q_a1_windows, .inl (cI, 6, .inl v_a1_windows)), (q_a1_lawParts, .inl (cI, 18, .inl v_a1_lawParts))] sz)) 0 0 (va_A [(q_t, .inr (8, [.ref q_t_marks, .ref q_t_lasting])), (q_t_marks, .inl (cI, 480, .inl v_t_marks)), (q_t_lasting, .inl (cI, 8, .inl v_t_lasting)), (q_a1, .inr (2, [.int v_a1_columns, .int v_a1_rows, .int v_a1_fade, .int v_a1_laws, .int v_a1_nightHours, .int v_a1_nightTimes, .ref q_a1_ground, .ref q_a1_windows, .ref q_a1_lawParts])), (q_a1_ground, .inl (cI, 36, .inl v_a1_ground)), (q_a1_windows, .inl (cI, 6, .inl v_a1_windows)), (q_a1_lawParts, .inl (cI, 18, .inl v_a1_lawParts))] sz) := by
  refine mk_met (Qc := fun A => (QV D cI cJ cZ [(q_t, .inr (8, [.ref q_t_marks, .ref q_t_lasting])), (q_t_marks, .inl (cI, 480, .inl z.1)), (q_t_lasting, .inl (cI, 8, .inl z.2)), (q_a1, .inr (2, [.int v_a1_columns, .int v_a1_rows, .int v_a1_fade, .int v_a1_laws, .int v_a1_nightHours, .int v_a1_nightTimes, .ref q_a1_ground, .ref q_a1_windows, .ref q_a1_lawParts])), (q_a1_ground, .inl (cI, 36, .inl v_a1_ground)), (q_a1_windows, .inl (cI, 6, .inl v_a1_windows)), (q_a1_lawParts, .inl (cI, 18, .inl v_a1_lawParts))] A)) RX8 (by decide) rfl (Nat.le_of_ble_eq_true rfl) ?_
  intro p e s m below meth c ls A hx hb hr hml hown hts hlocks hA hK hE hl hD H locs hP hS
  have hl : lv_has ls 6 [(0, .ref q_t), (1, .ref q_a1), (2, .int x2), (3, .int x3), (4, .int x4)] := hl
  unfold f_X8_spread at hf
  refine lv_iconst (v := 0) hx hb dX8_spread_0 (by decide) ?_
  refine lv_istore (lv' := [(5, .int 0), (0, .ref q_t), (1, .ref q_a1), (2, .int x2), (3, .int x3), (4, .int x4)]) hx hb dX8_spread_1 hl (by decide) rfl (fun ls hl => ?_)
  have L3_4 : ∀ (n_6 : Nat) (x5_1 : Int32) (v_t_marks_2 : Nat → Int32) (v_t_lasting_3 : Nat → Int32), f_X8_spread_L3 v_a1_columns v_a1_rows v_a1_fade v_a1_ground x2 x3 x4 n_6 x5_1 v_t_marks_2 v_t_lasting_3 = some z → ∀ (H : Heap) (locs : List Loc) (ls : Array Slot), va_P D vwCl [(q_t, .inr (8, [.ref q_t_marks, .ref q_t_lasting])), (q_t_marks, .inl (cI, 480, .inl v_t_marks_2)), (q_t_lasting, .inl (cI, 8, .inl v_t_lasting_3)), (q_a1, .inr (2, [.int v_a1_columns, .int v_a1_rows, .int v_a1_fade, .int v_a1_laws, .int v_a1_nightHours, .int v_a1_nightTimes, .ref q_a1_ground, .ref q_a1_windows, .ref q_a1_lawParts])), (q_a1_ground, .inl (cI, 36, .inl v_a1_ground)), (q_a1_windows, .inl (cI, 6, .inl v_a1_windows)), (q_a1_lawParts, .inl (cI, 18, .inl v_a1_lawParts))] H → va_D A [(q_t, .inr (8, [.ref q_t_marks, .ref q_t_lasting])), (q_t_marks, .inl (cI, 480, .inl v_t_marks_2)), (q_t_lasting, .inl (cI, 8, .inl v_t_lasting_3)), (q_a1, .inr (2, [.int v_a1_columns, .int v_a1_rows, .int v_a1_fade, .int v_a1_laws, .int v_a1_nightHours, .int v_a1_nightTimes, .ref q_a1_ground, .ref q_a1_windows, .ref q_a1_lawParts])), (q_a1_ground, .inl (cI, 36, .inl v_a1_ground)), (q_a1_windows, .inl (cI, 6, .inl v_a1_windows)), (q_a1_lawParts, .inl (cI, 18, .inl v_a1_lawParts))] → va_S A s.heap H locs → lv_has ls 6 [(0, .ref q_t), (1, .ref q_a1), (2, .int x2), (3, .int x3), (4, .int x4), (5, .int x5_1)] → W p l e ({ frames := 4, cells := 0, slots := 0, locals := 99 } : Room) s m ([.ref q_t, .ref q_a1, .int x2, .int x3, .int x4] : List Value).toArray below meth c H locs 0 0 (MQ below (QV D cI cJ cZ [(q_t, .inr (8, [.ref q_t_marks, .ref q_t_lasting])), (q_t_marks, .inl (cI, 480, .inl z.1)), (q_t_lasting, .inl (cI, 8, .inl z.2)), (q_a1, .inr (2, [.int v_a1_columns, .int v_a1_rows, .int v_a1_fade, .int v_a1_laws, .int v_a1_nightHours, .int v_a1_nightTimes, .ref q_a1_ground, .ref q_a1_windows, .ref q_a1_lawParts])), (q_a1_ground, .inl (cI, 36, .inl v_a1_ground)), (q_a1_windows, .inl (cI, 6, .inl v_a1_windows)), (q_a1_lawParts, .inl (cI, 18, .inl v_a1_lawParts))] A) ([.ref q_t, .ref q_a1, .int x2, .int x3, .int x4] : List Value).toArray s 0 0 A) (F0 m 3 ls []) := by
    intro n_6
    induction n_6 with
    | zero =>
      intro x5_1 v_t_marks_2 v_t_lasting_3 hf
      cases hf
    | succ n_6 ih_5 =>
      intro x5_1 v_t_marks_2 v_t_lasting_3 hf H locs ls hP hD hS hl
      rw [f_X8_spread_L3] at hf
      refine lv_iload hx hb dX8_spread_3 (lv_at hl 5 rfl) ?_
      refine lv_bipush (v := 8) hx hb dX8_spread_5 (by decide) ?_
      refine lv_icmp_ge (tgt := 34) hx hb dX8_spread_7 (by decide) (fun h_7 => ?_) (fun h_7 => ?_)
      · have hf := (if_pos h_7).symm.trans hf
        have hf := Option.some.inj hf
        subst hf
        exact rt_v hx hb hr hlocks hK hP hS dX8_spread_34
      · have hf := (if_neg h_7).symm.trans hf
        refine lv_aload_n hx hb dX8_spread_10 rfl (lv_at hl 0 rfl) ?_
        refine va_get (D := D) (ci := 8) (v := .ref q_t_lasting) (C := RX8) (T := TX8) (N := 2) hx hb hts inX8 hown hK hP 0 rfl rfl 1 (by decide) (hts _ w_240) (fun _ h9 => h9) rfl dX8_spread_11 ?_
        refine lv_iload hx hb dX8_spread_14 (lv_at hl 5 rfl) ?_
        refine lv_aload_n hx hb dX8_spread_16 rfl (lv_at hl 0 rfl) ?_
        refine lv_aload_n hx hb dX8_spread_17 rfl (lv_at hl 1 rfl) ?_
        refine lv_iload hx hb dX8_spread_18 (lv_at hl 5 rfl) ?_
        refine lv_iload_n hx hb dX8_spread_20 rfl (lv_at hl 2 rfl) ?_
        refine lv_iload_n hx hb dX8_spread_21 rfl (lv_at hl 3 rfl) ?_
        refine lv_iload hx hb dX8_spread_22 (lv_at hl 4 rfl) ?_
        obtain ⟨z24_8, hz24_8, hf⟩ := bd_some hf
        refine cVi (rest := [.int x5_1, .ref q_t_lasting]) ⟨hx, hb, hml, hown, hts⟩ hE hK hP hD hS hA (c_X8_follow l D cI cJ cZ en q_t q_t_marks q_t_lasting q_a1 q_a1_ground q_a1_windows q_a1_lawParts H.size v_t_marks_2 v_t_lasting_3 v_a1_columns v_a1_rows v_a1_fade v_a1_laws v_a1_nightHours v_a1_nightTimes v_a1_ground v_a1_windows v_a1_lawParts x5_1 x2 x3 x4 hz24_8) (gv_X8_follow w_589) hd_X8_follow ⟨rfl, rfl⟩ ⟨by decide, by decide⟩ [0, 1, 2, 3, 4, 5, 6] (And.intro rfl (And.intro rfl (And.intro rfl (And.intro rfl (And.intro rfl (And.intro rfl (And.intro rfl trivial))))))) rfl (And.intro rfl (And.intro rfl (And.intro rfl (And.intro rfl (And.intro rfl (And.intro rfl (And.intro rfl trivial))))))) 8 rfl rfl 0 rfl  hl rfl (Nat.le_of_ble_eq_true rfl) ⟨Nat.zero_le _, Nat.zero_le _⟩ dX8_spread_24 (fun H locs hP hD hS => ?_)
        have hP : va_P D vwCl [(q_t, .inr (8, [.ref q_t_marks, .ref q_t_lasting])), (q_t_marks, .inl (cI, 480, .inl z24_8.2)), (q_t_lasting, .inl (cI, 8, .inl v_t_lasting_3)), (q_a1, .inr (2, [.int v_a1_columns, .int v_a1_rows, .int v_a1_fade, .int v_a1_laws, .int v_a1_nightHours, .int v_a1_nightTimes, .ref q_a1_ground, .ref q_a1_windows, .ref q_a1_lawParts])), (q_a1_ground, .inl (cI, 36, .inl v_a1_ground)), (q_a1_windows, .inl (cI, 6, .inl v_a1_windows)), (q_a1_lawParts, .inl (cI, 18, .inl v_a1_lawParts))] H := hP
        have hD : va_D A [(q_t, .inr (8, [.ref q_t_marks, .ref q_t_lasting])), (q_t_marks, .inl (cI, 480, .inl z24_8.2)), (q_t_lasting, .inl (cI, 8, .inl v_t_lasting_3)), (q_a1, .inr (2, [.int v_a1_columns, .int v_a1_rows, .int v_a1_fade, .int v_a1_laws, .int v_a1_nightHours, .int v_a1_nightTimes, .ref q_a1_ground, .ref q_a1_windows, .ref q_a1_lawParts])), (q_a1_ground, .inl (cI, 36, .inl v_a1_ground)), (q_a1_windows, .inl (cI, 6, .inl v_a1_windows)), (q_a1_lawParts, .inl (cI, 18, .inl v_a1_lawParts))] := hD
        obtain ⟨hin, hf⟩ := gd_some hf
        refine va_iast hx hb hK hP hD hS 2 0 rfl rfl hin dX8_spread_27 (fun H locs hP hD hS => ?_)
        have hP : va_P D vwCl [(q_t, .inr (8, [.ref q_t_marks, .ref q_t_lasting])), (q_t_marks, .inl (cI, 480, .inl z24_8.2)), (q_t_lasting, .inl (cI, 8, .inl (upd v_t_lasting_3 (Int32.toNatClampNeg x5_1) z24_8.1))), (q_a1, .inr (2, [.int v_a1_columns, .int v_a1_rows, .int v_a1_fade, .int v_a1_laws, .int v_a1_nightHours, .int v_a1_nightTimes, .ref q_a1_ground, .ref q_a1_windows, .ref q_a1_lawParts])), (q_a1_ground, .inl (cI, 36, .inl v_a1_ground)), (q_a1_windows, .inl (cI, 6, .inl v_a1_windows)), (q_a1_lawParts, .inl (cI, 18, .inl v_a1_lawParts))] H := hP
        have hD : va_D A [(q_t, .inr (8, [.ref q_t_marks, .ref q_t_lasting])), (q_t_marks, .inl (cI, 480, .inl z24_8.2)), (q_t_lasting, .inl (cI, 8, .inl (upd v_t_lasting_3 (Int32.toNatClampNeg x5_1) z24_8.1))), (q_a1, .inr (2, [.int v_a1_columns, .int v_a1_rows, .int v_a1_fade, .int v_a1_laws, .int v_a1_nightHours, .int v_a1_nightTimes, .ref q_a1_ground, .ref q_a1_windows, .ref q_a1_lawParts])), (q_a1_ground, .inl (cI, 36, .inl v_a1_ground)), (q_a1_windows, .inl (cI, 6, .inl v_a1_windows)), (q_a1_lawParts, .inl (cI, 18, .inl v_a1_lawParts))] := hD
        refine lv_iinc (v := (x5_1 + 1)) (lv' := [(5, .int (x5_1 + 1)), (0, .ref q_t), (1, .ref q_a1), (2, .int x2), (3, .int x3), (4, .int x4)]) hx hb dX8_spread_28 hl (k := 5) rfl rfl (by decide) rfl (fun ls hl => ?_)
        refine lv_goto (tgt := 3) hx hb dX8_spread_31 (by decide) ?_
        exact ih_5 (x5_1 + 1) z24_8.2 (upd v_t_lasting_3 (Int32.toNatClampNeg x5_1) z24_8.1) hf _ _ _ hP hD hS (lv_sub hl [1, 2, 3, 4, 5, 0] rfl)
  exact L3_4 FU 0 v_t_marks v_t_lasting hf _ _ _ hP hD hS (lv_sub hl [1, 2, 3, 4, 5, 0] rfl)

def f_X8_firstTickAt_J37 (rc2 : (Int32) → Option (Int32)) (x2 : Int32) : Option (Int32) :=
  (rc2 (x2 + 1))
def f_X8_firstTickAt_L10 (rc2 : (Int32) → Option (Int32)) (v_t_marks : Nat → Int32) (v_t_lasting : Nat → Int32) (x1 : Int32) (x2 : Int32) : Nat → (Int32) → Option (Int32)
  | 0, _ => none
  | n + 1, x3 => (if 8 ≤ x3 then (f_X8_firstTickAt_J37 rc2 x2) else (f_X8_soundOf v_t_marks v_t_lasting x3 x2).bind (fun z19 => (f_X8_cellOf z19).bind (fun z22 => (if z22 = x1 then (some x2) else (f_X8_firstTickAt_L10 rc2 v_t_marks v_t_lasting x1 x2 n (x3 + 1))))))
def f_X8_firstTickAt_L2 (v_t_marks : Nat → Int32) (v_t_lasting : Nat → Int32) (x1 : Int32) : Nat → (Int32) → Option (Int32)
  | 0, _ => none
  | n + 1, x2 => (if 60 < x2 then (some (-1)) else (f_X8_firstTickAt_L10 (f_X8_firstTickAt_L2 v_t_marks v_t_lasting x1 n) v_t_marks v_t_lasting x1 x2 FU 0))
def f_X8_firstTickAt (v_t_marks : Nat → Int32) (v_t_lasting : Nat → Int32) (x1 : Int32) : Option (Int32) :=
  (f_X8_firstTickAt_L2 v_t_marks v_t_lasting x1 FU 1)
theorem gv_X8_firstTickAt {own : String} {idx : Nat} (h : Cond.methodLink own idx yX8_firstTickAt ∈ lw_g) : GoodIn lw_g (wsV own idx RX8 yX8_firstTickAt (Cond.code yX8_firstTickAt cX8_firstTickAt 4 (some .int) :: lw_g)) := gV h w_686 w_687 w_64 w_688
theorem hd_X8_firstTickAt : yX8_firstTickAt.cls = RX8 ∧ yX8_firstTickAt.cls ≠ "java/lang/invoke/MethodHandle" ∧ yX8_firstTickAt.cls ≠ "java/lang/invoke/VarHandle" ∧ (parseMethodDescriptor yX8_firstTickAt.desc).map (fun d => d.parameters.length) = some 1 := by decide +kernel
set_option maxHeartbeats 4000000 in
set_option maxRecDepth 100000 in
theorem c_X8_firstTickAt (l : Launch) (D : va_G) (cI cJ cZ : ClassId) (en : EnT) (q_t q_t_marks q_t_lasting : Nat) (sz : Nat) (v_t_marks : Nat → Int32) (v_t_lasting : Nat → Int32) (x1 : Int32) {z : Int32} (hf : f_X8_firstTickAt v_t_marks v_t_lasting x1 = some z) : Met l yX8_firstTickAt (Cond.code yX8_firstTickAt cX8_firstTickAt 4 (some .int) :: lw_g) ({ frames := 1, cells := 0, slots := 0, locals := 22 } : Room) (PC D cI cJ cZ en ([.ref q_t, .int x1] : List Value) [(q_t, .inr (8, [.ref q_t_marks, .ref q_t_lasting])), (q_t_marks, .inl (cI, 480, .inl v_t_marks)), (q_t_lasting, .inl (cI, 8, .inl v_t_lasting))] sz) (QI D cI cJ cZ [(q_t, .inr (8, [.ref q_t_marks, .ref q_t_lasting])), (q_t_marks, .inl (cI, 480, .inl v_t_marks)), (q_t_lasting, .inl (cI, 8, .inl v_t_lasting))] z (va_A [(q_t, .inr (8, [.ref q_t_marks, .ref q_t_lasting])), (q_t_marks, .inl (cI, 480, .inl v_t_marks)), (q_t_lasting, .inl (cI, 8, .inl v_t_lasting))] sz)) 0 0 (va_A [(q_t, .inr (8, [.ref q_t_marks, .ref q_t_lasting])), (q_t_marks, .inl (cI, 480, .inl v_t_marks)), (q_t_lasting, .inl (cI, 8, .inl v_t_lasting))] sz) := by
  refine mk_met (Qc := fun A => (QI D cI cJ cZ [(q_t, .inr (8, [.ref q_t_marks, .ref q_t_lasting])), (q_t_marks, .inl (cI, 480, .inl v_t_marks)), (q_t_lasting, .inl (cI, 8, .inl v_t_lasting))] z A)) RX8 (by decide) rfl (Nat.le_of_ble_eq_true rfl) ?_
  intro p e s m below meth c ls A hx hb hr hml hown hts hlocks hA hK hE hl hD H locs hP hS
  have hl : lv_has ls 4 [(0, .ref q_t), (1, .int x1)] := hl
  unfold f_X8_firstTickAt at hf
  refine lv_iconst (v := 1) hx hb dX8_firstTickAt_0 (by decide) ?_
  refine lv_istore_n (lv' := [(2, .int 1), (0, .ref q_t), (1, .int x1)]) hx hb dX8_firstTickAt_1 rfl hl (by decide) rfl (fun ls hl => ?_)
  have L2_2 : ∀ (n_4 : Nat) (x2_1 : Int32), f_X8_firstTickAt_L2 v_t_marks v_t_lasting x1 n_4 x2_1 = some z → ∀ (H : Heap) (locs : List Loc) (ls : Array Slot), va_P D vwCl [(q_t, .inr (8, [.ref q_t_marks, .ref q_t_lasting])), (q_t_marks, .inl (cI, 480, .inl v_t_marks)), (q_t_lasting, .inl (cI, 8, .inl v_t_lasting))] H → va_D A [(q_t, .inr (8, [.ref q_t_marks, .ref q_t_lasting])), (q_t_marks, .inl (cI, 480, .inl v_t_marks)), (q_t_lasting, .inl (cI, 8, .inl v_t_lasting))] → va_S A s.heap H locs → lv_has ls 4 [(0, .ref q_t), (1, .int x1), (2, .int x2_1)] → W p l e ({ frames := 1, cells := 0, slots := 0, locals := 22 } : Room) s m ([.ref q_t, .int x1] : List Value).toArray below meth c H locs 0 0 (MQ below (QI D cI cJ cZ [(q_t, .inr (8, [.ref q_t_marks, .ref q_t_lasting])), (q_t_marks, .inl (cI, 480, .inl v_t_marks)), (q_t_lasting, .inl (cI, 8, .inl v_t_lasting))] z A) ([.ref q_t, .int x1] : List Value).toArray s 0 0 A) (F0 m 2 ls []) := by
    intro n_4
    induction n_4 with
    | zero =>
      intro x2_1 hf
      cases hf
    | succ n_4 ih_3 =>
      intro x2_1 hf H locs ls hP hD hS hl
      rw [f_X8_firstTickAt_L2] at hf
      refine lv_iload_n hx hb dX8_firstTickAt_2 rfl (lv_at hl 2 rfl) ?_
      refine lv_bipush (v := 60) hx hb dX8_firstTickAt_3 (by decide) ?_
      refine lv_icmp_gt (tgt := 43) hx hb dX8_firstTickAt_5 (by decide) (fun h_5 => ?_) (fun h_5 => ?_)
      · have hf := (if_pos h_5).symm.trans hf
        refine lv_iconst (v := (-1)) hx hb dX8_firstTickAt_43 (by decide) ?_
        have hf := Option.some.inj hf
        subst hf
        exact rt_i hx hb hr hlocks hK hP hS dX8_firstTickAt_44
      · have hf := (if_neg h_5).symm.trans hf
        refine lv_iconst (v := 0) hx hb dX8_firstTickAt_8 (by decide) ?_
        refine lv_istore_n (lv' := [(3, .int 0), (0, .ref q_t), (1, .int x1), (2, .int x2_1)]) hx hb dX8_firstTickAt_9 rfl hl (by decide) rfl (fun ls hl => ?_)
        have L10_7 : ∀ (n_9 : Nat) (x3_6 : Int32), f_X8_firstTickAt_L10 (f_X8_firstTickAt_L2 v_t_marks v_t_lasting x1 n_4) v_t_marks v_t_lasting x1 x2_1 n_9 x3_6 = some z → ∀ (H : Heap) (locs : List Loc) (ls : Array Slot), va_P D vwCl [(q_t, .inr (8, [.ref q_t_marks, .ref q_t_lasting])), (q_t_marks, .inl (cI, 480, .inl v_t_marks)), (q_t_lasting, .inl (cI, 8, .inl v_t_lasting))] H → va_D A [(q_t, .inr (8, [.ref q_t_marks, .ref q_t_lasting])), (q_t_marks, .inl (cI, 480, .inl v_t_marks)), (q_t_lasting, .inl (cI, 8, .inl v_t_lasting))] → va_S A s.heap H locs → lv_has ls 4 [(0, .ref q_t), (1, .int x1), (2, .int x2_1), (3, .int x3_6)] → W p l e ({ frames := 1, cells := 0, slots := 0, locals := 22 } : Room) s m ([.ref q_t, .int x1] : List Value).toArray below meth c H locs 0 0 (MQ below (QI D cI cJ cZ [(q_t, .inr (8, [.ref q_t_marks, .ref q_t_lasting])), (q_t_marks, .inl (cI, 480, .inl v_t_marks)), (q_t_lasting, .inl (cI, 8, .inl v_t_lasting))] z A) ([.ref q_t, .int x1] : List Value).toArray s 0 0 A) (F0 m 10 ls []) := by
          intro n_9
          induction n_9 with
          | zero =>
            intro x3_6 hf
            cases hf
          | succ n_9 ih_8 =>
            intro x3_6 hf H locs ls hP hD hS hl
            rw [f_X8_firstTickAt_L10] at hf
            refine lv_iload_n hx hb dX8_firstTickAt_10 rfl (lv_at hl 3 rfl) ?_
            refine lv_bipush (v := 8) hx hb dX8_firstTickAt_11 (by decide) ?_
            refine lv_icmp_ge (tgt := 37) hx hb dX8_firstTickAt_13 (by decide) (fun h_10 => ?_) (fun h_10 => ?_)
            · have hf := (if_pos h_10).symm.trans hf
              unfold f_X8_firstTickAt_J37 at hf
              refine lv_iinc (v := (x2_1 + 1)) (lv' := [(2, .int (x2_1 + 1)), (0, .ref q_t), (1, .int x1), (3, .int x3_6)]) hx hb dX8_firstTickAt_37 hl (k := 2) rfl rfl (by decide) rfl (fun ls hl => ?_)
              refine lv_goto (tgt := 2) hx hb dX8_firstTickAt_40 (by decide) ?_
              exact ih_3 (x2_1 + 1) hf _ _ _ hP hD hS (lv_sub hl [1, 2, 0] rfl)
            · have hf := (if_neg h_10).symm.trans hf
              refine lv_aload_n hx hb dX8_firstTickAt_16 rfl (lv_at hl 0 rfl) ?_
              refine lv_iload_n hx hb dX8_firstTickAt_17 rfl (lv_at hl 3 rfl) ?_
              refine lv_iload_n hx hb dX8_firstTickAt_18 rfl (lv_at hl 2 rfl) ?_
              obtain ⟨z19_11, hz19_11, hf⟩ := bd_some hf
              refine cVi (rest := []) ⟨hx, hb, hml, hown, hts⟩ hE hK hP hD hS hA (c_X8_soundOf l D cI cJ cZ en q_t q_t_marks q_t_lasting H.size v_t_marks v_t_lasting x3_6 x2_1 hz19_11) (gv_X8_soundOf w_682) hd_X8_soundOf ⟨rfl, rfl⟩ ⟨by decide, by decide⟩ [0, 1, 2] (And.intro rfl (And.intro rfl (And.intro rfl trivial))) rfl (And.intro rfl (And.intro rfl (And.intro rfl trivial))) 8 rfl rfl 0 rfl  hl rfl (Nat.le_of_ble_eq_true rfl) ⟨Nat.zero_le _, Nat.zero_le _⟩ dX8_firstTickAt_19 (fun H locs hP hD hS => ?_)
              have hP : va_P D vwCl [(q_t, .inr (8, [.ref q_t_marks, .ref q_t_lasting])), (q_t_marks, .inl (cI, 480, .inl v_t_marks)), (q_t_lasting, .inl (cI, 8, .inl v_t_lasting))] H := hP
              have hD : va_D A [(q_t, .inr (8, [.ref q_t_marks, .ref q_t_lasting])), (q_t_marks, .inl (cI, 480, .inl v_t_marks)), (q_t_lasting, .inl (cI, 8, .inl v_t_lasting))] := hD
              obtain ⟨z22_12, hz22_12, hf⟩ := bd_some hf
              refine cSi (rest := []) ⟨hx, hb, hml, hown, hts⟩ hE hK hP hD hS hA (c_X8_cellOf l D cI cJ cZ en  H.size z19_11 hz22_12) (gs_X8_cellOf w_683) hd_X8_cellOf ⟨rfl, rfl⟩ ⟨by decide, by decide⟩ [] trivial rfl trivial  hl rfl (Nat.le_of_ble_eq_true rfl) ⟨Nat.zero_le _, Nat.zero_le _⟩ dX8_firstTickAt_22 (fun H locs hP hD hS => ?_)
              have hP : va_P D vwCl [(q_t, .inr (8, [.ref q_t_marks, .ref q_t_lasting])), (q_t_marks, .inl (cI, 480, .inl v_t_marks)), (q_t_lasting, .inl (cI, 8, .inl v_t_lasting))] H := hP
              have hD : va_D A [(q_t, .inr (8, [.ref q_t_marks, .ref q_t_lasting])), (q_t_marks, .inl (cI, 480, .inl v_t_marks)), (q_t_lasting, .inl (cI, 8, .inl v_t_lasting))] := hD
              refine lv_iload_n hx hb dX8_firstTickAt_25 rfl (lv_at hl 1 rfl) ?_
              refine lv_icmp_ne (tgt := 31) hx hb dX8_firstTickAt_26 (by decide) (fun h_13 => ?_) (fun h_13 => ?_)
              · have hf := (if_neg h_13).symm.trans hf
                refine lv_iinc (v := (x3_6 + 1)) (lv' := [(3, .int (x3_6 + 1)), (0, .ref q_t), (1, .int x1), (2, .int x2_1)]) hx hb dX8_firstTickAt_31 hl (k := 3) rfl rfl (by decide) rfl (fun ls hl => ?_)
                refine lv_goto (tgt := 10) hx hb dX8_firstTickAt_34 (by decide) ?_
                exact ih_8 (x3_6 + 1) hf _ _ _ hP hD hS (lv_sub hl [1, 2, 3, 0] rfl)
              · have hf := (if_pos h_13).symm.trans hf
                refine lv_iload_n hx hb dX8_firstTickAt_29 rfl (lv_at hl 2 rfl) ?_
                have hf := Option.some.inj hf
                subst hf
                exact rt_i hx hb hr hlocks hK hP hS dX8_firstTickAt_30
        exact L10_7 FU 0 hf _ _ _ hP hD hS (lv_sub hl [1, 2, 3, 0] rfl)
  exact L2_2 FU 1 hf _ _ _ hP hD hS (lv_sub hl [1, 2, 0] rfl)

def f_X8_howOften_J26 (rc5 : (Int32) → (Int32) → Option (Int32)) (x3 : Int32) (x4 : Int32) : Option (Int32) :=
  (rc5 x3 (x4 + 1))
def f_X8_howOften_L5 (v_t_marks : Nat → Int32) (v_t_lasting : Nat → Int32) (x1 : Int32) (x2 : Int32) : Nat → (Int32) → (Int32) → Option (Int32)
  | 0, _, _ => none
  | n + 1, x3, x4 => (if 8 ≤ x4 then (some x3) else (f_X8_soundOf v_t_marks v_t_lasting x4 x2).bind (fun z16 => (if z16 = x1 then (f_X8_howOften_J26 (f_X8_howOften_L5 v_t_marks v_t_lasting x1 x2 n) (x3 + 1) x4) else (f_X8_howOften_J26 (f_X8_howOften_L5 v_t_marks v_t_lasting x1 x2 n) x3 x4))))
def f_X8_howOften (v_t_marks : Nat → Int32) (v_t_lasting : Nat → Int32) (x1 : Int32) (x2 : Int32) : Option (Int32) :=
  (f_X8_howOften_L5 v_t_marks v_t_lasting x1 x2 FU 0 0)
theorem gv_X8_howOften {own : String} {idx : Nat} (h : Cond.methodLink own idx yX8_howOften ∈ lw_g) : GoodIn lw_g (wsV own idx RX8 yX8_howOften (Cond.code yX8_howOften cX8_howOften 5 (some .int) :: lw_g)) := gV h w_777 w_17 w_64 w_778
theorem hd_X8_howOften : yX8_howOften.cls = RX8 ∧ yX8_howOften.cls ≠ "java/lang/invoke/MethodHandle" ∧ yX8_howOften.cls ≠ "java/lang/invoke/VarHandle" ∧ (parseMethodDescriptor yX8_howOften.desc).map (fun d => d.parameters.length) = some 2 := by decide +kernel
set_option maxHeartbeats 4000000 in
set_option maxRecDepth 100000 in
theorem c_X8_howOften (l : Launch) (D : va_G) (cI cJ cZ : ClassId) (en : EnT) (q_t q_t_marks q_t_lasting : Nat) (sz : Nat) (v_t_marks : Nat → Int32) (v_t_lasting : Nat → Int32) (x1 : Int32) (x2 : Int32) {z : Int32} (hf : f_X8_howOften v_t_marks v_t_lasting x1 x2 = some z) : Met l yX8_howOften (Cond.code yX8_howOften cX8_howOften 5 (some .int) :: lw_g) ({ frames := 1, cells := 0, slots := 0, locals := 22 } : Room) (PC D cI cJ cZ en ([.ref q_t, .int x1, .int x2] : List Value) [(q_t, .inr (8, [.ref q_t_marks, .ref q_t_lasting])), (q_t_marks, .inl (cI, 480, .inl v_t_marks)), (q_t_lasting, .inl (cI, 8, .inl v_t_lasting))] sz) (QI D cI cJ cZ [(q_t, .inr (8, [.ref q_t_marks, .ref q_t_lasting])), (q_t_marks, .inl (cI, 480, .inl v_t_marks)), (q_t_lasting, .inl (cI, 8, .inl v_t_lasting))] z (va_A [(q_t, .inr (8, [.ref q_t_marks, .ref q_t_lasting])), (q_t_marks, .inl (cI, 480, .inl v_t_marks)), (q_t_lasting, .inl (cI, 8, .inl v_t_lasting))] sz)) 0 0 (va_A [(q_t, .inr (8, [.ref q_t_marks, .ref q_t_lasting])), (q_t_marks, .inl (cI, 480, .inl v_t_marks)), (q_t_lasting, .inl (cI, 8, .inl v_t_lasting))] sz) := by
  refine mk_met (Qc := fun A => (QI D cI cJ cZ [(q_t, .inr (8, [.ref q_t_marks, .ref q_t_lasting])), (q_t_marks, .inl (cI, 480, .inl v_t_marks)), (q_t_lasting, .inl (cI, 8, .inl v_t_lasting))] z A)) RX8 (by decide) rfl (Nat.le_of_ble_eq_true rfl) ?_
  intro p e s m below meth c ls A hx hb hr hml hown hts hlocks hA hK hE hl hD H locs hP hS
  have hl : lv_has ls 5 [(0, .ref q_t), (1, .int x1), (2, .int x2)] := hl
  unfold f_X8_howOften at hf
  refine lv_iconst (v := 0) hx hb dX8_howOften_0 (by decide) ?_
  refine lv_istore_n (lv' := [(3, .int 0), (0, .ref q_t), (1, .int x1), (2, .int x2)]) hx hb dX8_howOften_1 rfl hl (by decide) rfl (fun ls hl => ?_)
  refine lv_iconst (v := 0) hx hb dX8_howOften_2 (by decide) ?_
  refine lv_istore (lv' := [(4, .int 0), (3, .int 0), (0, .ref q_t), (1, .int x1), (2, .int x2)]) hx hb dX8_howOften_3 hl (by decide) rfl (fun ls hl => ?_)
  have L5_3 : ∀ (n_5 : Nat) (x3_1 : Int32) (x4_2 : Int32), f_X8_howOften_L5 v_t_marks v_t_lasting x1 x2 n_5 x3_1 x4_2 = some z → ∀ (H : Heap) (locs : List Loc) (ls : Array Slot), va_P D vwCl [(q_t, .inr (8, [.ref q_t_marks, .ref q_t_lasting])), (q_t_marks, .inl (cI, 480, .inl v_t_marks)), (q_t_lasting, .inl (cI, 8, .inl v_t_lasting))] H → va_D A [(q_t, .inr (8, [.ref q_t_marks, .ref q_t_lasting])), (q_t_marks, .inl (cI, 480, .inl v_t_marks)), (q_t_lasting, .inl (cI, 8, .inl v_t_lasting))] → va_S A s.heap H locs → lv_has ls 5 [(0, .ref q_t), (1, .int x1), (2, .int x2), (3, .int x3_1), (4, .int x4_2)] → W p l e ({ frames := 1, cells := 0, slots := 0, locals := 22 } : Room) s m ([.ref q_t, .int x1, .int x2] : List Value).toArray below meth c H locs 0 0 (MQ below (QI D cI cJ cZ [(q_t, .inr (8, [.ref q_t_marks, .ref q_t_lasting])), (q_t_marks, .inl (cI, 480, .inl v_t_marks)), (q_t_lasting, .inl (cI, 8, .inl v_t_lasting))] z A) ([.ref q_t, .int x1, .int x2] : List Value).toArray s 0 0 A) (F0 m 5 ls []) := by
    intro n_5
    induction n_5 with
    | zero =>
      intro x3_1 x4_2 hf
      cases hf
    | succ n_5 ih_4 =>
      intro x3_1 x4_2 hf H locs ls hP hD hS hl
      rw [f_X8_howOften_L5] at hf
      refine lv_iload hx hb dX8_howOften_5 (lv_at hl 4 rfl) ?_
      refine lv_bipush (v := 8) hx hb dX8_howOften_7 (by decide) ?_
      refine lv_icmp_ge (tgt := 32) hx hb dX8_howOften_9 (by decide) (fun h_6 => ?_) (fun h_6 => ?_)
      · have hf := (if_pos h_6).symm.trans hf
        refine lv_iload_n hx hb dX8_howOften_32 rfl (lv_at hl 3 rfl) ?_
        have hf := Option.some.inj hf
        subst hf
        exact rt_i hx hb hr hlocks hK hP hS dX8_howOften_33
      · have hf := (if_neg h_6).symm.trans hf
        refine lv_aload_n hx hb dX8_howOften_12 rfl (lv_at hl 0 rfl) ?_
        refine lv_iload hx hb dX8_howOften_13 (lv_at hl 4 rfl) ?_
        refine lv_iload_n hx hb dX8_howOften_15 rfl (lv_at hl 2 rfl) ?_
        obtain ⟨z16_7, hz16_7, hf⟩ := bd_some hf
        refine cVi (rest := []) ⟨hx, hb, hml, hown, hts⟩ hE hK hP hD hS hA (c_X8_soundOf l D cI cJ cZ en q_t q_t_marks q_t_lasting H.size v_t_marks v_t_lasting x4_2 x2 hz16_7) (gv_X8_soundOf w_682) hd_X8_soundOf ⟨rfl, rfl⟩ ⟨by decide, by decide⟩ [0, 1, 2] (And.intro rfl (And.intro rfl (And.intro rfl trivial))) rfl (And.intro rfl (And.intro rfl (And.intro rfl trivial))) 8 rfl rfl 0 rfl  hl rfl (Nat.le_of_ble_eq_true rfl) ⟨Nat.zero_le _, Nat.zero_le _⟩ dX8_howOften_16 (fun H locs hP hD hS => ?_)
        have hP : va_P D vwCl [(q_t, .inr (8, [.ref q_t_marks, .ref q_t_lasting])), (q_t_marks, .inl (cI, 480, .inl v_t_marks)), (q_t_lasting, .inl (cI, 8, .inl v_t_lasting))] H := hP
        have hD : va_D A [(q_t, .inr (8, [.ref q_t_marks, .ref q_t_lasting])), (q_t_marks, .inl (cI, 480, .inl v_t_marks)), (q_t_lasting, .inl (cI, 8, .inl v_t_lasting))] := hD
        refine lv_iload_n hx hb dX8_howOften_19 rfl (lv_at hl 1 rfl) ?_
        have J26_9 : ∀ (x3_8 : Int32), f_X8_howOften_J26 (f_X8_howOften_L5 v_t_marks v_t_lasting x1 x2 n_5) x3_8 x4_2 = some z → ∀ (H : Heap) (locs : List Loc) (ls : Array Slot), va_P D vwCl [(q_t, .inr (8, [.ref q_t_marks, .ref q_t_lasting])), (q_t_marks, .inl (cI, 480, .inl v_t_marks)), (q_t_lasting, .inl (cI, 8, .inl v_t_lasting))] H → va_D A [(q_t, .inr (8, [.ref q_t_marks, .ref q_t_lasting])), (q_t_marks, .inl (cI, 480, .inl v_t_marks)), (q_t_lasting, .inl (cI, 8, .inl v_t_lasting))] → va_S A s.heap H locs → lv_has ls 5 [(0, .ref q_t), (1, .int x1), (2, .int x2), (3, .int x3_8), (4, .int x4_2)] → W p l e ({ frames := 1, cells := 0, slots := 0, locals := 22 } : Room) s m ([.ref q_t, .int x1, .int x2] : List Value).toArray below meth c H locs 0 0 (MQ below (QI D cI cJ cZ [(q_t, .inr (8, [.ref q_t_marks, .ref q_t_lasting])), (q_t_marks, .inl (cI, 480, .inl v_t_marks)), (q_t_lasting, .inl (cI, 8, .inl v_t_lasting))] z A) ([.ref q_t, .int x1, .int x2] : List Value).toArray s 0 0 A) (F0 m 26 ls []) := by
          intro x3_8 hf H locs ls hP hD hS hl
          unfold f_X8_howOften_J26 at hf
          refine lv_iinc (v := (x4_2 + 1)) (lv' := [(4, .int (x4_2 + 1)), (0, .ref q_t), (1, .int x1), (2, .int x2), (3, .int x3_8)]) hx hb dX8_howOften_26 hl (k := 4) rfl rfl (by decide) rfl (fun ls hl => ?_)
          refine lv_goto (tgt := 5) hx hb dX8_howOften_29 (by decide) ?_
          exact ih_4 x3_8 (x4_2 + 1) hf _ _ _ hP hD hS (lv_sub hl [1, 2, 3, 4, 0] rfl)
        refine lv_icmp_ne (tgt := 26) hx hb dX8_howOften_20 (by decide) (fun h_10 => ?_) (fun h_10 => ?_)
        · have hf := (if_neg h_10).symm.trans hf
          exact J26_9 x3_1 hf _ _ _ hP hD hS (lv_sub hl [0, 1, 2, 3, 4] rfl)
        · have hf := (if_pos h_10).symm.trans hf
          refine lv_iinc (v := (x3_1 + 1)) (lv' := [(3, .int (x3_1 + 1)), (0, .ref q_t), (1, .int x1), (2, .int x2), (4, .int x4_2)]) hx hb dX8_howOften_23 hl (k := 3) rfl rfl (by decide) rfl (fun ls hl => ?_)
          exact J26_9 (x3_1 + 1) hf _ _ _ hP hD hS (lv_sub hl [1, 2, 3, 0, 4] rfl)
  exact L5_3 FU 0 0 hf _ _ _ hP hD hS (lv_sub hl [2, 3, 4, 1, 0] rfl)

def f_X8_asOften (v_t_marks : Nat → Int32) (v_t_lasting : Nat → Int32) (v_a4_marks : Nat → Int32) (v_a4_lasting : Nat → Int32) (x1 : Int32) (x2 : Int32) (x3 : Int32) : Option (Int32) :=
  (f_X8_cellOf x1).bind (fun z1 => (if z1 = x2 then (f_X8_howOften v_t_marks v_t_lasting x1 x3).bind (fun z13 => (f_X8_howOften v_a4_marks v_a4_lasting x1 x3).bind (fun z20 => (if z13 = z20 then (some 1) else (some 0)))) else (some 1)))
theorem gv_X8_asOften {own : String} {idx : Nat} (h : Cond.methodLink own idx yX8_asOften ∈ lw_g) : GoodIn lw_g (wsV own idx RX8 yX8_asOften (Cond.code yX8_asOften cX8_asOften 5 (some .boolean) :: lw_g)) := gV h w_773 w_16 w_64 w_774
theorem hd_X8_asOften : yX8_asOften.cls = RX8 ∧ yX8_asOften.cls ≠ "java/lang/invoke/MethodHandle" ∧ yX8_asOften.cls ≠ "java/lang/invoke/VarHandle" ∧ (parseMethodDescriptor yX8_asOften.desc).map (fun d => d.parameters.length) = some 4 := by decide +kernel
set_option maxHeartbeats 4000000 in
set_option maxRecDepth 100000 in
theorem c_X8_asOften (l : Launch) (D : va_G) (cI cJ cZ : ClassId) (en : EnT) (q_t q_t_marks q_t_lasting q_a4 q_a4_marks q_a4_lasting : Nat) (sz : Nat) (v_t_marks : Nat → Int32) (v_t_lasting : Nat → Int32) (v_a4_marks : Nat → Int32) (v_a4_lasting : Nat → Int32) (x1 : Int32) (x2 : Int32) (x3 : Int32) {z : Int32} (hf : f_X8_asOften v_t_marks v_t_lasting v_a4_marks v_a4_lasting x1 x2 x3 = some z) : Met l yX8_asOften (Cond.code yX8_asOften cX8_asOften 5 (some .boolean) :: lw_g) ({ frames := 2, cells := 0, slots := 0, locals := 46 } : Room) (PC D cI cJ cZ en ([.ref q_t, .int x1, .int x2, .int x3, .ref q_a4] : List Value) [(q_t, .inr (8, [.ref q_t_marks, .ref q_t_lasting])), (q_t_marks, .inl (cI, 480, .inl v_t_marks)), (q_t_lasting, .inl (cI, 8, .inl v_t_lasting)), (q_a4, .inr (8, [.ref q_a4_marks, .ref q_a4_lasting])), (q_a4_marks, .inl (cI, 480, .inl v_a4_marks)), (q_a4_lasting, .inl (cI, 8, .inl v_a4_lasting))] sz) (QI D cI cJ cZ [(q_t, .inr (8, [.ref q_t_marks, .ref q_t_lasting])), (q_t_marks, .inl (cI, 480, .inl v_t_marks)), (q_t_lasting, .inl (cI, 8, .inl v_t_lasting)), (q_a4, .inr (8, [.ref q_a4_marks, .ref q_a4_lasting])), (q_a4_marks, .inl (cI, 480, .inl v_a4_marks)), (q_a4_lasting, .inl (cI, 8, .inl v_a4_lasting))] z (va_A [(q_t, .inr (8, [.ref q_t_marks, .ref q_t_lasting])), (q_t_marks, .inl (cI, 480, .inl v_t_marks)), (q_t_lasting, .inl (cI, 8, .inl v_t_lasting)), (q_a4, .inr (8, [.ref q_a4_marks, .ref q_a4_lasting])), (q_a4_marks, .inl (cI, 480, .inl v_a4_marks)), (q_a4_lasting, .inl (cI, 8, .inl v_a4_lasting))] sz)) 0 0 (va_A [(q_t, .inr (8, [.ref q_t_marks, .ref q_t_lasting])), (q_t_marks, .inl (cI, 480, .inl v_t_marks)), (q_t_lasting, .inl (cI, 8, .inl v_t_lasting)), (q_a4, .inr (8, [.ref q_a4_marks, .ref q_a4_lasting])), (q_a4_marks, .inl (cI, 480, .inl v_a4_marks)), (q_a4_lasting, .inl (cI, 8, .inl v_a4_lasting))] sz) := by
  refine mk_met (Qc := fun A => (QI D cI cJ cZ [(q_t, .inr (8, [.ref q_t_marks, .ref q_t_lasting])), (q_t_marks, .inl (cI, 480, .inl v_t_marks)), (q_t_lasting, .inl (cI, 8, .inl v_t_lasting)), (q_a4, .inr (8, [.ref q_a4_marks, .ref q_a4_lasting])), (q_a4_marks, .inl (cI, 480, .inl v_a4_marks)), (q_a4_lasting, .inl (cI, 8, .inl v_a4_lasting))] z A)) RX8 (by decide) rfl (Nat.le_of_ble_eq_true rfl) ?_
  intro p e s m below meth c ls A hx hb hr hml hown hts hlocks hA hK hE hl hD H locs hP hS
  have hl : lv_has ls 5 [(0, .ref q_t), (1, .int x1), (2, .int x2), (3, .int x3), (4, .ref q_a4)] := hl
  unfold f_X8_asOften at hf
  refine lv_iload_n hx hb dX8_asOften_0 rfl (lv_at hl 1 rfl) ?_
  obtain ⟨z1_1, hz1_1, hf⟩ := bd_some hf
  refine cSi (rest := []) ⟨hx, hb, hml, hown, hts⟩ hE hK hP hD hS hA (c_X8_cellOf l D cI cJ cZ en  H.size x1 hz1_1) (gs_X8_cellOf w_683) hd_X8_cellOf ⟨rfl, rfl⟩ ⟨by decide, by decide⟩ [] trivial rfl trivial  hl rfl (Nat.le_of_ble_eq_true rfl) ⟨Nat.zero_le _, Nat.zero_le _⟩ dX8_asOften_1 (fun H locs hP hD hS => ?_)
  have hP : va_P D vwCl [(q_t, .inr (8, [.ref q_t_marks, .ref q_t_lasting])), (q_t_marks, .inl (cI, 480, .inl v_t_marks)), (q_t_lasting, .inl (cI, 8, .inl v_t_lasting)), (q_a4, .inr (8, [.ref q_a4_marks, .ref q_a4_lasting])), (q_a4_marks, .inl (cI, 480, .inl v_a4_marks)), (q_a4_lasting, .inl (cI, 8, .inl v_a4_lasting))] H := hP
  have hD : va_D A [(q_t, .inr (8, [.ref q_t_marks, .ref q_t_lasting])), (q_t_marks, .inl (cI, 480, .inl v_t_marks)), (q_t_lasting, .inl (cI, 8, .inl v_t_lasting)), (q_a4, .inr (8, [.ref q_a4_marks, .ref q_a4_lasting])), (q_a4_marks, .inl (cI, 480, .inl v_a4_marks)), (q_a4_lasting, .inl (cI, 8, .inl v_a4_lasting))] := hD
  refine lv_iload_n hx hb dX8_asOften_4 rfl (lv_at hl 2 rfl) ?_
  refine lv_icmp_eq (tgt := 10) hx hb dX8_asOften_5 (by decide) (fun h_2 => ?_) (fun h_2 => ?_)
  · have hf := (if_pos h_2).symm.trans hf
    refine lv_aload_n hx hb dX8_asOften_10 rfl (lv_at hl 0 rfl) ?_
    refine lv_iload_n hx hb dX8_asOften_11 rfl (lv_at hl 1 rfl) ?_
    refine lv_iload_n hx hb dX8_asOften_12 rfl (lv_at hl 3 rfl) ?_
    obtain ⟨z13_3, hz13_3, hf⟩ := bd_some hf
    refine cVi (rest := []) ⟨hx, hb, hml, hown, hts⟩ hE hK hP hD hS hA (c_X8_howOften l D cI cJ cZ en q_t q_t_marks q_t_lasting H.size v_t_marks v_t_lasting x1 x3 hz13_3) (gv_X8_howOften w_775) hd_X8_howOften ⟨rfl, rfl⟩ ⟨by decide, by decide⟩ [0, 1, 2] (And.intro rfl (And.intro rfl (And.intro rfl trivial))) rfl (And.intro rfl (And.intro rfl (And.intro rfl trivial))) 8 rfl rfl 0 rfl  hl rfl (Nat.le_of_ble_eq_true rfl) ⟨Nat.zero_le _, Nat.zero_le _⟩ dX8_asOften_13 (fun H locs hP hD hS => ?_)
    have hP : va_P D vwCl [(q_t, .inr (8, [.ref q_t_marks, .ref q_t_lasting])), (q_t_marks, .inl (cI, 480, .inl v_t_marks)), (q_t_lasting, .inl (cI, 8, .inl v_t_lasting)), (q_a4, .inr (8, [.ref q_a4_marks, .ref q_a4_lasting])), (q_a4_marks, .inl (cI, 480, .inl v_a4_marks)), (q_a4_lasting, .inl (cI, 8, .inl v_a4_lasting))] H := hP
    have hD : va_D A [(q_t, .inr (8, [.ref q_t_marks, .ref q_t_lasting])), (q_t_marks, .inl (cI, 480, .inl v_t_marks)), (q_t_lasting, .inl (cI, 8, .inl v_t_lasting)), (q_a4, .inr (8, [.ref q_a4_marks, .ref q_a4_lasting])), (q_a4_marks, .inl (cI, 480, .inl v_a4_marks)), (q_a4_lasting, .inl (cI, 8, .inl v_a4_lasting))] := hD
    refine lv_aload hx hb dX8_asOften_16 (lv_at hl 4 rfl) ?_
    refine lv_iload_n hx hb dX8_asOften_18 rfl (lv_at hl 1 rfl) ?_
    refine lv_iload_n hx hb dX8_asOften_19 rfl (lv_at hl 3 rfl) ?_
    obtain ⟨z20_4, hz20_4, hf⟩ := bd_some hf
    refine cVi (rest := [.int z13_3]) ⟨hx, hb, hml, hown, hts⟩ hE hK hP hD hS hA (c_X8_howOften l D cI cJ cZ en q_a4 q_a4_marks q_a4_lasting H.size v_a4_marks v_a4_lasting x1 x3 hz20_4) (gv_X8_howOften w_775) hd_X8_howOften ⟨rfl, rfl⟩ ⟨by decide, by decide⟩ [3, 4, 5] (And.intro rfl (And.intro rfl (And.intro rfl trivial))) rfl (And.intro rfl (And.intro rfl (And.intro rfl trivial))) 8 rfl rfl 3 rfl  hl rfl (Nat.le_of_ble_eq_true rfl) ⟨Nat.zero_le _, Nat.zero_le _⟩ dX8_asOften_20 (fun H locs hP hD hS => ?_)
    have hP : va_P D vwCl [(q_t, .inr (8, [.ref q_t_marks, .ref q_t_lasting])), (q_t_marks, .inl (cI, 480, .inl v_t_marks)), (q_t_lasting, .inl (cI, 8, .inl v_t_lasting)), (q_a4, .inr (8, [.ref q_a4_marks, .ref q_a4_lasting])), (q_a4_marks, .inl (cI, 480, .inl v_a4_marks)), (q_a4_lasting, .inl (cI, 8, .inl v_a4_lasting))] H := hP
    have hD : va_D A [(q_t, .inr (8, [.ref q_t_marks, .ref q_t_lasting])), (q_t_marks, .inl (cI, 480, .inl v_t_marks)), (q_t_lasting, .inl (cI, 8, .inl v_t_lasting)), (q_a4, .inr (8, [.ref q_a4_marks, .ref q_a4_lasting])), (q_a4_marks, .inl (cI, 480, .inl v_a4_marks)), (q_a4_lasting, .inl (cI, 8, .inl v_a4_lasting))] := hD
    refine lv_icmp_ne (tgt := 30) hx hb dX8_asOften_23 (by decide) (fun h_5 => ?_) (fun h_5 => ?_)
    · have hf := (if_neg h_5).symm.trans hf
      refine lv_iconst (v := 0) hx hb dX8_asOften_30 (by decide) ?_
      have hf := Option.some.inj hf
      subst hf
      exact rt_z hx hb hr hlocks hK hP hS (Or.inl rfl) dX8_asOften_31
    · have hf := (if_pos h_5).symm.trans hf
      refine lv_iconst (v := 1) hx hb dX8_asOften_26 (by decide) ?_
      refine lv_goto (tgt := 31) hx hb dX8_asOften_27 (by decide) ?_
      have hf := Option.some.inj hf
      subst hf
      exact rt_z hx hb hr hlocks hK hP hS (Or.inr rfl) dX8_asOften_31
  · have hf := (if_neg h_2).symm.trans hf
    refine lv_iconst (v := 1) hx hb dX8_asOften_8 (by decide) ?_
    have hf := Option.some.inj hf
    subst hf
    exact rt_z hx hb hr hlocks hK hP hS (Or.inr rfl) dX8_asOften_9

def f_X8_comingTo_J64 (rc5 : (Int32) → (Int32) → Option (Int32)) (x3 : Int32) (x4 : Int32) : Option (Int32) :=
  (rc5 x3 (x4 + 1))
def f_X8_comingTo_J58 (rc15 : (Int32) → (Int32) → Option (Int32)) (x3 : Int32) (x5 : Int32) : Option (Int32) :=
  (rc15 x3 (x5 + 1))
def f_X8_comingTo_L15 (rc5 : (Int32) → (Int32) → Option (Int32)) (v_t_marks : Nat → Int32) (v_t_lasting : Nat → Int32) (x1 : Int32) (x2 : Int32) (x4 : Int32) : Nat → (Int32) → (Int32) → Option (Int32)
  | 0, _, _ => none
  | n + 1, x3, x5 => gd (ib x4 8) ((if (v_t_lasting (Int32.toNatClampNeg x4)) < x5 then (f_X8_comingTo_J64 rc5 x3 x4) else (f_X8_soundOf v_t_marks v_t_lasting x4 x5).bind (fun z32 => (f_X8_cellOf z32).bind (fun z39 => (if z39 = x1 then (f_X8_thrownOf z32).bind (fun z48 => (if z48 < x2 then (f_X8_comingTo_J58 (f_X8_comingTo_L15 rc5 v_t_marks v_t_lasting x1 x2 x4 n) x3 x5) else (f_X8_comingTo_J58 (f_X8_comingTo_L15 rc5 v_t_marks v_t_lasting x1 x2 x4 n) (x3 + 1) x5))) else (f_X8_comingTo_J58 (f_X8_comingTo_L15 rc5 v_t_marks v_t_lasting x1 x2 x4 n) x3 x5))))))
def f_X8_comingTo_L5 (v_t_marks : Nat → Int32) (v_t_lasting : Nat → Int32) (x1 : Int32) (x2 : Int32) : Nat → (Int32) → (Int32) → Option (Int32)
  | 0, _, _ => none
  | n + 1, x3, x4 => (if 8 ≤ x4 then (some x3) else (f_X8_comingTo_L15 (f_X8_comingTo_L5 v_t_marks v_t_lasting x1 x2 n) v_t_marks v_t_lasting x1 x2 x4 FU x3 1))
def f_X8_comingTo (v_t_marks : Nat → Int32) (v_t_lasting : Nat → Int32) (x1 : Int32) (x2 : Int32) : Option (Int32) :=
  (f_X8_comingTo_L5 v_t_marks v_t_lasting x1 x2 FU 0 0)
theorem gv_X8_comingTo {own : String} {idx : Nat} (h : Cond.methodLink own idx yX8_comingTo ∈ lw_g) : GoodIn lw_g (wsV own idx RX8 yX8_comingTo (Cond.code yX8_comingTo cX8_comingTo 7 (some .int) :: lw_g)) := gV h w_679 w_680 w_64 w_681
theorem hd_X8_comingTo : yX8_comingTo.cls = RX8 ∧ yX8_comingTo.cls ≠ "java/lang/invoke/MethodHandle" ∧ yX8_comingTo.cls ≠ "java/lang/invoke/VarHandle" ∧ (parseMethodDescriptor yX8_comingTo.desc).map (fun d => d.parameters.length) = some 2 := by decide +kernel
set_option maxHeartbeats 4000000 in
set_option maxRecDepth 100000 in
theorem c_X8_comingTo (l : Launch) (D : va_G) (cI cJ cZ : ClassId) (en : EnT) (q_t q_t_marks q_t_lasting : Nat) (sz : Nat) (v_t_marks : Nat → Int32) (v_t_lasting : Nat → Int32) (x1 : Int32) (x2 : Int32) {z : Int32} (hf : f_X8_comingTo v_t_marks v_t_lasting x1 x2 = some z) : Met l yX8_comingTo (Cond.code yX8_comingTo cX8_comingTo 7 (some .int) :: lw_g) ({ frames := 1, cells := 0, slots := 0, locals := 22 } : Room) (PC D cI cJ cZ en ([.ref q_t, .int x1, .int x2] : List Value) [(q_t, .inr (8, [.ref q_t_marks, .ref q_t_lasting])), (q_t_marks, .inl (cI, 480, .inl v_t_marks)), (q_t_lasting, .inl (cI, 8, .inl v_t_lasting))] sz) (QI D cI cJ cZ [(q_t, .inr (8, [.ref q_t_marks, .ref q_t_lasting])), (q_t_marks, .inl (cI, 480, .inl v_t_marks)), (q_t_lasting, .inl (cI, 8, .inl v_t_lasting))] z (va_A [(q_t, .inr (8, [.ref q_t_marks, .ref q_t_lasting])), (q_t_marks, .inl (cI, 480, .inl v_t_marks)), (q_t_lasting, .inl (cI, 8, .inl v_t_lasting))] sz)) 0 0 (va_A [(q_t, .inr (8, [.ref q_t_marks, .ref q_t_lasting])), (q_t_marks, .inl (cI, 480, .inl v_t_marks)), (q_t_lasting, .inl (cI, 8, .inl v_t_lasting))] sz) := by
  refine mk_met (Qc := fun A => (QI D cI cJ cZ [(q_t, .inr (8, [.ref q_t_marks, .ref q_t_lasting])), (q_t_marks, .inl (cI, 480, .inl v_t_marks)), (q_t_lasting, .inl (cI, 8, .inl v_t_lasting))] z A)) RX8 (by decide) rfl (Nat.le_of_ble_eq_true rfl) ?_
  intro p e s m below meth c ls A hx hb hr hml hown hts hlocks hA hK hE hl hD H locs hP hS
  have hl : lv_has ls 7 [(0, .ref q_t), (1, .int x1), (2, .int x2)] := hl
  unfold f_X8_comingTo at hf
  refine lv_iconst (v := 0) hx hb dX8_comingTo_0 (by decide) ?_
  refine lv_istore_n (lv' := [(3, .int 0), (0, .ref q_t), (1, .int x1), (2, .int x2)]) hx hb dX8_comingTo_1 rfl hl (by decide) rfl (fun ls hl => ?_)
  refine lv_iconst (v := 0) hx hb dX8_comingTo_2 (by decide) ?_
  refine lv_istore (lv' := [(4, .int 0), (3, .int 0), (0, .ref q_t), (1, .int x1), (2, .int x2)]) hx hb dX8_comingTo_3 hl (by decide) rfl (fun ls hl => ?_)
  have L5_3 : ∀ (n_5 : Nat) (x3_1 : Int32) (x4_2 : Int32), f_X8_comingTo_L5 v_t_marks v_t_lasting x1 x2 n_5 x3_1 x4_2 = some z → ∀ (H : Heap) (locs : List Loc) (ls : Array Slot), va_P D vwCl [(q_t, .inr (8, [.ref q_t_marks, .ref q_t_lasting])), (q_t_marks, .inl (cI, 480, .inl v_t_marks)), (q_t_lasting, .inl (cI, 8, .inl v_t_lasting))] H → va_D A [(q_t, .inr (8, [.ref q_t_marks, .ref q_t_lasting])), (q_t_marks, .inl (cI, 480, .inl v_t_marks)), (q_t_lasting, .inl (cI, 8, .inl v_t_lasting))] → va_S A s.heap H locs → lv_has ls 7 [(0, .ref q_t), (1, .int x1), (2, .int x2), (3, .int x3_1), (4, .int x4_2)] → W p l e ({ frames := 1, cells := 0, slots := 0, locals := 22 } : Room) s m ([.ref q_t, .int x1, .int x2] : List Value).toArray below meth c H locs 0 0 (MQ below (QI D cI cJ cZ [(q_t, .inr (8, [.ref q_t_marks, .ref q_t_lasting])), (q_t_marks, .inl (cI, 480, .inl v_t_marks)), (q_t_lasting, .inl (cI, 8, .inl v_t_lasting))] z A) ([.ref q_t, .int x1, .int x2] : List Value).toArray s 0 0 A) (F0 m 5 ls []) := by
    intro n_5
    induction n_5 with
    | zero =>
      intro x3_1 x4_2 hf
      cases hf
    | succ n_5 ih_4 =>
      intro x3_1 x4_2 hf H locs ls hP hD hS hl
      rw [f_X8_comingTo_L5] at hf
      refine lv_iload hx hb dX8_comingTo_5 (lv_at hl 4 rfl) ?_
      refine lv_bipush (v := 8) hx hb dX8_comingTo_7 (by decide) ?_
      refine lv_icmp_ge (tgt := 70) hx hb dX8_comingTo_9 (by decide) (fun h_6 => ?_) (fun h_6 => ?_)
      · have hf := (if_pos h_6).symm.trans hf
        refine lv_iload_n hx hb dX8_comingTo_70 rfl (lv_at hl 3 rfl) ?_
        have hf := Option.some.inj hf
        subst hf
        exact rt_i hx hb hr hlocks hK hP hS dX8_comingTo_71
      · have hf := (if_neg h_6).symm.trans hf
        refine lv_iconst (v := 1) hx hb dX8_comingTo_12 (by decide) ?_
        refine lv_istore (lv' := [(5, .int 1), (0, .ref q_t), (1, .int x1), (2, .int x2), (3, .int x3_1), (4, .int x4_2)]) hx hb dX8_comingTo_13 hl (by decide) rfl (fun ls hl => ?_)
        have L15_9 : ∀ (n_11 : Nat) (x3_7 : Int32) (x5_8 : Int32), f_X8_comingTo_L15 (f_X8_comingTo_L5 v_t_marks v_t_lasting x1 x2 n_5) v_t_marks v_t_lasting x1 x2 x4_2 n_11 x3_7 x5_8 = some z → ∀ (H : Heap) (locs : List Loc) (ls : Array Slot), va_P D vwCl [(q_t, .inr (8, [.ref q_t_marks, .ref q_t_lasting])), (q_t_marks, .inl (cI, 480, .inl v_t_marks)), (q_t_lasting, .inl (cI, 8, .inl v_t_lasting))] H → va_D A [(q_t, .inr (8, [.ref q_t_marks, .ref q_t_lasting])), (q_t_marks, .inl (cI, 480, .inl v_t_marks)), (q_t_lasting, .inl (cI, 8, .inl v_t_lasting))] → va_S A s.heap H locs → lv_has ls 7 [(0, .ref q_t), (1, .int x1), (2, .int x2), (3, .int x3_7), (4, .int x4_2), (5, .int x5_8)] → W p l e ({ frames := 1, cells := 0, slots := 0, locals := 22 } : Room) s m ([.ref q_t, .int x1, .int x2] : List Value).toArray below meth c H locs 0 0 (MQ below (QI D cI cJ cZ [(q_t, .inr (8, [.ref q_t_marks, .ref q_t_lasting])), (q_t_marks, .inl (cI, 480, .inl v_t_marks)), (q_t_lasting, .inl (cI, 8, .inl v_t_lasting))] z A) ([.ref q_t, .int x1, .int x2] : List Value).toArray s 0 0 A) (F0 m 15 ls []) := by
          intro n_11
          induction n_11 with
          | zero =>
            intro x3_7 x5_8 hf
            cases hf
          | succ n_11 ih_10 =>
            intro x3_7 x5_8 hf H locs ls hP hD hS hl
            rw [f_X8_comingTo_L15] at hf
            refine lv_iload hx hb dX8_comingTo_15 (lv_at hl 5 rfl) ?_
            refine lv_aload_n hx hb dX8_comingTo_17 rfl (lv_at hl 0 rfl) ?_
            refine va_get (D := D) (ci := 8) (v := .ref q_t_lasting) (C := RX8) (T := TX8) (N := 2) hx hb hts inX8 hown hK hP 0 rfl rfl 1 (by decide) (hts _ w_240) (fun _ h9 => h9) rfl dX8_comingTo_18 ?_
            refine lv_iload hx hb dX8_comingTo_21 (lv_at hl 4 rfl) ?_
            obtain ⟨hin, hf⟩ := gd_some hf
            refine va_iald hx hb hK hP 2 0 rfl rfl hin dX8_comingTo_23 ?_
            refine lv_icmp_gt (tgt := 64) hx hb dX8_comingTo_24 (by decide) (fun h_12 => ?_) (fun h_12 => ?_)
            · have hf := (if_pos h_12).symm.trans hf
              unfold f_X8_comingTo_J64 at hf
              refine lv_iinc (v := (x4_2 + 1)) (lv' := [(4, .int (x4_2 + 1)), (0, .ref q_t), (1, .int x1), (2, .int x2), (3, .int x3_7), (5, .int x5_8)]) hx hb dX8_comingTo_64 hl (k := 4) rfl rfl (by decide) rfl (fun ls hl => ?_)
              refine lv_goto (tgt := 5) hx hb dX8_comingTo_67 (by decide) ?_
              exact ih_4 x3_7 (x4_2 + 1) hf _ _ _ hP hD hS (lv_sub hl [1, 2, 3, 4, 0] rfl)
            · have hf := (if_neg h_12).symm.trans hf
              refine lv_aload_n hx hb dX8_comingTo_27 rfl (lv_at hl 0 rfl) ?_
              refine lv_iload hx hb dX8_comingTo_28 (lv_at hl 4 rfl) ?_
              refine lv_iload hx hb dX8_comingTo_30 (lv_at hl 5 rfl) ?_
              obtain ⟨z32_13, hz32_13, hf⟩ := bd_some hf
              refine cVi (rest := []) ⟨hx, hb, hml, hown, hts⟩ hE hK hP hD hS hA (c_X8_soundOf l D cI cJ cZ en q_t q_t_marks q_t_lasting H.size v_t_marks v_t_lasting x4_2 x5_8 hz32_13) (gv_X8_soundOf w_682) hd_X8_soundOf ⟨rfl, rfl⟩ ⟨by decide, by decide⟩ [0, 1, 2] (And.intro rfl (And.intro rfl (And.intro rfl trivial))) rfl (And.intro rfl (And.intro rfl (And.intro rfl trivial))) 8 rfl rfl 0 rfl  hl rfl (Nat.le_of_ble_eq_true rfl) ⟨Nat.zero_le _, Nat.zero_le _⟩ dX8_comingTo_32 (fun H locs hP hD hS => ?_)
              have hP : va_P D vwCl [(q_t, .inr (8, [.ref q_t_marks, .ref q_t_lasting])), (q_t_marks, .inl (cI, 480, .inl v_t_marks)), (q_t_lasting, .inl (cI, 8, .inl v_t_lasting))] H := hP
              have hD : va_D A [(q_t, .inr (8, [.ref q_t_marks, .ref q_t_lasting])), (q_t_marks, .inl (cI, 480, .inl v_t_marks)), (q_t_lasting, .inl (cI, 8, .inl v_t_lasting))] := hD
              refine lv_istore (lv' := [(6, .int z32_13), (0, .ref q_t), (1, .int x1), (2, .int x2), (3, .int x3_7), (4, .int x4_2), (5, .int x5_8)]) hx hb dX8_comingTo_35 hl (by decide) rfl (fun ls hl => ?_)
              refine lv_iload hx hb dX8_comingTo_37 (lv_at hl 0 rfl) ?_
              obtain ⟨z39_14, hz39_14, hf⟩ := bd_some hf
              refine cSi (rest := []) ⟨hx, hb, hml, hown, hts⟩ hE hK hP hD hS hA (c_X8_cellOf l D cI cJ cZ en  H.size z32_13 hz39_14) (gs_X8_cellOf w_683) hd_X8_cellOf ⟨rfl, rfl⟩ ⟨by decide, by decide⟩ [] trivial rfl trivial  hl rfl (Nat.le_of_ble_eq_true rfl) ⟨Nat.zero_le _, Nat.zero_le _⟩ dX8_comingTo_39 (fun H locs hP hD hS => ?_)
              have hP : va_P D vwCl [(q_t, .inr (8, [.ref q_t_marks, .ref q_t_lasting])), (q_t_marks, .inl (cI, 480, .inl v_t_marks)), (q_t_lasting, .inl (cI, 8, .inl v_t_lasting))] H := hP
              have hD : va_D A [(q_t, .inr (8, [.ref q_t_marks, .ref q_t_lasting])), (q_t_marks, .inl (cI, 480, .inl v_t_marks)), (q_t_lasting, .inl (cI, 8, .inl v_t_lasting))] := hD
              refine lv_iload_n hx hb dX8_comingTo_42 rfl (lv_at hl 2 rfl) ?_
              have J58_16 : ∀ (x3_15 : Int32), f_X8_comingTo_J58 (f_X8_comingTo_L15 (f_X8_comingTo_L5 v_t_marks v_t_lasting x1 x2 n_5) v_t_marks v_t_lasting x1 x2 x4_2 n_11) x3_15 x5_8 = some z → ∀ (H : Heap) (locs : List Loc) (ls : Array Slot), va_P D vwCl [(q_t, .inr (8, [.ref q_t_marks, .ref q_t_lasting])), (q_t_marks, .inl (cI, 480, .inl v_t_marks)), (q_t_lasting, .inl (cI, 8, .inl v_t_lasting))] H → va_D A [(q_t, .inr (8, [.ref q_t_marks, .ref q_t_lasting])), (q_t_marks, .inl (cI, 480, .inl v_t_marks)), (q_t_lasting, .inl (cI, 8, .inl v_t_lasting))] → va_S A s.heap H locs → lv_has ls 7 [(0, .ref q_t), (1, .int x1), (2, .int x2), (3, .int x3_15), (4, .int x4_2), (5, .int x5_8)] → W p l e ({ frames := 1, cells := 0, slots := 0, locals := 22 } : Room) s m ([.ref q_t, .int x1, .int x2] : List Value).toArray below meth c H locs 0 0 (MQ below (QI D cI cJ cZ [(q_t, .inr (8, [.ref q_t_marks, .ref q_t_lasting])), (q_t_marks, .inl (cI, 480, .inl v_t_marks)), (q_t_lasting, .inl (cI, 8, .inl v_t_lasting))] z A) ([.ref q_t, .int x1, .int x2] : List Value).toArray s 0 0 A) (F0 m 58 ls []) := by
                intro x3_15 hf H locs ls hP hD hS hl
                unfold f_X8_comingTo_J58 at hf
                refine lv_iinc (v := (x5_8 + 1)) (lv' := [(5, .int (x5_8 + 1)), (0, .ref q_t), (1, .int x1), (2, .int x2), (3, .int x3_15), (4, .int x4_2)]) hx hb dX8_comingTo_58 hl (k := 5) rfl rfl (by decide) rfl (fun ls hl => ?_)
                refine lv_goto (tgt := 15) hx hb dX8_comingTo_61 (by decide) ?_
                exact ih_10 x3_15 (x5_8 + 1) hf _ _ _ hP hD hS (lv_sub hl [1, 2, 3, 4, 5, 0] rfl)
              refine lv_icmp_ne (tgt := 58) hx hb dX8_comingTo_43 (by decide) (fun h_17 => ?_) (fun h_17 => ?_)
              · have hf := (if_neg h_17).symm.trans hf
                exact J58_16 x3_7 hf _ _ _ hP hD hS (lv_sub hl [1, 2, 3, 4, 5, 6] rfl)
              · have hf := (if_pos h_17).symm.trans hf
                refine lv_iload hx hb dX8_comingTo_46 (lv_at hl 0 rfl) ?_
                obtain ⟨z48_18, hz48_18, hf⟩ := bd_some hf
                refine cSi (rest := []) ⟨hx, hb, hml, hown, hts⟩ hE hK hP hD hS hA (c_X8_thrownOf l D cI cJ cZ en  H.size z32_13 hz48_18) (gs_X8_thrownOf w_684) hd_X8_thrownOf ⟨rfl, rfl⟩ ⟨by decide, by decide⟩ [] trivial rfl trivial  hl rfl (Nat.le_of_ble_eq_true rfl) ⟨Nat.zero_le _, Nat.zero_le _⟩ dX8_comingTo_48 (fun H locs hP hD hS => ?_)
                have hP : va_P D vwCl [(q_t, .inr (8, [.ref q_t_marks, .ref q_t_lasting])), (q_t_marks, .inl (cI, 480, .inl v_t_marks)), (q_t_lasting, .inl (cI, 8, .inl v_t_lasting))] H := hP
                have hD : va_D A [(q_t, .inr (8, [.ref q_t_marks, .ref q_t_lasting])), (q_t_marks, .inl (cI, 480, .inl v_t_marks)), (q_t_lasting, .inl (cI, 8, .inl v_t_lasting))] := hD
                refine lv_iload_n hx hb dX8_comingTo_51 rfl (lv_at hl 3 rfl) ?_
                refine lv_icmp_lt (tgt := 58) hx hb dX8_comingTo_52 (by decide) (fun h_19 => ?_) (fun h_19 => ?_)
                · have hf := (if_pos h_19).symm.trans hf
                  exact J58_16 x3_7 hf _ _ _ hP hD hS (lv_sub hl [1, 2, 3, 4, 5, 6] rfl)
                · have hf := (if_neg h_19).symm.trans hf
                  refine lv_iinc (v := (x3_7 + 1)) (lv' := [(3, .int (x3_7 + 1)), (6, .int z32_13), (0, .ref q_t), (1, .int x1), (2, .int x2), (4, .int x4_2), (5, .int x5_8)]) hx hb dX8_comingTo_55 hl (k := 4) rfl rfl (by decide) rfl (fun ls hl => ?_)
                  exact J58_16 (x3_7 + 1) hf _ _ _ hP hD hS (lv_sub hl [2, 3, 4, 0, 5, 6] rfl)
        exact L15_9 FU x3_1 1 hf _ _ _ hP hD hS (lv_sub hl [1, 2, 3, 4, 5, 0] rfl)
  exact L5_3 FU 0 0 hf _ _ _ hP hD hS (lv_sub hl [2, 3, 4, 1, 0] rfl)

def f_X8_greatestLoudAt_J58 (rc4 : (Int32) → (Int32) → Option (Int32)) (x2 : Int32) (x3 : Int32) : Option (Int32) :=
  (rc4 x2 (x3 + 1))
def f_X8_greatestLoudAt_J52 (rc13 : (Int32) → (Int32) → Option (Int32)) (x2 : Int32) (x4 : Int32) : Option (Int32) :=
  (rc13 x2 (x4 + 1))
def f_X8_greatestLoudAt_L13 (rc4 : (Int32) → (Int32) → Option (Int32)) (v_t_marks : Nat → Int32) (v_t_lasting : Nat → Int32) (x1 : Int32) (x3 : Int32) : Nat → (Int32) → (Int32) → Option (Int32)
  | 0, _, _ => none
  | n + 1, x2, x4 => gd (ib x3 8) ((if (v_t_lasting (Int32.toNatClampNeg x3)) < x4 then (f_X8_greatestLoudAt_J58 rc4 x2 x3) else (f_X8_soundOf v_t_marks v_t_lasting x3 x4).bind (fun z28 => (f_X8_cellOf z28).bind (fun z35 => (if z35 = x1 then (f_X8_loudOf z28).bind (fun z45 => (f_X8_greatestLoudAt_J52 (f_X8_greatestLoudAt_L13 rc4 v_t_marks v_t_lasting x1 x3 n) (if x2 < z45 then z45 else x2) x4)) else (f_X8_greatestLoudAt_J52 (f_X8_greatestLoudAt_L13 rc4 v_t_marks v_t_lasting x1 x3 n) x2 x4))))))
def f_X8_greatestLoudAt_L4 (v_t_marks : Nat → Int32) (v_t_lasting : Nat → Int32) (x1 : Int32) : Nat → (Int32) → (Int32) → Option (Int32)
  | 0, _, _ => none
  | n + 1, x2, x3 => (if 8 ≤ x3 then (some x2) else (f_X8_greatestLoudAt_L13 (f_X8_greatestLoudAt_L4 v_t_marks v_t_lasting x1 n) v_t_marks v_t_lasting x1 x3 FU x2 1))
def f_X8_greatestLoudAt (v_t_marks : Nat → Int32) (v_t_lasting : Nat → Int32) (x1 : Int32) : Option (Int32) :=
  (f_X8_greatestLoudAt_L4 v_t_marks v_t_lasting x1 FU (-1) 0)
theorem gv_X8_greatestLoudAt {own : String} {idx : Nat} (h : Cond.methodLink own idx yX8_greatestLoudAt ∈ lw_g) : GoodIn lw_g (wsV own idx RX8 yX8_greatestLoudAt (Cond.code yX8_greatestLoudAt cX8_greatestLoudAt 6 (some .int) :: lw_g)) := gV h w_690 w_691 w_64 w_692
theorem hd_X8_greatestLoudAt : yX8_greatestLoudAt.cls = RX8 ∧ yX8_greatestLoudAt.cls ≠ "java/lang/invoke/MethodHandle" ∧ yX8_greatestLoudAt.cls ≠ "java/lang/invoke/VarHandle" ∧ (parseMethodDescriptor yX8_greatestLoudAt.desc).map (fun d => d.parameters.length) = some 1 := by decide +kernel
set_option maxHeartbeats 4000000 in
set_option maxRecDepth 100000 in
theorem c_X8_greatestLoudAt (l : Launch) (D : va_G) (cI cJ cZ : ClassId) (en : EnT) (q_t q_t_marks q_t_lasting : Nat) (sz : Nat) (v_t_marks : Nat → Int32) (v_t_lasting : Nat → Int32) (x1 : Int32) {z : Int32} (hf : f_X8_greatestLoudAt v_t_marks v_t_lasting x1 = some z) : Met l yX8_greatestLoudAt (Cond.code yX8_greatestLoudAt cX8_greatestLoudAt 6 (some .int) :: lw_g) ({ frames := 1, cells := 0, slots := 0, locals := 22 } : Room) (PC D cI cJ cZ en ([.ref q_t, .int x1] : List Value) [(q_t, .inr (8, [.ref q_t_marks, .ref q_t_lasting])), (q_t_marks, .inl (cI, 480, .inl v_t_marks)), (q_t_lasting, .inl (cI, 8, .inl v_t_lasting))] sz) (QI D cI cJ cZ [(q_t, .inr (8, [.ref q_t_marks, .ref q_t_lasting])), (q_t_marks, .inl (cI, 480, .inl v_t_marks)), (q_t_lasting, .inl (cI, 8, .inl v_t_lasting))] z (va_A [(q_t, .inr (8, [.ref q_t_marks, .ref q_t_lasting])), (q_t_marks, .inl (cI, 480, .inl v_t_marks)), (q_t_lasting, .inl (cI, 8, .inl v_t_lasting))] sz)) 0 0 (va_A [(q_t, .inr (8, [.ref q_t_marks, .ref q_t_lasting])), (q_t_marks, .inl (cI, 480, .inl v_t_marks)), (q_t_lasting, .inl (cI, 8, .inl v_t_lasting))] sz) := by
  refine mk_met (Qc := fun A => (QI D cI cJ cZ [(q_t, .inr (8, [.ref q_t_marks, .ref q_t_lasting])), (q_t_marks, .inl (cI, 480, .inl v_t_marks)), (q_t_lasting, .inl (cI, 8, .inl v_t_lasting))] z A)) RX8 (by decide) rfl (Nat.le_of_ble_eq_true rfl) ?_
  intro p e s m below meth c ls A hx hb hr hml hown hts hlocks hA hK hE hl hD H locs hP hS
  have hl : lv_has ls 6 [(0, .ref q_t), (1, .int x1)] := hl
  unfold f_X8_greatestLoudAt at hf
  refine lv_iconst (v := (-1)) hx hb dX8_greatestLoudAt_0 (by decide) ?_
  refine lv_istore_n (lv' := [(2, .int (-1)), (0, .ref q_t), (1, .int x1)]) hx hb dX8_greatestLoudAt_1 rfl hl (by decide) rfl (fun ls hl => ?_)
  refine lv_iconst (v := 0) hx hb dX8_greatestLoudAt_2 (by decide) ?_
  refine lv_istore_n (lv' := [(3, .int 0), (2, .int (-1)), (0, .ref q_t), (1, .int x1)]) hx hb dX8_greatestLoudAt_3 rfl hl (by decide) rfl (fun ls hl => ?_)
  have L4_3 : ∀ (n_5 : Nat) (x2_1 : Int32) (x3_2 : Int32), f_X8_greatestLoudAt_L4 v_t_marks v_t_lasting x1 n_5 x2_1 x3_2 = some z → ∀ (H : Heap) (locs : List Loc) (ls : Array Slot), va_P D vwCl [(q_t, .inr (8, [.ref q_t_marks, .ref q_t_lasting])), (q_t_marks, .inl (cI, 480, .inl v_t_marks)), (q_t_lasting, .inl (cI, 8, .inl v_t_lasting))] H → va_D A [(q_t, .inr (8, [.ref q_t_marks, .ref q_t_lasting])), (q_t_marks, .inl (cI, 480, .inl v_t_marks)), (q_t_lasting, .inl (cI, 8, .inl v_t_lasting))] → va_S A s.heap H locs → lv_has ls 6 [(0, .ref q_t), (1, .int x1), (2, .int x2_1), (3, .int x3_2)] → W p l e ({ frames := 1, cells := 0, slots := 0, locals := 22 } : Room) s m ([.ref q_t, .int x1] : List Value).toArray below meth c H locs 0 0 (MQ below (QI D cI cJ cZ [(q_t, .inr (8, [.ref q_t_marks, .ref q_t_lasting])), (q_t_marks, .inl (cI, 480, .inl v_t_marks)), (q_t_lasting, .inl (cI, 8, .inl v_t_lasting))] z A) ([.ref q_t, .int x1] : List Value).toArray s 0 0 A) (F0 m 4 ls []) := by
    intro n_5
    induction n_5 with
    | zero =>
      intro x2_1 x3_2 hf
      cases hf
    | succ n_5 ih_4 =>
      intro x2_1 x3_2 hf H locs ls hP hD hS hl
      rw [f_X8_greatestLoudAt_L4] at hf
      refine lv_iload_n hx hb dX8_greatestLoudAt_4 rfl (lv_at hl 3 rfl) ?_
      refine lv_bipush (v := 8) hx hb dX8_greatestLoudAt_5 (by decide) ?_
      refine lv_icmp_ge (tgt := 64) hx hb dX8_greatestLoudAt_7 (by decide) (fun h_6 => ?_) (fun h_6 => ?_)
      · have hf := (if_pos h_6).symm.trans hf
        refine lv_iload_n hx hb dX8_greatestLoudAt_64 rfl (lv_at hl 2 rfl) ?_
        have hf := Option.some.inj hf
        subst hf
        exact rt_i hx hb hr hlocks hK hP hS dX8_greatestLoudAt_65
      · have hf := (if_neg h_6).symm.trans hf
        refine lv_iconst (v := 1) hx hb dX8_greatestLoudAt_10 (by decide) ?_
        refine lv_istore (lv' := [(4, .int 1), (0, .ref q_t), (1, .int x1), (2, .int x2_1), (3, .int x3_2)]) hx hb dX8_greatestLoudAt_11 hl (by decide) rfl (fun ls hl => ?_)
        have L13_9 : ∀ (n_11 : Nat) (x2_7 : Int32) (x4_8 : Int32), f_X8_greatestLoudAt_L13 (f_X8_greatestLoudAt_L4 v_t_marks v_t_lasting x1 n_5) v_t_marks v_t_lasting x1 x3_2 n_11 x2_7 x4_8 = some z → ∀ (H : Heap) (locs : List Loc) (ls : Array Slot), va_P D vwCl [(q_t, .inr (8, [.ref q_t_marks, .ref q_t_lasting])), (q_t_marks, .inl (cI, 480, .inl v_t_marks)), (q_t_lasting, .inl (cI, 8, .inl v_t_lasting))] H → va_D A [(q_t, .inr (8, [.ref q_t_marks, .ref q_t_lasting])), (q_t_marks, .inl (cI, 480, .inl v_t_marks)), (q_t_lasting, .inl (cI, 8, .inl v_t_lasting))] → va_S A s.heap H locs → lv_has ls 6 [(0, .ref q_t), (1, .int x1), (2, .int x2_7), (3, .int x3_2), (4, .int x4_8)] → W p l e ({ frames := 1, cells := 0, slots := 0, locals := 22 } : Room) s m ([.ref q_t, .int x1] : List Value).toArray below meth c H locs 0 0 (MQ below (QI D cI cJ cZ [(q_t, .inr (8, [.ref q_t_marks, .ref q_t_lasting])), (q_t_marks, .inl (cI, 480, .inl v_t_marks)), (q_t_lasting, .inl (cI, 8, .inl v_t_lasting))] z A) ([.ref q_t, .int x1] : List Value).toArray s 0 0 A) (F0 m 13 ls []) := by
          intro n_11
          induction n_11 with
          | zero =>
            intro x2_7 x4_8 hf
            cases hf
          | succ n_11 ih_10 =>
            intro x2_7 x4_8 hf H locs ls hP hD hS hl
            rw [f_X8_greatestLoudAt_L13] at hf
            refine lv_iload hx hb dX8_greatestLoudAt_13 (lv_at hl 4 rfl) ?_
            refine lv_aload_n hx hb dX8_greatestLoudAt_15 rfl (lv_at hl 0 rfl) ?_
            refine va_get (D := D) (ci := 8) (v := .ref q_t_lasting) (C := RX8) (T := TX8) (N := 2) hx hb hts inX8 hown hK hP 0 rfl rfl 1 (by decide) (hts _ w_240) (fun _ h9 => h9) rfl dX8_greatestLoudAt_16 ?_
            refine lv_iload_n hx hb dX8_greatestLoudAt_19 rfl (lv_at hl 3 rfl) ?_
            obtain ⟨hin, hf⟩ := gd_some hf
            refine va_iald hx hb hK hP 2 0 rfl rfl hin dX8_greatestLoudAt_20 ?_
            refine lv_icmp_gt (tgt := 58) hx hb dX8_greatestLoudAt_21 (by decide) (fun h_12 => ?_) (fun h_12 => ?_)
            · have hf := (if_pos h_12).symm.trans hf
              unfold f_X8_greatestLoudAt_J58 at hf
              refine lv_iinc (v := (x3_2 + 1)) (lv' := [(3, .int (x3_2 + 1)), (0, .ref q_t), (1, .int x1), (2, .int x2_7), (4, .int x4_8)]) hx hb dX8_greatestLoudAt_58 hl (k := 3) rfl rfl (by decide) rfl (fun ls hl => ?_)
              refine lv_goto (tgt := 4) hx hb dX8_greatestLoudAt_61 (by decide) ?_
              exact ih_4 x2_7 (x3_2 + 1) hf _ _ _ hP hD hS (lv_sub hl [1, 2, 3, 0] rfl)
            · have hf := (if_neg h_12).symm.trans hf
              refine lv_aload_n hx hb dX8_greatestLoudAt_24 rfl (lv_at hl 0 rfl) ?_
              refine lv_iload_n hx hb dX8_greatestLoudAt_25 rfl (lv_at hl 3 rfl) ?_
              refine lv_iload hx hb dX8_greatestLoudAt_26 (lv_at hl 4 rfl) ?_
              obtain ⟨z28_13, hz28_13, hf⟩ := bd_some hf
              refine cVi (rest := []) ⟨hx, hb, hml, hown, hts⟩ hE hK hP hD hS hA (c_X8_soundOf l D cI cJ cZ en q_t q_t_marks q_t_lasting H.size v_t_marks v_t_lasting x3_2 x4_8 hz28_13) (gv_X8_soundOf w_682) hd_X8_soundOf ⟨rfl, rfl⟩ ⟨by decide, by decide⟩ [0, 1, 2] (And.intro rfl (And.intro rfl (And.intro rfl trivial))) rfl (And.intro rfl (And.intro rfl (And.intro rfl trivial))) 8 rfl rfl 0 rfl  hl rfl (Nat.le_of_ble_eq_true rfl) ⟨Nat.zero_le _, Nat.zero_le _⟩ dX8_greatestLoudAt_28 (fun H locs hP hD hS => ?_)
              have hP : va_P D vwCl [(q_t, .inr (8, [.ref q_t_marks, .ref q_t_lasting])), (q_t_marks, .inl (cI, 480, .inl v_t_marks)), (q_t_lasting, .inl (cI, 8, .inl v_t_lasting))] H := hP
              have hD : va_D A [(q_t, .inr (8, [.ref q_t_marks, .ref q_t_lasting])), (q_t_marks, .inl (cI, 480, .inl v_t_marks)), (q_t_lasting, .inl (cI, 8, .inl v_t_lasting))] := hD
              refine lv_istore (lv' := [(5, .int z28_13), (0, .ref q_t), (1, .int x1), (2, .int x2_7), (3, .int x3_2), (4, .int x4_8)]) hx hb dX8_greatestLoudAt_31 hl (by decide) rfl (fun ls hl => ?_)
              refine lv_iload hx hb dX8_greatestLoudAt_33 (lv_at hl 0 rfl) ?_
              obtain ⟨z35_14, hz35_14, hf⟩ := bd_some hf
              refine cSi (rest := []) ⟨hx, hb, hml, hown, hts⟩ hE hK hP hD hS hA (c_X8_cellOf l D cI cJ cZ en  H.size z28_13 hz35_14) (gs_X8_cellOf w_683) hd_X8_cellOf ⟨rfl, rfl⟩ ⟨by decide, by decide⟩ [] trivial rfl trivial  hl rfl (Nat.le_of_ble_eq_true rfl) ⟨Nat.zero_le _, Nat.zero_le _⟩ dX8_greatestLoudAt_35 (fun H locs hP hD hS => ?_)
              have hP : va_P D vwCl [(q_t, .inr (8, [.ref q_t_marks, .ref q_t_lasting])), (q_t_marks, .inl (cI, 480, .inl v_t_marks)), (q_t_lasting, .inl (cI, 8, .inl v_t_lasting))] H := hP
              have hD : va_D A [(q_t, .inr (8, [.ref q_t_marks, .ref q_t_lasting])), (q_t_marks, .inl (cI, 480, .inl v_t_marks)), (q_t_lasting, .inl (cI, 8, .inl v_t_lasting))] := hD
              refine lv_iload_n hx hb dX8_greatestLoudAt_38 rfl (lv_at hl 2 rfl) ?_
              have J52_16 : ∀ (x2_15 : Int32), f_X8_greatestLoudAt_J52 (f_X8_greatestLoudAt_L13 (f_X8_greatestLoudAt_L4 v_t_marks v_t_lasting x1 n_5) v_t_marks v_t_lasting x1 x3_2 n_11) x2_15 x4_8 = some z → ∀ (H : Heap) (locs : List Loc) (ls : Array Slot), va_P D vwCl [(q_t, .inr (8, [.ref q_t_marks, .ref q_t_lasting])), (q_t_marks, .inl (cI, 480, .inl v_t_marks)), (q_t_lasting, .inl (cI, 8, .inl v_t_lasting))] H → va_D A [(q_t, .inr (8, [.ref q_t_marks, .ref q_t_lasting])), (q_t_marks, .inl (cI, 480, .inl v_t_marks)), (q_t_lasting, .inl (cI, 8, .inl v_t_lasting))] → va_S A s.heap H locs → lv_has ls 6 [(0, .ref q_t), (1, .int x1), (2, .int x2_15), (3, .int x3_2), (4, .int x4_8)] → W p l e ({ frames := 1, cells := 0, slots := 0, locals := 22 } : Room) s m ([.ref q_t, .int x1] : List Value).toArray below meth c H locs 0 0 (MQ below (QI D cI cJ cZ [(q_t, .inr (8, [.ref q_t_marks, .ref q_t_lasting])), (q_t_marks, .inl (cI, 480, .inl v_t_marks)), (q_t_lasting, .inl (cI, 8, .inl v_t_lasting))] z A) ([.ref q_t, .int x1] : List Value).toArray s 0 0 A) (F0 m 52 ls []) := by
                intro x2_15 hf H locs ls hP hD hS hl
                unfold f_X8_greatestLoudAt_J52 at hf
                refine lv_iinc (v := (x4_8 + 1)) (lv' := [(4, .int (x4_8 + 1)), (0, .ref q_t), (1, .int x1), (2, .int x2_15), (3, .int x3_2)]) hx hb dX8_greatestLoudAt_52 hl (k := 4) rfl rfl (by decide) rfl (fun ls hl => ?_)
                refine lv_goto (tgt := 13) hx hb dX8_greatestLoudAt_55 (by decide) ?_
                exact ih_10 x2_15 (x4_8 + 1) hf _ _ _ hP hD hS (lv_sub hl [1, 2, 3, 4, 0] rfl)
              refine lv_icmp_ne (tgt := 52) hx hb dX8_greatestLoudAt_39 (by decide) (fun h_17 => ?_) (fun h_17 => ?_)
              · have hf := (if_neg h_17).symm.trans hf
                exact J52_16 x2_7 hf _ _ _ hP hD hS (lv_sub hl [1, 2, 3, 4, 5] rfl)
              · have hf := (if_pos h_17).symm.trans hf
                refine lv_iload_n hx hb dX8_greatestLoudAt_42 rfl (lv_at hl 3 rfl) ?_
                refine lv_iload hx hb dX8_greatestLoudAt_43 (lv_at hl 0 rfl) ?_
                obtain ⟨z45_18, hz45_18, hf⟩ := bd_some hf
                refine cSi (rest := [.int x2_7]) ⟨hx, hb, hml, hown, hts⟩ hE hK hP hD hS hA (c_X8_loudOf l D cI cJ cZ en  H.size z28_13 hz45_18) (gs_X8_loudOf w_693) hd_X8_loudOf ⟨rfl, rfl⟩ ⟨by decide, by decide⟩ [] trivial rfl trivial  hl rfl (Nat.le_of_ble_eq_true rfl) ⟨Nat.zero_le _, Nat.zero_le _⟩ dX8_greatestLoudAt_45 (fun H locs hP hD hS => ?_)
                have hP : va_P D vwCl [(q_t, .inr (8, [.ref q_t_marks, .ref q_t_lasting])), (q_t_marks, .inl (cI, 480, .inl v_t_marks)), (q_t_lasting, .inl (cI, 8, .inl v_t_lasting))] H := hP
                have hD : va_D A [(q_t, .inr (8, [.ref q_t_marks, .ref q_t_lasting])), (q_t_marks, .inl (cI, 480, .inl v_t_marks)), (q_t_lasting, .inl (cI, 8, .inl v_t_lasting))] := hD
                refine va_mmax hx hb (hml.trans hl.1.symm) hown (hts _ w_694) (hts _ w_523) (hts _ w_73) (hts _ w_524) (by decide) (Nat.le_of_ble_eq_true rfl) (Nat.zero_le _) (Nat.zero_le _) dX8_greatestLoudAt_48 ?_
                refine lv_istore_n (lv' := [(2, .int (if x2_7 < z45_18 then z45_18 else x2_7)), (5, .int z28_13), (0, .ref q_t), (1, .int x1), (3, .int x3_2), (4, .int x4_8)]) hx hb dX8_greatestLoudAt_51 rfl hl (by decide) rfl (fun ls hl => ?_)
                exact J52_16 (if x2_7 < z45_18 then z45_18 else x2_7) hf _ _ _ hP hD hS (lv_sub hl [2, 3, 0, 4, 5] rfl)
        exact L13_9 FU x2_1 1 hf _ _ _ hP hD hS (lv_sub hl [1, 2, 3, 4, 0] rfl)
  exact L4_3 FU (-1) 0 hf _ _ _ hP hD hS (lv_sub hl [2, 3, 1, 0] rfl)

def f_X8_sameAt_J62 (rc2 : (Int32) → Option (Int32)) (x3 : Int32) : Option (Int32) :=
  (rc2 (x3 + 1))
def f_X8_sameAt_L11 (rc2 : (Int32) → Option (Int32)) (v_t_marks : Nat → Int32) (v_t_lasting : Nat → Int32) (v_a2_marks : Nat → Int32) (v_a2_lasting : Nat → Int32) (x1 : Int32) (x3 : Int32) : Nat → (Int32) → Option (Int32)
  | 0, _ => none
  | n + 1, x4 => (if 8 ≤ x4 then (f_X8_sameAt_J62 rc2 x3) else (f_X8_soundOf v_t_marks v_t_lasting x4 x3).bind (fun z23 => (f_X8_asOften v_t_marks v_t_lasting v_a2_marks v_a2_lasting z23 x1 x3).bind (fun z29 => (if z29 = 0 then (some 0) else (f_X8_soundOf v_a2_marks v_a2_lasting x4 x3).bind (fun z42 => (f_X8_asOften v_t_marks v_t_lasting v_a2_marks v_a2_lasting z42 x1 x3).bind (fun z48 => (if z48 = 0 then (some 0) else (f_X8_sameAt_L11 rc2 v_t_marks v_t_lasting v_a2_marks v_a2_lasting x1 x3 n (x4 + 1)))))))))
def f_X8_sameAt_L2 (v_t_marks : Nat → Int32) (v_t_lasting : Nat → Int32) (v_a2_marks : Nat → Int32) (v_a2_lasting : Nat → Int32) (x1 : Int32) : Nat → (Int32) → Option (Int32)
  | 0, _ => none
  | n + 1, x3 => (if 60 < x3 then (some 1) else (f_X8_sameAt_L11 (f_X8_sameAt_L2 v_t_marks v_t_lasting v_a2_marks v_a2_lasting x1 n) v_t_marks v_t_lasting v_a2_marks v_a2_lasting x1 x3 FU 0))
def f_X8_sameAt (v_t_marks : Nat → Int32) (v_t_lasting : Nat → Int32) (v_a2_marks : Nat → Int32) (v_a2_lasting : Nat → Int32) (x1 : Int32) : Option (Int32) :=
  (f_X8_sameAt_L2 v_t_marks v_t_lasting v_a2_marks v_a2_lasting x1 FU 1)
theorem gv_X8_sameAt {own : String} {idx : Nat} (h : Cond.methodLink own idx yX8_sameAt ∈ lw_g) : GoodIn lw_g (wsV own idx RX8 yX8_sameAt (Cond.code yX8_sameAt cX8_sameAt 5 (some .boolean) :: lw_g)) := gV h w_768 w_769 w_64 w_770
theorem hd_X8_sameAt : yX8_sameAt.cls = RX8 ∧ yX8_sameAt.cls ≠ "java/lang/invoke/MethodHandle" ∧ yX8_sameAt.cls ≠ "java/lang/invoke/VarHandle" ∧ (parseMethodDescriptor yX8_sameAt.desc).map (fun d => d.parameters.length) = some 2 := by decide +kernel
set_option maxHeartbeats 4000000 in
set_option maxRecDepth 100000 in
theorem c_X8_sameAt (l : Launch) (D : va_G) (cI cJ cZ : ClassId) (en : EnT) (q_t q_t_marks q_t_lasting q_a2 q_a2_marks q_a2_lasting : Nat) (sz : Nat) (v_t_marks : Nat → Int32) (v_t_lasting : Nat → Int32) (v_a2_marks : Nat → Int32) (v_a2_lasting : Nat → Int32) (x1 : Int32) {z : Int32} (hf : f_X8_sameAt v_t_marks v_t_lasting v_a2_marks v_a2_lasting x1 = some z) : Met l yX8_sameAt (Cond.code yX8_sameAt cX8_sameAt 5 (some .boolean) :: lw_g) ({ frames := 3, cells := 0, slots := 0, locals := 70 } : Room) (PC D cI cJ cZ en ([.ref q_t, .int x1, .ref q_a2] : List Value) [(q_t, .inr (8, [.ref q_t_marks, .ref q_t_lasting])), (q_t_marks, .inl (cI, 480, .inl v_t_marks)), (q_t_lasting, .inl (cI, 8, .inl v_t_lasting)), (q_a2, .inr (8, [.ref q_a2_marks, .ref q_a2_lasting])), (q_a2_marks, .inl (cI, 480, .inl v_a2_marks)), (q_a2_lasting, .inl (cI, 8, .inl v_a2_lasting))] sz) (QI D cI cJ cZ [(q_t, .inr (8, [.ref q_t_marks, .ref q_t_lasting])), (q_t_marks, .inl (cI, 480, .inl v_t_marks)), (q_t_lasting, .inl (cI, 8, .inl v_t_lasting)), (q_a2, .inr (8, [.ref q_a2_marks, .ref q_a2_lasting])), (q_a2_marks, .inl (cI, 480, .inl v_a2_marks)), (q_a2_lasting, .inl (cI, 8, .inl v_a2_lasting))] z (va_A [(q_t, .inr (8, [.ref q_t_marks, .ref q_t_lasting])), (q_t_marks, .inl (cI, 480, .inl v_t_marks)), (q_t_lasting, .inl (cI, 8, .inl v_t_lasting)), (q_a2, .inr (8, [.ref q_a2_marks, .ref q_a2_lasting])), (q_a2_marks, .inl (cI, 480, .inl v_a2_marks)), (q_a2_lasting, .inl (cI, 8, .inl v_a2_lasting))] sz)) 0 0 (va_A [(q_t, .inr (8, [.ref q_t_marks, .ref q_t_lasting])), (q_t_marks, .inl (cI, 480, .inl v_t_marks)), (q_t_lasting, .inl (cI, 8, .inl v_t_lasting)), (q_a2, .inr (8, [.ref q_a2_marks, .ref q_a2_lasting])), (q_a2_marks, .inl (cI, 480, .inl v_a2_marks)), (q_a2_lasting, .inl (cI, 8, .inl v_a2_lasting))] sz) := by
  refine mk_met (Qc := fun A => (QI D cI cJ cZ [(q_t, .inr (8, [.ref q_t_marks, .ref q_t_lasting])), (q_t_marks, .inl (cI, 480, .inl v_t_marks)), (q_t_lasting, .inl (cI, 8, .inl v_t_lasting)), (q_a2, .inr (8, [.ref q_a2_marks, .ref q_a2_lasting])), (q_a2_marks, .inl (cI, 480, .inl v_a2_marks)), (q_a2_lasting, .inl (cI, 8, .inl v_a2_lasting))] z A)) RX8 (by decide) rfl (Nat.le_of_ble_eq_true rfl) ?_
  intro p e s m below meth c ls A hx hb hr hml hown hts hlocks hA hK hE hl hD H locs hP hS
  have hl : lv_has ls 5 [(0, .ref q_t), (1, .int x1), (2, .ref q_a2)] := hl
  unfold f_X8_sameAt at hf
  refine lv_iconst (v := 1) hx hb dX8_sameAt_0 (by decide) ?_
  refine lv_istore_n (lv' := [(3, .int 1), (0, .ref q_t), (1, .int x1), (2, .ref q_a2)]) hx hb dX8_sameAt_1 rfl hl (by decide) rfl (fun ls hl => ?_)
  have L2_2 : ∀ (n_4 : Nat) (x3_1 : Int32), f_X8_sameAt_L2 v_t_marks v_t_lasting v_a2_marks v_a2_lasting x1 n_4 x3_1 = some z → ∀ (H : Heap) (locs : List Loc) (ls : Array Slot), va_P D vwCl [(q_t, .inr (8, [.ref q_t_marks, .ref q_t_lasting])), (q_t_marks, .inl (cI, 480, .inl v_t_marks)), (q_t_lasting, .inl (cI, 8, .inl v_t_lasting)), (q_a2, .inr (8, [.ref q_a2_marks, .ref q_a2_lasting])), (q_a2_marks, .inl (cI, 480, .inl v_a2_marks)), (q_a2_lasting, .inl (cI, 8, .inl v_a2_lasting))] H → va_D A [(q_t, .inr (8, [.ref q_t_marks, .ref q_t_lasting])), (q_t_marks, .inl (cI, 480, .inl v_t_marks)), (q_t_lasting, .inl (cI, 8, .inl v_t_lasting)), (q_a2, .inr (8, [.ref q_a2_marks, .ref q_a2_lasting])), (q_a2_marks, .inl (cI, 480, .inl v_a2_marks)), (q_a2_lasting, .inl (cI, 8, .inl v_a2_lasting))] → va_S A s.heap H locs → lv_has ls 5 [(0, .ref q_t), (1, .int x1), (2, .ref q_a2), (3, .int x3_1)] → W p l e ({ frames := 3, cells := 0, slots := 0, locals := 70 } : Room) s m ([.ref q_t, .int x1, .ref q_a2] : List Value).toArray below meth c H locs 0 0 (MQ below (QI D cI cJ cZ [(q_t, .inr (8, [.ref q_t_marks, .ref q_t_lasting])), (q_t_marks, .inl (cI, 480, .inl v_t_marks)), (q_t_lasting, .inl (cI, 8, .inl v_t_lasting)), (q_a2, .inr (8, [.ref q_a2_marks, .ref q_a2_lasting])), (q_a2_marks, .inl (cI, 480, .inl v_a2_marks)), (q_a2_lasting, .inl (cI, 8, .inl v_a2_lasting))] z A) ([.ref q_t, .int x1, .ref q_a2] : List Value).toArray s 0 0 A) (F0 m 2 ls []) := by
    intro n_4
    induction n_4 with
    | zero =>
      intro x3_1 hf
      cases hf
    | succ n_4 ih_3 =>
      intro x3_1 hf H locs ls hP hD hS hl
      rw [f_X8_sameAt_L2] at hf
      refine lv_iload_n hx hb dX8_sameAt_2 rfl (lv_at hl 3 rfl) ?_
      refine lv_bipush (v := 60) hx hb dX8_sameAt_3 (by decide) ?_
      refine lv_icmp_gt (tgt := 68) hx hb dX8_sameAt_5 (by decide) (fun h_5 => ?_) (fun h_5 => ?_)
      · have hf := (if_pos h_5).symm.trans hf
        refine lv_iconst (v := 1) hx hb dX8_sameAt_68 (by decide) ?_
        have hf := Option.some.inj hf
        subst hf
        exact rt_z hx hb hr hlocks hK hP hS (Or.inr rfl) dX8_sameAt_69
      · have hf := (if_neg h_5).symm.trans hf
        refine lv_iconst (v := 0) hx hb dX8_sameAt_8 (by decide) ?_
        refine lv_istore (lv' := [(4, .int 0), (0, .ref q_t), (1, .int x1), (2, .ref q_a2), (3, .int x3_1)]) hx hb dX8_sameAt_9 hl (by decide) rfl (fun ls hl => ?_)
        have L11_7 : ∀ (n_9 : Nat) (x4_6 : Int32), f_X8_sameAt_L11 (f_X8_sameAt_L2 v_t_marks v_t_lasting v_a2_marks v_a2_lasting x1 n_4) v_t_marks v_t_lasting v_a2_marks v_a2_lasting x1 x3_1 n_9 x4_6 = some z → ∀ (H : Heap) (locs : List Loc) (ls : Array Slot), va_P D vwCl [(q_t, .inr (8, [.ref q_t_marks, .ref q_t_lasting])), (q_t_marks, .inl (cI, 480, .inl v_t_marks)), (q_t_lasting, .inl (cI, 8, .inl v_t_lasting)), (q_a2, .inr (8, [.ref q_a2_marks, .ref q_a2_lasting])), (q_a2_marks, .inl (cI, 480, .inl v_a2_marks)), (q_a2_lasting, .inl (cI, 8, .inl v_a2_lasting))] H → va_D A [(q_t, .inr (8, [.ref q_t_marks, .ref q_t_lasting])), (q_t_marks, .inl (cI, 480, .inl v_t_marks)), (q_t_lasting, .inl (cI, 8, .inl v_t_lasting)), (q_a2, .inr (8, [.ref q_a2_marks, .ref q_a2_lasting])), (q_a2_marks, .inl (cI, 480, .inl v_a2_marks)), (q_a2_lasting, .inl (cI, 8, .inl v_a2_lasting))] → va_S A s.heap H locs → lv_has ls 5 [(0, .ref q_t), (1, .int x1), (2, .ref q_a2), (3, .int x3_1), (4, .int x4_6)] → W p l e ({ frames := 3, cells := 0, slots := 0, locals := 70 } : Room) s m ([.ref q_t, .int x1, .ref q_a2] : List Value).toArray below meth c H locs 0 0 (MQ below (QI D cI cJ cZ [(q_t, .inr (8, [.ref q_t_marks, .ref q_t_lasting])), (q_t_marks, .inl (cI, 480, .inl v_t_marks)), (q_t_lasting, .inl (cI, 8, .inl v_t_lasting)), (q_a2, .inr (8, [.ref q_a2_marks, .ref q_a2_lasting])), (q_a2_marks, .inl (cI, 480, .inl v_a2_marks)), (q_a2_lasting, .inl (cI, 8, .inl v_a2_lasting))] z A) ([.ref q_t, .int x1, .ref q_a2] : List Value).toArray s 0 0 A) (F0 m 11 ls []) := by
          intro n_9
          induction n_9 with
          | zero =>
            intro x4_6 hf
            cases hf
          | succ n_9 ih_8 =>
            intro x4_6 hf H locs ls hP hD hS hl
            rw [f_X8_sameAt_L11] at hf
            refine lv_iload hx hb dX8_sameAt_11 (lv_at hl 4 rfl) ?_
            refine lv_bipush (v := 8) hx hb dX8_sameAt_13 (by decide) ?_
            refine lv_icmp_ge (tgt := 62) hx hb dX8_sameAt_15 (by decide) (fun h_10 => ?_) (fun h_10 => ?_)
            · have hf := (if_pos h_10).symm.trans hf
              unfold f_X8_sameAt_J62 at hf
              refine lv_iinc (v := (x3_1 + 1)) (lv' := [(3, .int (x3_1 + 1)), (0, .ref q_t), (1, .int x1), (2, .ref q_a2), (4, .int x4_6)]) hx hb dX8_sameAt_62 hl (k := 3) rfl rfl (by decide) rfl (fun ls hl => ?_)
              refine lv_goto (tgt := 2) hx hb dX8_sameAt_65 (by decide) ?_
              exact ih_3 (x3_1 + 1) hf _ _ _ hP hD hS (lv_sub hl [1, 2, 3, 0] rfl)
            · have hf := (if_neg h_10).symm.trans hf
              refine lv_aload_n hx hb dX8_sameAt_18 rfl (lv_at hl 0 rfl) ?_
              refine lv_aload_n hx hb dX8_sameAt_19 rfl (lv_at hl 0 rfl) ?_
              refine lv_iload hx hb dX8_sameAt_20 (lv_at hl 4 rfl) ?_
              refine lv_iload_n hx hb dX8_sameAt_22 rfl (lv_at hl 3 rfl) ?_
              obtain ⟨z23_11, hz23_11, hf⟩ := bd_some hf
              refine cVi (rest := [.ref q_t]) ⟨hx, hb, hml, hown, hts⟩ hE hK hP hD hS hA (c_X8_soundOf l D cI cJ cZ en q_t q_t_marks q_t_lasting H.size v_t_marks v_t_lasting x4_6 x3_1 hz23_11) (gv_X8_soundOf w_682) hd_X8_soundOf ⟨rfl, rfl⟩ ⟨by decide, by decide⟩ [0, 1, 2] (And.intro rfl (And.intro rfl (And.intro rfl trivial))) rfl (And.intro rfl (And.intro rfl (And.intro rfl trivial))) 8 rfl rfl 0 rfl  hl rfl (Nat.le_of_ble_eq_true rfl) ⟨Nat.zero_le _, Nat.zero_le _⟩ dX8_sameAt_23 (fun H locs hP hD hS => ?_)
              have hP : va_P D vwCl [(q_t, .inr (8, [.ref q_t_marks, .ref q_t_lasting])), (q_t_marks, .inl (cI, 480, .inl v_t_marks)), (q_t_lasting, .inl (cI, 8, .inl v_t_lasting)), (q_a2, .inr (8, [.ref q_a2_marks, .ref q_a2_lasting])), (q_a2_marks, .inl (cI, 480, .inl v_a2_marks)), (q_a2_lasting, .inl (cI, 8, .inl v_a2_lasting))] H := hP
              have hD : va_D A [(q_t, .inr (8, [.ref q_t_marks, .ref q_t_lasting])), (q_t_marks, .inl (cI, 480, .inl v_t_marks)), (q_t_lasting, .inl (cI, 8, .inl v_t_lasting)), (q_a2, .inr (8, [.ref q_a2_marks, .ref q_a2_lasting])), (q_a2_marks, .inl (cI, 480, .inl v_a2_marks)), (q_a2_lasting, .inl (cI, 8, .inl v_a2_lasting))] := hD
              refine lv_iload_n hx hb dX8_sameAt_26 rfl (lv_at hl 1 rfl) ?_
              refine lv_iload_n hx hb dX8_sameAt_27 rfl (lv_at hl 3 rfl) ?_
              refine lv_aload_n hx hb dX8_sameAt_28 rfl (lv_at hl 2 rfl) ?_
              obtain ⟨z29_12, hz29_12, hf⟩ := bd_some hf
              refine cVi (rest := []) ⟨hx, hb, hml, hown, hts⟩ hE hK hP hD hS hA (c_X8_asOften l D cI cJ cZ en q_t q_t_marks q_t_lasting q_a2 q_a2_marks q_a2_lasting H.size v_t_marks v_t_lasting v_a2_marks v_a2_lasting z23_11 x1 x3_1 hz29_12) (gv_X8_asOften w_771) hd_X8_asOften ⟨rfl, rfl⟩ ⟨by decide, by decide⟩ [0, 1, 2, 3, 4, 5] (And.intro rfl (And.intro rfl (And.intro rfl (And.intro rfl (And.intro rfl (And.intro rfl trivial)))))) rfl (And.intro rfl (And.intro rfl (And.intro rfl (And.intro rfl (And.intro rfl (And.intro rfl trivial)))))) 8 rfl rfl 0 rfl  hl rfl (Nat.le_of_ble_eq_true rfl) ⟨Nat.zero_le _, Nat.zero_le _⟩ dX8_sameAt_29 (fun H locs hP hD hS => ?_)
              have hP : va_P D vwCl [(q_t, .inr (8, [.ref q_t_marks, .ref q_t_lasting])), (q_t_marks, .inl (cI, 480, .inl v_t_marks)), (q_t_lasting, .inl (cI, 8, .inl v_t_lasting)), (q_a2, .inr (8, [.ref q_a2_marks, .ref q_a2_lasting])), (q_a2_marks, .inl (cI, 480, .inl v_a2_marks)), (q_a2_lasting, .inl (cI, 8, .inl v_a2_lasting))] H := hP
              have hD : va_D A [(q_t, .inr (8, [.ref q_t_marks, .ref q_t_lasting])), (q_t_marks, .inl (cI, 480, .inl v_t_marks)), (q_t_lasting, .inl (cI, 8, .inl v_t_lasting)), (q_a2, .inr (8, [.ref q_a2_marks, .ref q_a2_lasting])), (q_a2_marks, .inl (cI, 480, .inl v_a2_marks)), (q_a2_lasting, .inl (cI, 8, .inl v_a2_lasting))] := hD
              refine lv_if_ne (tgt := 37) hx hb dX8_sameAt_32 (by decide) (fun h_13 => ?_) (fun h_13 => ?_)
              · have hf := (if_neg h_13).symm.trans hf
                refine lv_aload_n hx hb dX8_sameAt_37 rfl (lv_at hl 0 rfl) ?_
                refine lv_aload_n hx hb dX8_sameAt_38 rfl (lv_at hl 2 rfl) ?_
                refine lv_iload hx hb dX8_sameAt_39 (lv_at hl 4 rfl) ?_
                refine lv_iload_n hx hb dX8_sameAt_41 rfl (lv_at hl 3 rfl) ?_
                obtain ⟨z42_14, hz42_14, hf⟩ := bd_some hf
                refine cVi (rest := [.ref q_t]) ⟨hx, hb, hml, hown, hts⟩ hE hK hP hD hS hA (c_X8_soundOf l D cI cJ cZ en q_a2 q_a2_marks q_a2_lasting H.size v_a2_marks v_a2_lasting x4_6 x3_1 hz42_14) (gv_X8_soundOf w_682) hd_X8_soundOf ⟨rfl, rfl⟩ ⟨by decide, by decide⟩ [3, 4, 5] (And.intro rfl (And.intro rfl (And.intro rfl trivial))) rfl (And.intro rfl (And.intro rfl (And.intro rfl trivial))) 8 rfl rfl 3 rfl  hl rfl (Nat.le_of_ble_eq_true rfl) ⟨Nat.zero_le _, Nat.zero_le _⟩ dX8_sameAt_42 (fun H locs hP hD hS => ?_)
                have hP : va_P D vwCl [(q_t, .inr (8, [.ref q_t_marks, .ref q_t_lasting])), (q_t_marks, .inl (cI, 480, .inl v_t_marks)), (q_t_lasting, .inl (cI, 8, .inl v_t_lasting)), (q_a2, .inr (8, [.ref q_a2_marks, .ref q_a2_lasting])), (q_a2_marks, .inl (cI, 480, .inl v_a2_marks)), (q_a2_lasting, .inl (cI, 8, .inl v_a2_lasting))] H := hP
                have hD : va_D A [(q_t, .inr (8, [.ref q_t_marks, .ref q_t_lasting])), (q_t_marks, .inl (cI, 480, .inl v_t_marks)), (q_t_lasting, .inl (cI, 8, .inl v_t_lasting)), (q_a2, .inr (8, [.ref q_a2_marks, .ref q_a2_lasting])), (q_a2_marks, .inl (cI, 480, .inl v_a2_marks)), (q_a2_lasting, .inl (cI, 8, .inl v_a2_lasting))] := hD
                refine lv_iload_n hx hb dX8_sameAt_45 rfl (lv_at hl 1 rfl) ?_
                refine lv_iload_n hx hb dX8_sameAt_46 rfl (lv_at hl 3 rfl) ?_
                refine lv_aload_n hx hb dX8_sameAt_47 rfl (lv_at hl 2 rfl) ?_
                obtain ⟨z48_15, hz48_15, hf⟩ := bd_some hf
                refine cVi (rest := []) ⟨hx, hb, hml, hown, hts⟩ hE hK hP hD hS hA (c_X8_asOften l D cI cJ cZ en q_t q_t_marks q_t_lasting q_a2 q_a2_marks q_a2_lasting H.size v_t_marks v_t_lasting v_a2_marks v_a2_lasting z42_14 x1 x3_1 hz48_15) (gv_X8_asOften w_771) hd_X8_asOften ⟨rfl, rfl⟩ ⟨by decide, by decide⟩ [0, 1, 2, 3, 4, 5] (And.intro rfl (And.intro rfl (And.intro rfl (And.intro rfl (And.intro rfl (And.intro rfl trivial)))))) rfl (And.intro rfl (And.intro rfl (And.intro rfl (And.intro rfl (And.intro rfl (And.intro rfl trivial)))))) 8 rfl rfl 0 rfl  hl rfl (Nat.le_of_ble_eq_true rfl) ⟨Nat.zero_le _, Nat.zero_le _⟩ dX8_sameAt_48 (fun H locs hP hD hS => ?_)
                have hP : va_P D vwCl [(q_t, .inr (8, [.ref q_t_marks, .ref q_t_lasting])), (q_t_marks, .inl (cI, 480, .inl v_t_marks)), (q_t_lasting, .inl (cI, 8, .inl v_t_lasting)), (q_a2, .inr (8, [.ref q_a2_marks, .ref q_a2_lasting])), (q_a2_marks, .inl (cI, 480, .inl v_a2_marks)), (q_a2_lasting, .inl (cI, 8, .inl v_a2_lasting))] H := hP
                have hD : va_D A [(q_t, .inr (8, [.ref q_t_marks, .ref q_t_lasting])), (q_t_marks, .inl (cI, 480, .inl v_t_marks)), (q_t_lasting, .inl (cI, 8, .inl v_t_lasting)), (q_a2, .inr (8, [.ref q_a2_marks, .ref q_a2_lasting])), (q_a2_marks, .inl (cI, 480, .inl v_a2_marks)), (q_a2_lasting, .inl (cI, 8, .inl v_a2_lasting))] := hD
                refine lv_if_ne (tgt := 56) hx hb dX8_sameAt_51 (by decide) (fun h_16 => ?_) (fun h_16 => ?_)
                · have hf := (if_neg h_16).symm.trans hf
                  refine lv_iinc (v := (x4_6 + 1)) (lv' := [(4, .int (x4_6 + 1)), (0, .ref q_t), (1, .int x1), (2, .ref q_a2), (3, .int x3_1)]) hx hb dX8_sameAt_56 hl (k := 4) rfl rfl (by decide) rfl (fun ls hl => ?_)
                  refine lv_goto (tgt := 11) hx hb dX8_sameAt_59 (by decide) ?_
                  exact ih_8 (x4_6 + 1) hf _ _ _ hP hD hS (lv_sub hl [1, 2, 3, 4, 0] rfl)
                · have hf := (if_pos h_16).symm.trans hf
                  refine lv_iconst (v := 0) hx hb dX8_sameAt_54 (by decide) ?_
                  have hf := Option.some.inj hf
                  subst hf
                  exact rt_z hx hb hr hlocks hK hP hS (Or.inl rfl) dX8_sameAt_55
              · have hf := (if_pos h_13).symm.trans hf
                refine lv_iconst (v := 0) hx hb dX8_sameAt_35 (by decide) ?_
                have hf := Option.some.inj hf
                subst hf
                exact rt_z hx hb hr hlocks hK hP hS (Or.inl rfl) dX8_sameAt_36
        exact L11_7 FU 0 hf _ _ _ hP hD hS (lv_sub hl [1, 2, 3, 4, 0] rfl)
  exact L2_2 FU 1 hf _ _ _ hP hD hS (lv_sub hl [1, 2, 3, 0] rfl)
