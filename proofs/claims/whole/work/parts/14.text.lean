def f_X7_append (v_t_length : Int32) (v_t_bytes : Nat → Int32) (x1 : Int32) : Option (Int32 × (Nat → Int32)) :=
  (if v_t_length < 0 then (some (v_t_length, v_t_bytes)) else (if v_t_length < 200 then gd (ib v_t_length 200) ((some ((v_t_length + 1), (upd v_t_bytes (Int32.toNatClampNeg v_t_length) x1)))) else (some (v_t_length, v_t_bytes))))
theorem gv_X7_append {own : String} {idx : Nat} (h : Cond.methodLink own idx yX7_append ∈ lw_g) : GoodIn lw_g (wsV own idx RX7 yX7_append (Cond.code yX7_append cX7_append 2 none :: lw_g)) := gV h w_329 w_330 w_58 w_331
theorem hd_X7_append : yX7_append.cls = RX7 ∧ yX7_append.cls ≠ "java/lang/invoke/MethodHandle" ∧ yX7_append.cls ≠ "java/lang/invoke/VarHandle" ∧ (parseMethodDescriptor yX7_append.desc).map (fun d => d.parameters.length) = some 1 := by decide +kernel
set_option maxHeartbeats 4000000 in
set_option maxRecDepth 100000 in
theorem c_X7_append (l : Launch) (D : va_G) (cI cJ cZ : ClassId) (en : EnT) (q_t q_t_bytes : Nat) (sz : Nat) (v_t_length : Int32) (v_t_bytes : Nat → Int32) (x1 : Int32) {z : Int32 × (Nat → Int32)} (hf : f_X7_append v_t_length v_t_bytes x1 = some z) : Met l yX7_append (Cond.code yX7_append cX7_append 2 none :: lw_g) ({ frames := 0, cells := 0, slots := 0, locals := 0 } : Room) (PC D cI cJ cZ en ([.ref q_t, .int x1] : List Value) [(q_t, .inr (7, [.ref q_t_bytes, .int v_t_length])), (q_t_bytes, .inl (cI, 200, .inl v_t_bytes))] sz) (QV D cI cJ cZ [(q_t, .inr (7, [.ref q_t_bytes, .int z.1])), (q_t_bytes, .inl (cI, 200, .inl z.2))] (va_A [(q_t, .inr (7, [.ref q_t_bytes, .int v_t_length])), (q_t_bytes, .inl (cI, 200, .inl v_t_bytes))] sz)) 0 0 (va_A [(q_t, .inr (7, [.ref q_t_bytes, .int v_t_length])), (q_t_bytes, .inl (cI, 200, .inl v_t_bytes))] sz) := by
  refine mk_met (Qc := fun A => (QV D cI cJ cZ [(q_t, .inr (7, [.ref q_t_bytes, .int z.1])), (q_t_bytes, .inl (cI, 200, .inl z.2))] A)) RX7 (by decide) rfl (Nat.le_of_ble_eq_true rfl) ?_
  intro p e s m below meth c ls A hx hb hr hml hown hts hlocks hA hK hE hl hD H locs hP hS
  have hl : lv_has ls 2 [(0, .ref q_t), (1, .int x1)] := hl
  unfold f_X7_append at hf
  refine lv_aload_n hx hb dX7_append_0 rfl (lv_at hl 0 rfl) ?_
  refine va_get (D := D) (ci := 7) (v := .int v_t_length) (C := RX7) (T := TX7) (N := 2) hx hb hts inX7 hown hK hP 0 rfl rfl 1 (by decide) (hts _ w_90) (fun _ h9 => h9) rfl dX7_append_1 ?_
  refine lv_if_lt (tgt := 17) hx hb dX7_append_4 (by decide) (fun h_1 => ?_) (fun h_1 => ?_)
  · have hf := (if_pos h_1).symm.trans hf
    cases hf
    exact rt_v hx hb hr hlocks hK hP hS dX7_append_17
  · have hf := (if_neg h_1).symm.trans hf
    refine lv_aload_n hx hb dX7_append_7 rfl (lv_at hl 0 rfl) ?_
    refine va_get (D := D) (ci := 7) (v := .int v_t_length) (C := RX7) (T := TX7) (N := 2) hx hb hts inX7 hown hK hP 0 rfl rfl 1 (by decide) (hts _ w_90) (fun _ h9 => h9) rfl dX7_append_8 ?_
    refine lv_sipush (v := 200) hx hb dX7_append_11 (by decide) ?_
    refine lv_icmp_lt (tgt := 18) hx hb dX7_append_14 (by decide) (fun h_2 => ?_) (fun h_2 => ?_)
    · have hf := (if_pos h_2).symm.trans hf
      refine lv_aload_n hx hb dX7_append_18 rfl (lv_at hl 0 rfl) ?_
      refine va_get (D := D) (ci := 7) (v := .ref q_t_bytes) (C := RX7) (T := TX7) (N := 2) hx hb hts inX7 hown hK hP 0 rfl rfl 0 (by decide) (hts _ w_89) (fun _ h9 => h9) rfl dX7_append_19 ?_
      refine lv_aload_n hx hb dX7_append_22 rfl (lv_at hl 0 rfl) ?_
      refine va_get (D := D) (ci := 7) (v := .int v_t_length) (C := RX7) (T := TX7) (N := 2) hx hb hts inX7 hown hK hP 0 rfl rfl 1 (by decide) (hts _ w_90) (fun _ h9 => h9) rfl dX7_append_23 ?_
      refine lv_iload_n hx hb dX7_append_26 rfl (lv_at hl 1 rfl) ?_
      obtain ⟨hin, hf⟩ := gd_some hf
      refine va_iast hx hb hK hP hD hS 1 0 rfl rfl hin dX7_append_27 (fun H locs hP hD hS => ?_)
      have hP : va_P D vwCl [(q_t, .inr (7, [.ref q_t_bytes, .int v_t_length])), (q_t_bytes, .inl (cI, 200, .inl (upd v_t_bytes (Int32.toNatClampNeg v_t_length) x1)))] H := hP
      have hD : va_D A [(q_t, .inr (7, [.ref q_t_bytes, .int v_t_length])), (q_t_bytes, .inl (cI, 200, .inl (upd v_t_bytes (Int32.toNatClampNeg v_t_length) x1)))] := hD
      refine lv_aload_n hx hb dX7_append_28 rfl (lv_at hl 0 rfl) ?_
      refine lv_dup hx hb dX7_append_29 rfl ?_
      refine va_get (D := D) (ci := 7) (v := .int v_t_length) (C := RX7) (T := TX7) (N := 2) hx hb hts inX7 hown hK hP 0 rfl rfl 1 (by decide) (hts _ w_90) (fun _ h9 => h9) rfl dX7_append_30 ?_
      refine lv_iconst (v := 1) hx hb dX7_append_33 (by decide) ?_
      refine lv_iadd hx hb dX7_append_34 ?_
      refine va_put (D := D) (ci := 7) (v := .int (v_t_length + 1)) (ty := .int) (C := RX7) (T := TX7) (N := 2) hx hb hts inX7 tyX7 tyX7_ok nmX7 hown hK hP hD hS 0 rfl rfl 1 (by decide) (hts _ w_90) (fun _ h9 => h9) rfl (by decide +kernel) rfl rfl (Nat.le_of_ble_eq_true rfl) dX7_append_35 (fun H locs hP hD hS => ?_)
      have hP : va_P D vwCl [(q_t, .inr (7, [.ref q_t_bytes, .int (v_t_length + 1)])), (q_t_bytes, .inl (cI, 200, .inl (upd v_t_bytes (Int32.toNatClampNeg v_t_length) x1)))] H := hP
      have hD : va_D A [(q_t, .inr (7, [.ref q_t_bytes, .int (v_t_length + 1)])), (q_t_bytes, .inl (cI, 200, .inl (upd v_t_bytes (Int32.toNatClampNeg v_t_length) x1)))] := hD
      cases hf
      exact rt_v hx hb hr hlocks hK hP hS dX7_append_38
    · have hf := (if_neg h_2).symm.trans hf
      cases hf
      exact rt_v hx hb hr hlocks hK hP hS dX7_append_17

def f_X7_byteAt (v_t_length : Int32) (v_t_bytes : Nat → Int32) (x1 : Int32) : Option (Int32) :=
  (if x1 < 0 then (some (-1)) else (if v_t_length ≤ x1 then (some (-1)) else (if x1 < 200 then gd (ib x1 200) ((some (v_t_bytes (Int32.toNatClampNeg x1)))) else (some (-1)))))
theorem gv_X7_byteAt {own : String} {idx : Nat} (h : Cond.methodLink own idx yX7_byteAt ∈ lw_g) : GoodIn lw_g (wsV own idx RX7 yX7_byteAt (Cond.code yX7_byteAt cX7_byteAt 2 (some .int) :: lw_g)) := gV h w_357 w_358 w_58 w_359
theorem hd_X7_byteAt : yX7_byteAt.cls = RX7 ∧ yX7_byteAt.cls ≠ "java/lang/invoke/MethodHandle" ∧ yX7_byteAt.cls ≠ "java/lang/invoke/VarHandle" ∧ (parseMethodDescriptor yX7_byteAt.desc).map (fun d => d.parameters.length) = some 1 := by decide +kernel
set_option maxHeartbeats 4000000 in
set_option maxRecDepth 100000 in
theorem c_X7_byteAt (l : Launch) (D : va_G) (cI cJ cZ : ClassId) (en : EnT) (q_t q_t_bytes : Nat) (sz : Nat) (v_t_length : Int32) (v_t_bytes : Nat → Int32) (x1 : Int32) {z : Int32} (hf : f_X7_byteAt v_t_length v_t_bytes x1 = some z) : Met l yX7_byteAt (Cond.code yX7_byteAt cX7_byteAt 2 (some .int) :: lw_g) ({ frames := 0, cells := 0, slots := 0, locals := 0 } : Room) (PC D cI cJ cZ en ([.ref q_t, .int x1] : List Value) [(q_t, .inr (7, [.ref q_t_bytes, .int v_t_length])), (q_t_bytes, .inl (cI, 200, .inl v_t_bytes))] sz) (QI D cI cJ cZ [(q_t, .inr (7, [.ref q_t_bytes, .int v_t_length])), (q_t_bytes, .inl (cI, 200, .inl v_t_bytes))] z (va_A [(q_t, .inr (7, [.ref q_t_bytes, .int v_t_length])), (q_t_bytes, .inl (cI, 200, .inl v_t_bytes))] sz)) 0 0 (va_A [(q_t, .inr (7, [.ref q_t_bytes, .int v_t_length])), (q_t_bytes, .inl (cI, 200, .inl v_t_bytes))] sz) := by
  refine mk_met (Qc := fun A => (QI D cI cJ cZ [(q_t, .inr (7, [.ref q_t_bytes, .int v_t_length])), (q_t_bytes, .inl (cI, 200, .inl v_t_bytes))] z A)) RX7 (by decide) rfl (Nat.le_of_ble_eq_true rfl) ?_
  intro p e s m below meth c ls A hx hb hr hml hown hts hlocks hA hK hE hl hD H locs hP hS
  have hl : lv_has ls 2 [(0, .ref q_t), (1, .int x1)] := hl
  unfold f_X7_byteAt at hf
  refine lv_iload_n hx hb dX7_byteAt_0 rfl (lv_at hl 1 rfl) ?_
  refine lv_if_lt (tgt := 19) hx hb dX7_byteAt_1 (by decide) (fun h_1 => ?_) (fun h_1 => ?_)
  · have hf := (if_pos h_1).symm.trans hf
    refine lv_iconst (v := (-1)) hx hb dX7_byteAt_19 (by decide) ?_
    refine lv_goto (tgt := 29) hx hb dX7_byteAt_20 (by decide) ?_
    cases hf
    exact rt_i hx hb hr hlocks hK hP hS dX7_byteAt_29
  · have hf := (if_neg h_1).symm.trans hf
    refine lv_iload_n hx hb dX7_byteAt_4 rfl (lv_at hl 1 rfl) ?_
    refine lv_aload_n hx hb dX7_byteAt_5 rfl (lv_at hl 0 rfl) ?_
    refine va_get (D := D) (ci := 7) (v := .int v_t_length) (C := RX7) (T := TX7) (N := 2) hx hb hts inX7 hown hK hP 0 rfl rfl 1 (by decide) (hts _ w_90) (fun _ h9 => h9) rfl dX7_byteAt_6 ?_
    refine lv_icmp_ge (tgt := 19) hx hb dX7_byteAt_9 (by decide) (fun h_2 => ?_) (fun h_2 => ?_)
    · have hf := (if_pos h_2).symm.trans hf
      refine lv_iconst (v := (-1)) hx hb dX7_byteAt_19 (by decide) ?_
      refine lv_goto (tgt := 29) hx hb dX7_byteAt_20 (by decide) ?_
      cases hf
      exact rt_i hx hb hr hlocks hK hP hS dX7_byteAt_29
    · have hf := (if_neg h_2).symm.trans hf
      refine lv_iload_n hx hb dX7_byteAt_12 rfl (lv_at hl 1 rfl) ?_
      refine lv_sipush (v := 200) hx hb dX7_byteAt_13 (by decide) ?_
      refine lv_icmp_lt (tgt := 23) hx hb dX7_byteAt_16 (by decide) (fun h_3 => ?_) (fun h_3 => ?_)
      · have hf := (if_pos h_3).symm.trans hf
        refine lv_aload_n hx hb dX7_byteAt_23 rfl (lv_at hl 0 rfl) ?_
        refine va_get (D := D) (ci := 7) (v := .ref q_t_bytes) (C := RX7) (T := TX7) (N := 2) hx hb hts inX7 hown hK hP 0 rfl rfl 0 (by decide) (hts _ w_89) (fun _ h9 => h9) rfl dX7_byteAt_24 ?_
        refine lv_iload_n hx hb dX7_byteAt_27 rfl (lv_at hl 1 rfl) ?_
        obtain ⟨hin, hf⟩ := gd_some hf
        refine va_iald hx hb hK hP 1 0 rfl rfl hin dX7_byteAt_28 ?_
        cases hf
        exact rt_i hx hb hr hlocks hK hP hS dX7_byteAt_29
      · have hf := (if_neg h_3).symm.trans hf
        refine lv_iconst (v := (-1)) hx hb dX7_byteAt_19 (by decide) ?_
        refine lv_goto (tgt := 29) hx hb dX7_byteAt_20 (by decide) ?_
        cases hf
        exact rt_i hx hb hr hlocks hK hP hS dX7_byteAt_29

def f_X8_lastTickOf (v_t_lasting : Nat → Int32) (x1 : Int32) : Option (Int32) :=
  (if x1 < 0 then (some 0) else (if x1 < 8 then gd (ib x1 8) ((some (v_t_lasting (Int32.toNatClampNeg x1)))) else (some 0)))
theorem gv_X8_lastTickOf {own : String} {idx : Nat} (h : Cond.methodLink own idx yX8_lastTickOf ∈ lw_g) : GoodIn lw_g (wsV own idx RX8 yX8_lastTickOf (Cond.code yX8_lastTickOf cX8_lastTickOf 2 (some .int) :: lw_g)) := gV h w_633 w_634 w_64 w_635
theorem hd_X8_lastTickOf : yX8_lastTickOf.cls = RX8 ∧ yX8_lastTickOf.cls ≠ "java/lang/invoke/MethodHandle" ∧ yX8_lastTickOf.cls ≠ "java/lang/invoke/VarHandle" ∧ (parseMethodDescriptor yX8_lastTickOf.desc).map (fun d => d.parameters.length) = some 1 := by decide +kernel
set_option maxHeartbeats 4000000 in
set_option maxRecDepth 100000 in
theorem c_X8_lastTickOf (l : Launch) (D : va_G) (cI cJ cZ : ClassId) (en : EnT) (q_t q_t_marks q_t_lasting : Nat) (sz : Nat) (v_t_marks : Nat → Int32) (v_t_lasting : Nat → Int32) (x1 : Int32) {z : Int32} (hf : f_X8_lastTickOf v_t_lasting x1 = some z) : Met l yX8_lastTickOf (Cond.code yX8_lastTickOf cX8_lastTickOf 2 (some .int) :: lw_g) ({ frames := 0, cells := 0, slots := 0, locals := 0 } : Room) (PC D cI cJ cZ en ([.ref q_t, .int x1] : List Value) [(q_t, .inr (8, [.ref q_t_marks, .ref q_t_lasting])), (q_t_marks, .inl (cI, 480, .inl v_t_marks)), (q_t_lasting, .inl (cI, 8, .inl v_t_lasting))] sz) (QI D cI cJ cZ [(q_t, .inr (8, [.ref q_t_marks, .ref q_t_lasting])), (q_t_marks, .inl (cI, 480, .inl v_t_marks)), (q_t_lasting, .inl (cI, 8, .inl v_t_lasting))] z (va_A [(q_t, .inr (8, [.ref q_t_marks, .ref q_t_lasting])), (q_t_marks, .inl (cI, 480, .inl v_t_marks)), (q_t_lasting, .inl (cI, 8, .inl v_t_lasting))] sz)) 0 0 (va_A [(q_t, .inr (8, [.ref q_t_marks, .ref q_t_lasting])), (q_t_marks, .inl (cI, 480, .inl v_t_marks)), (q_t_lasting, .inl (cI, 8, .inl v_t_lasting))] sz) := by
  refine mk_met (Qc := fun A => (QI D cI cJ cZ [(q_t, .inr (8, [.ref q_t_marks, .ref q_t_lasting])), (q_t_marks, .inl (cI, 480, .inl v_t_marks)), (q_t_lasting, .inl (cI, 8, .inl v_t_lasting))] z A)) RX8 (by decide) rfl (Nat.le_of_ble_eq_true rfl) ?_
  intro p e s m below meth c ls A hx hb hr hml hown hts hlocks hA hK hE hl hD H locs hP hS
  have hl : lv_has ls 2 [(0, .ref q_t), (1, .int x1)] := hl
  unfold f_X8_lastTickOf at hf
  refine lv_iload_n hx hb dX8_lastTickOf_0 rfl (lv_at hl 1 rfl) ?_
  refine lv_if_lt (tgt := 10) hx hb dX8_lastTickOf_1 (by decide) (fun h_1 => ?_) (fun h_1 => ?_)
  · have hf := (if_pos h_1).symm.trans hf
    refine lv_iconst (v := 0) hx hb dX8_lastTickOf_10 (by decide) ?_
    refine lv_goto (tgt := 20) hx hb dX8_lastTickOf_11 (by decide) ?_
    cases hf
    exact rt_i hx hb hr hlocks hK hP hS dX8_lastTickOf_20
  · have hf := (if_neg h_1).symm.trans hf
    refine lv_iload_n hx hb dX8_lastTickOf_4 rfl (lv_at hl 1 rfl) ?_
    refine lv_bipush (v := 8) hx hb dX8_lastTickOf_5 (by decide) ?_
    refine lv_icmp_lt (tgt := 14) hx hb dX8_lastTickOf_7 (by decide) (fun h_2 => ?_) (fun h_2 => ?_)
    · have hf := (if_pos h_2).symm.trans hf
      refine lv_aload_n hx hb dX8_lastTickOf_14 rfl (lv_at hl 0 rfl) ?_
      refine va_get (D := D) (ci := 8) (v := .ref q_t_lasting) (C := RX8) (T := TX8) (N := 2) hx hb hts inX8 hown hK hP 0 rfl rfl 1 (by decide) (hts _ w_240) (fun _ h9 => h9) rfl dX8_lastTickOf_15 ?_
      refine lv_iload_n hx hb dX8_lastTickOf_18 rfl (lv_at hl 1 rfl) ?_
      obtain ⟨hin, hf⟩ := gd_some hf
      refine va_iald hx hb hK hP 2 0 rfl rfl hin dX8_lastTickOf_19 ?_
      cases hf
      exact rt_i hx hb hr hlocks hK hP hS dX8_lastTickOf_20
    · have hf := (if_neg h_2).symm.trans hf
      refine lv_iconst (v := 0) hx hb dX8_lastTickOf_10 (by decide) ?_
      refine lv_goto (tgt := 20) hx hb dX8_lastTickOf_11 (by decide) ?_
      cases hf
      exact rt_i hx hb hr hlocks hK hP hS dX8_lastTickOf_20

def f_X8_soundOf (v_t_marks : Nat → Int32) (v_t_lasting : Nat → Int32) (x1 : Int32) (x2 : Int32) : Option (Int32) :=
  (if x1 < 0 then (some 0) else (if 8 ≤ x1 then (some 0) else (if x2 < 1 then (some 0) else gd (ib x1 8) ((if x2 ≤ (v_t_lasting (Int32.toNatClampNeg x1)) then gd (ib (((x1 * 60) + x2) - 1) 480) ((some (v_t_marks (Int32.toNatClampNeg (((x1 * 60) + x2) - 1))))) else (some 0))))))
theorem gv_X8_soundOf {own : String} {idx : Nat} (h : Cond.methodLink own idx yX8_soundOf ∈ lw_g) : GoodIn lw_g (wsV own idx RX8 yX8_soundOf (Cond.code yX8_soundOf cX8_soundOf 3 (some .int) :: lw_g)) := gV h w_637 w_638 w_64 w_639
theorem hd_X8_soundOf : yX8_soundOf.cls = RX8 ∧ yX8_soundOf.cls ≠ "java/lang/invoke/MethodHandle" ∧ yX8_soundOf.cls ≠ "java/lang/invoke/VarHandle" ∧ (parseMethodDescriptor yX8_soundOf.desc).map (fun d => d.parameters.length) = some 2 := by decide +kernel
set_option maxHeartbeats 4000000 in
set_option maxRecDepth 100000 in
theorem c_X8_soundOf (l : Launch) (D : va_G) (cI cJ cZ : ClassId) (en : EnT) (q_t q_t_marks q_t_lasting : Nat) (sz : Nat) (v_t_marks : Nat → Int32) (v_t_lasting : Nat → Int32) (x1 : Int32) (x2 : Int32) {z : Int32} (hf : f_X8_soundOf v_t_marks v_t_lasting x1 x2 = some z) : Met l yX8_soundOf (Cond.code yX8_soundOf cX8_soundOf 3 (some .int) :: lw_g) ({ frames := 0, cells := 0, slots := 0, locals := 0 } : Room) (PC D cI cJ cZ en ([.ref q_t, .int x1, .int x2] : List Value) [(q_t, .inr (8, [.ref q_t_marks, .ref q_t_lasting])), (q_t_marks, .inl (cI, 480, .inl v_t_marks)), (q_t_lasting, .inl (cI, 8, .inl v_t_lasting))] sz) (QI D cI cJ cZ [(q_t, .inr (8, [.ref q_t_marks, .ref q_t_lasting])), (q_t_marks, .inl (cI, 480, .inl v_t_marks)), (q_t_lasting, .inl (cI, 8, .inl v_t_lasting))] z (va_A [(q_t, .inr (8, [.ref q_t_marks, .ref q_t_lasting])), (q_t_marks, .inl (cI, 480, .inl v_t_marks)), (q_t_lasting, .inl (cI, 8, .inl v_t_lasting))] sz)) 0 0 (va_A [(q_t, .inr (8, [.ref q_t_marks, .ref q_t_lasting])), (q_t_marks, .inl (cI, 480, .inl v_t_marks)), (q_t_lasting, .inl (cI, 8, .inl v_t_lasting))] sz) := by
  refine mk_met (Qc := fun A => (QI D cI cJ cZ [(q_t, .inr (8, [.ref q_t_marks, .ref q_t_lasting])), (q_t_marks, .inl (cI, 480, .inl v_t_marks)), (q_t_lasting, .inl (cI, 8, .inl v_t_lasting))] z A)) RX8 (by decide) rfl (Nat.le_of_ble_eq_true rfl) ?_
  intro p e s m below meth c ls A hx hb hr hml hown hts hlocks hA hK hE hl hD H locs hP hS
  have hl : lv_has ls 3 [(0, .ref q_t), (1, .int x1), (2, .int x2)] := hl
  unfold f_X8_soundOf at hf
  refine lv_iload_n hx hb dX8_soundOf_0 rfl (lv_at hl 1 rfl) ?_
  refine lv_if_lt (tgt := 25) hx hb dX8_soundOf_1 (by decide) (fun h_1 => ?_) (fun h_1 => ?_)
  · have hf := (if_pos h_1).symm.trans hf
    refine lv_iconst (v := 0) hx hb dX8_soundOf_25 (by decide) ?_
    cases hf
    exact rt_i hx hb hr hlocks hK hP hS dX8_soundOf_26
  · have hf := (if_neg h_1).symm.trans hf
    refine lv_iload_n hx hb dX8_soundOf_4 rfl (lv_at hl 1 rfl) ?_
    refine lv_bipush (v := 8) hx hb dX8_soundOf_5 (by decide) ?_
    refine lv_icmp_ge (tgt := 25) hx hb dX8_soundOf_7 (by decide) (fun h_2 => ?_) (fun h_2 => ?_)
    · have hf := (if_pos h_2).symm.trans hf
      refine lv_iconst (v := 0) hx hb dX8_soundOf_25 (by decide) ?_
      cases hf
      exact rt_i hx hb hr hlocks hK hP hS dX8_soundOf_26
    · have hf := (if_neg h_2).symm.trans hf
      refine lv_iload_n hx hb dX8_soundOf_10 rfl (lv_at hl 2 rfl) ?_
      refine lv_iconst (v := 1) hx hb dX8_soundOf_11 (by decide) ?_
      refine lv_icmp_lt (tgt := 25) hx hb dX8_soundOf_12 (by decide) (fun h_3 => ?_) (fun h_3 => ?_)
      · have hf := (if_pos h_3).symm.trans hf
        refine lv_iconst (v := 0) hx hb dX8_soundOf_25 (by decide) ?_
        cases hf
        exact rt_i hx hb hr hlocks hK hP hS dX8_soundOf_26
      · have hf := (if_neg h_3).symm.trans hf
        refine lv_iload_n hx hb dX8_soundOf_15 rfl (lv_at hl 2 rfl) ?_
        refine lv_aload_n hx hb dX8_soundOf_16 rfl (lv_at hl 0 rfl) ?_
        refine va_get (D := D) (ci := 8) (v := .ref q_t_lasting) (C := RX8) (T := TX8) (N := 2) hx hb hts inX8 hown hK hP 0 rfl rfl 1 (by decide) (hts _ w_240) (fun _ h9 => h9) rfl dX8_soundOf_17 ?_
        refine lv_iload_n hx hb dX8_soundOf_20 rfl (lv_at hl 1 rfl) ?_
        obtain ⟨hin, hf⟩ := gd_some hf
        refine va_iald hx hb hK hP 2 0 rfl rfl hin dX8_soundOf_21 ?_
        refine lv_icmp_le (tgt := 27) hx hb dX8_soundOf_22 (by decide) (fun h_4 => ?_) (fun h_4 => ?_)
        · have hf := (if_pos h_4).symm.trans hf
          refine lv_aload_n hx hb dX8_soundOf_27 rfl (lv_at hl 0 rfl) ?_
          refine va_get (D := D) (ci := 8) (v := .ref q_t_marks) (C := RX8) (T := TX8) (N := 2) hx hb hts inX8 hown hK hP 0 rfl rfl 0 (by decide) (hts _ w_239) (fun _ h9 => h9) rfl dX8_soundOf_28 ?_
          refine lv_iload_n hx hb dX8_soundOf_31 rfl (lv_at hl 1 rfl) ?_
          refine lv_bipush (v := 60) hx hb dX8_soundOf_32 (by decide) ?_
          refine lv_imul hx hb dX8_soundOf_34 ?_
          refine lv_iload_n hx hb dX8_soundOf_35 rfl (lv_at hl 2 rfl) ?_
          refine lv_iadd hx hb dX8_soundOf_36 ?_
          refine lv_iconst (v := 1) hx hb dX8_soundOf_37 (by decide) ?_
          refine lv_isub hx hb dX8_soundOf_38 ?_
          obtain ⟨hin, hf⟩ := gd_some hf
          refine va_iald hx hb hK hP 1 0 rfl rfl hin dX8_soundOf_39 ?_
          cases hf
          exact rt_i hx hb hr hlocks hK hP hS dX8_soundOf_40
        · have hf := (if_neg h_4).symm.trans hf
          refine lv_iconst (v := 0) hx hb dX8_soundOf_25 (by decide) ?_
          cases hf
          exact rt_i hx hb hr hlocks hK hP hS dX8_soundOf_26

def f_X8_cellOf (x0 : Int32) : Option (Int32) :=
  (some ((x0 &&& 63) - 1))
theorem gs_X8_cellOf {own : String} {idx : Nat} (h : Cond.methodLink own idx yX8_cellOf ∈ lw_g) : GoodIn lw_g (va_wsS own idx yX8_cellOf (Cond.code yX8_cellOf cX8_cellOf 1 (some .int) :: lw_g)) := gS h w_641 w_64 w_642
theorem hd_X8_cellOf : yX8_cellOf.cls ≠ "java/lang/invoke/MethodHandle" ∧ yX8_cellOf.cls ≠ "java/lang/invoke/VarHandle" ∧ (parseMethodDescriptor yX8_cellOf.desc).map (fun d => d.parameters.length) = some 1 := by decide +kernel
set_option maxHeartbeats 4000000 in
set_option maxRecDepth 100000 in
theorem c_X8_cellOf (l : Launch) (D : va_G) (cI cJ cZ : ClassId) (en : EnT) (sz : Nat) (x0 : Int32) {z : Int32} (hf : f_X8_cellOf x0 = some z) : Met l yX8_cellOf (Cond.code yX8_cellOf cX8_cellOf 1 (some .int) :: lw_g) ({ frames := 0, cells := 0, slots := 0, locals := 0 } : Room) (PC D cI cJ cZ en ([.int x0] : List Value) [] sz) (QI D cI cJ cZ [] z (va_A [] sz)) 0 0 (va_A [] sz) := by
  refine mk_met (Qc := fun A => (QI D cI cJ cZ [] z A)) RX8 (by decide) rfl (Nat.le_of_ble_eq_true rfl) ?_
  intro p e s m below meth c ls A hx hb hr hml hown hts hlocks hA hK hE hl hD H locs hP hS
  have hl : lv_has ls 1 [(0, .int x0)] := hl
  unfold f_X8_cellOf at hf
  refine lv_iload_n hx hb dX8_cellOf_0 rfl (lv_at hl 0 rfl) ?_
  refine lv_bipush (v := 63) hx hb dX8_cellOf_1 (by decide) ?_
  refine lv_iand hx hb dX8_cellOf_3 ?_
  refine lv_iconst (v := 1) hx hb dX8_cellOf_4 (by decide) ?_
  refine lv_isub hx hb dX8_cellOf_5 ?_
  cases hf
  exact rt_i hx hb hr hlocks hK hP hS dX8_cellOf_6

def f_X8_thrownOf (x0 : Int32) : Option (Int32) :=
  (some (x0 >>> (13 &&& 31)))
theorem gs_X8_thrownOf {own : String} {idx : Nat} (h : Cond.methodLink own idx yX8_thrownOf ∈ lw_g) : GoodIn lw_g (va_wsS own idx yX8_thrownOf (Cond.code yX8_thrownOf cX8_thrownOf 1 (some .int) :: lw_g)) := gS h w_644 w_64 w_645
theorem hd_X8_thrownOf : yX8_thrownOf.cls ≠ "java/lang/invoke/MethodHandle" ∧ yX8_thrownOf.cls ≠ "java/lang/invoke/VarHandle" ∧ (parseMethodDescriptor yX8_thrownOf.desc).map (fun d => d.parameters.length) = some 1 := by decide +kernel
set_option maxHeartbeats 4000000 in
set_option maxRecDepth 100000 in
theorem c_X8_thrownOf (l : Launch) (D : va_G) (cI cJ cZ : ClassId) (en : EnT) (sz : Nat) (x0 : Int32) {z : Int32} (hf : f_X8_thrownOf x0 = some z) : Met l yX8_thrownOf (Cond.code yX8_thrownOf cX8_thrownOf 1 (some .int) :: lw_g) ({ frames := 0, cells := 0, slots := 0, locals := 0 } : Room) (PC D cI cJ cZ en ([.int x0] : List Value) [] sz) (QI D cI cJ cZ [] z (va_A [] sz)) 0 0 (va_A [] sz) := by
  refine mk_met (Qc := fun A => (QI D cI cJ cZ [] z A)) RX8 (by decide) rfl (Nat.le_of_ble_eq_true rfl) ?_
  intro p e s m below meth c ls A hx hb hr hml hown hts hlocks hA hK hE hl hD H locs hP hS
  have hl : lv_has ls 1 [(0, .int x0)] := hl
  unfold f_X8_thrownOf at hf
  refine lv_iload_n hx hb dX8_thrownOf_0 rfl (lv_at hl 0 rfl) ?_
  refine lv_bipush (v := 13) hx hb dX8_thrownOf_1 (by decide) ?_
  refine lv_ishr hx hb dX8_thrownOf_3 ?_
  cases hf
  exact rt_i hx hb hr hlocks hK hP hS dX8_thrownOf_4

def f_X8_loudOf (x0 : Int32) : Option (Int32) :=
  (some ((x0 >>> (6 &&& 31)) &&& 127))
theorem gs_X8_loudOf {own : String} {idx : Nat} (h : Cond.methodLink own idx yX8_loudOf ∈ lw_g) : GoodIn lw_g (va_wsS own idx yX8_loudOf (Cond.code yX8_loudOf cX8_loudOf 1 (some .int) :: lw_g)) := gS h w_647 w_64 w_648
theorem hd_X8_loudOf : yX8_loudOf.cls ≠ "java/lang/invoke/MethodHandle" ∧ yX8_loudOf.cls ≠ "java/lang/invoke/VarHandle" ∧ (parseMethodDescriptor yX8_loudOf.desc).map (fun d => d.parameters.length) = some 1 := by decide +kernel
set_option maxHeartbeats 4000000 in
set_option maxRecDepth 100000 in
theorem c_X8_loudOf (l : Launch) (D : va_G) (cI cJ cZ : ClassId) (en : EnT) (sz : Nat) (x0 : Int32) {z : Int32} (hf : f_X8_loudOf x0 = some z) : Met l yX8_loudOf (Cond.code yX8_loudOf cX8_loudOf 1 (some .int) :: lw_g) ({ frames := 0, cells := 0, slots := 0, locals := 0 } : Room) (PC D cI cJ cZ en ([.int x0] : List Value) [] sz) (QI D cI cJ cZ [] z (va_A [] sz)) 0 0 (va_A [] sz) := by
  refine mk_met (Qc := fun A => (QI D cI cJ cZ [] z A)) RX8 (by decide) rfl (Nat.le_of_ble_eq_true rfl) ?_
  intro p e s m below meth c ls A hx hb hr hml hown hts hlocks hA hK hE hl hD H locs hP hS
  have hl : lv_has ls 1 [(0, .int x0)] := hl
  unfold f_X8_loudOf at hf
  refine lv_iload_n hx hb dX8_loudOf_0 rfl (lv_at hl 0 rfl) ?_
  refine lv_bipush (v := 6) hx hb dX8_loudOf_1 (by decide) ?_
  refine lv_ishr hx hb dX8_loudOf_3 ?_
  refine lv_bipush (v := 127) hx hb dX8_loudOf_4 (by decide) ?_
  refine lv_iand hx hb dX8_loudOf_6 ?_
  cases hf
  exact rt_i hx hb hr hlocks hK hP hS dX8_loudOf_7

def f_X8_soundFrom (x0 : Int32) (x1 : Int32) (x2 : Int32) : Option (Int32) :=
  (some ((((x2 <<< (7 &&& 31)) ||| x1) <<< (6 &&& 31)) ||| (x0 + 1)))
theorem gs_X8_soundFrom {own : String} {idx : Nat} (h : Cond.methodLink own idx yX8_soundFrom ∈ lw_g) : GoodIn lw_g (va_wsS own idx yX8_soundFrom (Cond.code yX8_soundFrom cX8_soundFrom 3 (some .int) :: lw_g)) := gS h w_625 w_64 w_626
theorem hd_X8_soundFrom : yX8_soundFrom.cls ≠ "java/lang/invoke/MethodHandle" ∧ yX8_soundFrom.cls ≠ "java/lang/invoke/VarHandle" ∧ (parseMethodDescriptor yX8_soundFrom.desc).map (fun d => d.parameters.length) = some 3 := by decide +kernel
set_option maxHeartbeats 4000000 in
set_option maxRecDepth 100000 in
theorem c_X8_soundFrom (l : Launch) (D : va_G) (cI cJ cZ : ClassId) (en : EnT) (sz : Nat) (x0 : Int32) (x1 : Int32) (x2 : Int32) {z : Int32} (hf : f_X8_soundFrom x0 x1 x2 = some z) : Met l yX8_soundFrom (Cond.code yX8_soundFrom cX8_soundFrom 3 (some .int) :: lw_g) ({ frames := 0, cells := 0, slots := 0, locals := 0 } : Room) (PC D cI cJ cZ en ([.int x0, .int x1, .int x2] : List Value) [] sz) (QI D cI cJ cZ [] z (va_A [] sz)) 0 0 (va_A [] sz) := by
  refine mk_met (Qc := fun A => (QI D cI cJ cZ [] z A)) RX8 (by decide) rfl (Nat.le_of_ble_eq_true rfl) ?_
  intro p e s m below meth c ls A hx hb hr hml hown hts hlocks hA hK hE hl hD H locs hP hS
  have hl : lv_has ls 3 [(0, .int x0), (1, .int x1), (2, .int x2)] := hl
  unfold f_X8_soundFrom at hf
  refine lv_iload_n hx hb dX8_soundFrom_0 rfl (lv_at hl 2 rfl) ?_
  refine lv_bipush (v := 7) hx hb dX8_soundFrom_1 (by decide) ?_
  refine lv_ishl hx hb dX8_soundFrom_3 ?_
  refine lv_iload_n hx hb dX8_soundFrom_4 rfl (lv_at hl 1 rfl) ?_
  refine lv_ior hx hb dX8_soundFrom_5 ?_
  refine lv_bipush (v := 6) hx hb dX8_soundFrom_6 (by decide) ?_
  refine lv_ishl hx hb dX8_soundFrom_8 ?_
  refine lv_iload_n hx hb dX8_soundFrom_9 rfl (lv_at hl 0 rfl) ?_
  refine lv_iconst (v := 1) hx hb dX8_soundFrom_10 (by decide) ?_
  refine lv_iadd hx hb dX8_soundFrom_11 ?_
  refine lv_ior hx hb dX8_soundFrom_12 ?_
  cases hf
  exact rt_i hx hb hr hlocks hK hP hS dX8_soundFrom_13
