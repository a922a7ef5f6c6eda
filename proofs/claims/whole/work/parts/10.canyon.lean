def f_X2_has (v_t_columns : Int32) (v_t_rows : Int32) (x1 : Int32) : Option (Int32) :=
  (if x1 < 0 then (some 0) else (if (v_t_columns * v_t_rows) ≤ x1 then (some 0) else (if 36 ≤ x1 then (some 0) else (some 1))))
theorem gv_X2_has {own : String} {idx : Nat} (h : Cond.methodLink own idx yX2_has ∈ lw_g) : GoodIn lw_g (wsV own idx RX2 yX2_has (Cond.code yX2_has cX2_has 2 (some .boolean) :: lw_g)) := gV h w_465 w_466 w_60 w_467
theorem hd_X2_has : yX2_has.cls = RX2 ∧ yX2_has.cls ≠ "java/lang/invoke/MethodHandle" ∧ yX2_has.cls ≠ "java/lang/invoke/VarHandle" ∧ (parseMethodDescriptor yX2_has.desc).map (fun d => d.parameters.length) = some 1 := by decide +kernel
set_option maxHeartbeats 4000000 in
set_option maxRecDepth 100000 in
theorem c_X2_has (l : Launch) (D : va_G) (cI cJ cZ : ClassId) (en : EnT) (q_t q_t_ground q_t_windows q_t_lawParts : Nat) (sz : Nat) (v_t_columns : Int32) (v_t_rows : Int32) (v_t_fade : Int32) (v_t_laws : Int32) (v_t_nightHours : Int32) (v_t_nightTimes : Int32) (v_t_ground : Nat → Int32) (v_t_windows : Nat → Int32) (v_t_lawParts : Nat → Int32) (x1 : Int32) {z : Int32} (hf : f_X2_has v_t_columns v_t_rows x1 = some z) : Met l yX2_has (Cond.code yX2_has cX2_has 2 (some .boolean) :: lw_g) ({ frames := 0, cells := 0, slots := 0, locals := 0 } : Room) (PC D cI cJ cZ en ([.ref q_t, .int x1] : List Value) [(q_t, .inr (2, [.int v_t_columns, .int v_t_rows, .int v_t_fade, .int v_t_laws, .int v_t_nightHours, .int v_t_nightTimes, .ref q_t_ground, .ref q_t_windows, .ref q_t_lawParts])), (q_t_ground, .inl (cI, 36, .inl v_t_ground)), (q_t_windows, .inl (cI, 6, .inl v_t_windows)), (q_t_lawParts, .inl (cI, 18, .inl v_t_lawParts))] sz) (QI D cI cJ cZ [(q_t, .inr (2, [.int v_t_columns, .int v_t_rows, .int v_t_fade, .int v_t_laws, .int v_t_nightHours, .int v_t_nightTimes, .ref q_t_ground, .ref q_t_windows, .ref q_t_lawParts])), (q_t_ground, .inl (cI, 36, .inl v_t_ground)), (q_t_windows, .inl (cI, 6, .inl v_t_windows)), (q_t_lawParts, .inl (cI, 18, .inl v_t_lawParts))] z (va_A [(q_t, .inr (2, [.int v_t_columns, .int v_t_rows, .int v_t_fade, .int v_t_laws, .int v_t_nightHours, .int v_t_nightTimes, .ref q_t_ground, .ref q_t_windows, .ref q_t_lawParts])), (q_t_ground, .inl (cI, 36, .inl v_t_ground)), (q_t_windows, .inl (cI, 6, .inl v_t_windows)), (q_t_lawParts, .inl (cI, 18, .inl v_t_lawParts))] sz)) 0 0 (va_A [(q_t, .inr (2, [.int v_t_columns, .int v_t_rows, .int v_t_fade, .int v_t_laws, .int v_t_nightHours, .int v_t_nightTimes, .ref q_t_ground, .ref q_t_windows, .ref q_t_lawParts])), (q_t_ground, .inl (cI, 36, .inl v_t_ground)), (q_t_windows, .inl (cI, 6, .inl v_t_windows)), (q_t_lawParts, .inl (cI, 18, .inl v_t_lawParts))] sz) := by
  refine mk_met (Qc := fun A => (QI D cI cJ cZ [(q_t, .inr (2, [.int v_t_columns, .int v_t_rows, .int v_t_fade, .int v_t_laws, .int v_t_nightHours, .int v_t_nightTimes, .ref q_t_ground, .ref q_t_windows, .ref q_t_lawParts])), (q_t_ground, .inl (cI, 36, .inl v_t_ground)), (q_t_windows, .inl (cI, 6, .inl v_t_windows)), (q_t_lawParts, .inl (cI, 18, .inl v_t_lawParts))] z A)) RX2 (by decide) rfl (Nat.le_of_ble_eq_true rfl) ?_
  intro p e s m below meth c ls A hx hb hr hml hown hts hlocks hA hK hE hl hD H locs hP hS
  have hl : lv_has ls 2 [(0, .ref q_t), (1, .int x1)] := hl
  unfold f_X2_has at hf
  refine lv_iload_n hx hb dX2_has_0 rfl (lv_at hl 1 rfl) ?_
  refine lv_if_lt (tgt := 27) hx hb dX2_has_1 (by decide) (fun h_1 => ?_) (fun h_1 => ?_)
  · have hf := (if_pos h_1).symm.trans hf
    refine lv_iconst (v := 0) hx hb dX2_has_27 (by decide) ?_
    have hf := Option.some.inj hf
    subst hf
    exact rt_z hx hb hr hlocks hK hP hS (Or.inl rfl) dX2_has_28
  · have hf := (if_neg h_1).symm.trans hf
    refine lv_iload_n hx hb dX2_has_4 rfl (lv_at hl 1 rfl) ?_
    refine lv_aload_n hx hb dX2_has_5 rfl (lv_at hl 0 rfl) ?_
    refine va_get (D := D) (ci := 2) (v := .int v_t_columns) (C := RX2) (T := TX2) (N := 9) hx hb hts inX2 hown hK hP 0 rfl rfl 0 (by decide) (hts _ w_133) (fun _ h9 => h9) rfl dX2_has_6 ?_
    refine lv_aload_n hx hb dX2_has_9 rfl (lv_at hl 0 rfl) ?_
    refine va_get (D := D) (ci := 2) (v := .int v_t_rows) (C := RX2) (T := TX2) (N := 9) hx hb hts inX2 hown hK hP 0 rfl rfl 1 (by decide) (hts _ w_136) (fun _ h9 => h9) rfl dX2_has_10 ?_
    refine lv_imul hx hb dX2_has_13 ?_
    refine lv_icmp_ge (tgt := 27) hx hb dX2_has_14 (by decide) (fun h_2 => ?_) (fun h_2 => ?_)
    · have hf := (if_pos h_2).symm.trans hf
      refine lv_iconst (v := 0) hx hb dX2_has_27 (by decide) ?_
      have hf := Option.some.inj hf
      subst hf
      exact rt_z hx hb hr hlocks hK hP hS (Or.inl rfl) dX2_has_28
    · have hf := (if_neg h_2).symm.trans hf
      refine lv_iload_n hx hb dX2_has_17 rfl (lv_at hl 1 rfl) ?_
      refine lv_bipush (v := 36) hx hb dX2_has_18 (by decide) ?_
      refine lv_icmp_ge (tgt := 27) hx hb dX2_has_20 (by decide) (fun h_3 => ?_) (fun h_3 => ?_)
      · have hf := (if_pos h_3).symm.trans hf
        refine lv_iconst (v := 0) hx hb dX2_has_27 (by decide) ?_
        have hf := Option.some.inj hf
        subst hf
        exact rt_z hx hb hr hlocks hK hP hS (Or.inl rfl) dX2_has_28
      · have hf := (if_neg h_3).symm.trans hf
        refine lv_iconst (v := 1) hx hb dX2_has_23 (by decide) ?_
        refine lv_goto (tgt := 28) hx hb dX2_has_24 (by decide) ?_
        have hf := Option.some.inj hf
        subst hf
        exact rt_z hx hb hr hlocks hK hP hS (Or.inr rfl) dX2_has_28

def f_X2_isRock (v_t_columns : Int32) (v_t_rows : Int32) (v_t_ground : Nat → Int32) (x1 : Int32) : Option (Int32) :=
  (f_X2_has v_t_columns v_t_rows x1).bind (fun z2 => (if z2 = 0 then (some 0) else gd (ib x1 36) ((if (v_t_ground (Int32.toNatClampNeg x1)) = (-1) then (some 0) else (some 1)))))
theorem gv_X2_isRock {own : String} {idx : Nat} (h : Cond.methodLink own idx yX2_isRock ∈ lw_g) : GoodIn lw_g (wsV own idx RX2 yX2_isRock (Cond.code yX2_isRock cX2_isRock 2 (some .boolean) :: lw_g)) := gV h w_515 w_516 w_60 w_517
theorem hd_X2_isRock : yX2_isRock.cls = RX2 ∧ yX2_isRock.cls ≠ "java/lang/invoke/MethodHandle" ∧ yX2_isRock.cls ≠ "java/lang/invoke/VarHandle" ∧ (parseMethodDescriptor yX2_isRock.desc).map (fun d => d.parameters.length) = some 1 := by decide +kernel
set_option maxHeartbeats 4000000 in
set_option maxRecDepth 100000 in
theorem c_X2_isRock (l : Launch) (D : va_G) (cI cJ cZ : ClassId) (en : EnT) (q_t q_t_ground q_t_windows q_t_lawParts : Nat) (sz : Nat) (v_t_columns : Int32) (v_t_rows : Int32) (v_t_fade : Int32) (v_t_laws : Int32) (v_t_nightHours : Int32) (v_t_nightTimes : Int32) (v_t_ground : Nat → Int32) (v_t_windows : Nat → Int32) (v_t_lawParts : Nat → Int32) (x1 : Int32) {z : Int32} (hf : f_X2_isRock v_t_columns v_t_rows v_t_ground x1 = some z) : Met l yX2_isRock (Cond.code yX2_isRock cX2_isRock 2 (some .boolean) :: lw_g) ({ frames := 1, cells := 0, slots := 0, locals := 21 } : Room) (PC D cI cJ cZ en ([.ref q_t, .int x1] : List Value) [(q_t, .inr (2, [.int v_t_columns, .int v_t_rows, .int v_t_fade, .int v_t_laws, .int v_t_nightHours, .int v_t_nightTimes, .ref q_t_ground, .ref q_t_windows, .ref q_t_lawParts])), (q_t_ground, .inl (cI, 36, .inl v_t_ground)), (q_t_windows, .inl (cI, 6, .inl v_t_windows)), (q_t_lawParts, .inl (cI, 18, .inl v_t_lawParts))] sz) (QI D cI cJ cZ [(q_t, .inr (2, [.int v_t_columns, .int v_t_rows, .int v_t_fade, .int v_t_laws, .int v_t_nightHours, .int v_t_nightTimes, .ref q_t_ground, .ref q_t_windows, .ref q_t_lawParts])), (q_t_ground, .inl (cI, 36, .inl v_t_ground)), (q_t_windows, .inl (cI, 6, .inl v_t_windows)), (q_t_lawParts, .inl (cI, 18, .inl v_t_lawParts))] z (va_A [(q_t, .inr (2, [.int v_t_columns, .int v_t_rows, .int v_t_fade, .int v_t_laws, .int v_t_nightHours, .int v_t_nightTimes, .ref q_t_ground, .ref q_t_windows, .ref q_t_lawParts])), (q_t_ground, .inl (cI, 36, .inl v_t_ground)), (q_t_windows, .inl (cI, 6, .inl v_t_windows)), (q_t_lawParts, .inl (cI, 18, .inl v_t_lawParts))] sz)) 0 0 (va_A [(q_t, .inr (2, [.int v_t_columns, .int v_t_rows, .int v_t_fade, .int v_t_laws, .int v_t_nightHours, .int v_t_nightTimes, .ref q_t_ground, .ref q_t_windows, .ref q_t_lawParts])), (q_t_ground, .inl (cI, 36, .inl v_t_ground)), (q_t_windows, .inl (cI, 6, .inl v_t_windows)), (q_t_lawParts, .inl (cI, 18, .inl v_t_lawParts))] sz) := by
  refine mk_met (Qc := fun A => (QI D cI cJ cZ [(q_t, .inr (2, [.int v_t_columns, .int v_t_rows, .int v_t_fade, .int v_t_laws, .int v_t_nightHours, .int v_t_nightTimes, .ref q_t_ground, .ref q_t_windows, .ref q_t_lawParts])), (q_t_ground, .inl (cI, 36, .inl v_t_ground)), (q_t_windows, .inl (cI, 6, .inl v_t_windows)), (q_t_lawParts, .inl (cI, 18, .inl v_t_lawParts))] z A)) RX2 (by decide) rfl (Nat.le_of_ble_eq_true rfl) ?_
  intro p e s m below meth c ls A hx hb hr hml hown hts hlocks hA hK hE hl hD H locs hP hS
  have hl : lv_has ls 2 [(0, .ref q_t), (1, .int x1)] := hl
  unfold f_X2_isRock at hf
  refine lv_aload_n hx hb dX2_isRock_0 rfl (lv_at hl 0 rfl) ?_
  refine lv_iload_n hx hb dX2_isRock_1 rfl (lv_at hl 1 rfl) ?_
  obtain ⟨z2_1, hz2_1, hf⟩ := bd_some hf
  refine cVi (rest := []) ⟨hx, hb, hml, hown, hts⟩ hE hK hP hD hS hA (c_X2_has l D cI cJ cZ en q_t q_t_ground q_t_windows q_t_lawParts H.size v_t_columns v_t_rows v_t_fade v_t_laws v_t_nightHours v_t_nightTimes v_t_ground v_t_windows v_t_lawParts x1 hz2_1) (gv_X2_has w_464) hd_X2_has ⟨rfl, rfl⟩ ⟨by decide, by decide⟩ [0, 1, 2, 3] (And.intro rfl (And.intro rfl (And.intro rfl (And.intro rfl trivial)))) rfl (And.intro rfl (And.intro rfl (And.intro rfl (And.intro rfl trivial)))) 2 rfl rfl 0 rfl  hl rfl (Nat.le_of_ble_eq_true rfl) ⟨Nat.zero_le _, Nat.zero_le _⟩ dX2_isRock_2 (fun H locs hP hD hS => ?_)
  have hP : va_P D vwCl [(q_t, .inr (2, [.int v_t_columns, .int v_t_rows, .int v_t_fade, .int v_t_laws, .int v_t_nightHours, .int v_t_nightTimes, .ref q_t_ground, .ref q_t_windows, .ref q_t_lawParts])), (q_t_ground, .inl (cI, 36, .inl v_t_ground)), (q_t_windows, .inl (cI, 6, .inl v_t_windows)), (q_t_lawParts, .inl (cI, 18, .inl v_t_lawParts))] H := hP
  have hD : va_D A [(q_t, .inr (2, [.int v_t_columns, .int v_t_rows, .int v_t_fade, .int v_t_laws, .int v_t_nightHours, .int v_t_nightTimes, .ref q_t_ground, .ref q_t_windows, .ref q_t_lawParts])), (q_t_ground, .inl (cI, 36, .inl v_t_ground)), (q_t_windows, .inl (cI, 6, .inl v_t_windows)), (q_t_lawParts, .inl (cI, 18, .inl v_t_lawParts))] := hD
  refine lv_if_eq (tgt := 22) hx hb dX2_isRock_5 (by decide) (fun h_2 => ?_) (fun h_2 => ?_)
  · have hf := (if_pos h_2).symm.trans hf
    refine lv_iconst (v := 0) hx hb dX2_isRock_22 (by decide) ?_
    have hf := Option.some.inj hf
    subst hf
    exact rt_z hx hb hr hlocks hK hP hS (Or.inl rfl) dX2_isRock_23
  · have hf := (if_neg h_2).symm.trans hf
    refine lv_aload_n hx hb dX2_isRock_8 rfl (lv_at hl 0 rfl) ?_
    refine va_get (D := D) (ci := 2) (v := .ref q_t_ground) (C := RX2) (T := TX2) (N := 9) hx hb hts inX2 hown hK hP 0 rfl rfl 6 (by decide) (hts _ w_150) (fun _ h9 => h9) rfl dX2_isRock_9 ?_
    refine lv_iload_n hx hb dX2_isRock_12 rfl (lv_at hl 1 rfl) ?_
    obtain ⟨hin, hf⟩ := gd_some hf
    refine va_iald hx hb hK hP 1 0 rfl rfl hin dX2_isRock_13 ?_
    refine lv_iconst (v := (-1)) hx hb dX2_isRock_14 (by decide) ?_
    refine lv_icmp_eq (tgt := 22) hx hb dX2_isRock_15 (by decide) (fun h_3 => ?_) (fun h_3 => ?_)
    · have hf := (if_pos h_3).symm.trans hf
      refine lv_iconst (v := 0) hx hb dX2_isRock_22 (by decide) ?_
      have hf := Option.some.inj hf
      subst hf
      exact rt_z hx hb hr hlocks hK hP hS (Or.inl rfl) dX2_isRock_23
    · have hf := (if_neg h_3).symm.trans hf
      refine lv_iconst (v := 1) hx hb dX2_isRock_18 (by decide) ?_
      refine lv_goto (tgt := 23) hx hb dX2_isRock_19 (by decide) ?_
      have hf := Option.some.inj hf
      subst hf
      exact rt_z hx hb hr hlocks hK hP hS (Or.inr rfl) dX2_isRock_23

def f_X2_isFloor (v_t_columns : Int32) (v_t_rows : Int32) (v_t_ground : Nat → Int32) (x1 : Int32) : Option (Int32) :=
  (f_X2_has v_t_columns v_t_rows x1).bind (fun z2 => (if z2 = 0 then (some 0) else gd (ib x1 36) ((if (v_t_ground (Int32.toNatClampNeg x1)) = (-1) then (some 1) else (some 0)))))
theorem gv_X2_isFloor {own : String} {idx : Nat} (h : Cond.methodLink own idx yX2_isFloor ∈ lw_g) : GoodIn lw_g (wsV own idx RX2 yX2_isFloor (Cond.code yX2_isFloor cX2_isFloor 2 (some .boolean) :: lw_g)) := gV h w_461 w_462 w_60 w_463
theorem hd_X2_isFloor : yX2_isFloor.cls = RX2 ∧ yX2_isFloor.cls ≠ "java/lang/invoke/MethodHandle" ∧ yX2_isFloor.cls ≠ "java/lang/invoke/VarHandle" ∧ (parseMethodDescriptor yX2_isFloor.desc).map (fun d => d.parameters.length) = some 1 := by decide +kernel
set_option maxHeartbeats 4000000 in
set_option maxRecDepth 100000 in
theorem c_X2_isFloor (l : Launch) (D : va_G) (cI cJ cZ : ClassId) (en : EnT) (q_t q_t_ground q_t_windows q_t_lawParts : Nat) (sz : Nat) (v_t_columns : Int32) (v_t_rows : Int32) (v_t_fade : Int32) (v_t_laws : Int32) (v_t_nightHours : Int32) (v_t_nightTimes : Int32) (v_t_ground : Nat → Int32) (v_t_windows : Nat → Int32) (v_t_lawParts : Nat → Int32) (x1 : Int32) {z : Int32} (hf : f_X2_isFloor v_t_columns v_t_rows v_t_ground x1 = some z) : Met l yX2_isFloor (Cond.code yX2_isFloor cX2_isFloor 2 (some .boolean) :: lw_g) ({ frames := 1, cells := 0, slots := 0, locals := 21 } : Room) (PC D cI cJ cZ en ([.ref q_t, .int x1] : List Value) [(q_t, .inr (2, [.int v_t_columns, .int v_t_rows, .int v_t_fade, .int v_t_laws, .int v_t_nightHours, .int v_t_nightTimes, .ref q_t_ground, .ref q_t_windows, .ref q_t_lawParts])), (q_t_ground, .inl (cI, 36, .inl v_t_ground)), (q_t_windows, .inl (cI, 6, .inl v_t_windows)), (q_t_lawParts, .inl (cI, 18, .inl v_t_lawParts))] sz) (QI D cI cJ cZ [(q_t, .inr (2, [.int v_t_columns, .int v_t_rows, .int v_t_fade, .int v_t_laws, .int v_t_nightHours, .int v_t_nightTimes, .ref q_t_ground, .ref q_t_windows, .ref q_t_lawParts])), (q_t_ground, .inl (cI, 36, .inl v_t_ground)), (q_t_windows, .inl (cI, 6, .inl v_t_windows)), (q_t_lawParts, .inl (cI, 18, .inl v_t_lawParts))] z (va_A [(q_t, .inr (2, [.int v_t_columns, .int v_t_rows, .int v_t_fade, .int v_t_laws, .int v_t_nightHours, .int v_t_nightTimes, .ref q_t_ground, .ref q_t_windows, .ref q_t_lawParts])), (q_t_ground, .inl (cI, 36, .inl v_t_ground)), (q_t_windows, .inl (cI, 6, .inl v_t_windows)), (q_t_lawParts, .inl (cI, 18, .inl v_t_lawParts))] sz)) 0 0 (va_A [(q_t, .inr (2, [.int v_t_columns, .int v_t_rows, .int v_t_fade, .int v_t_laws, .int v_t_nightHours, .int v_t_nightTimes, .ref q_t_ground, .ref q_t_windows, .ref q_t_lawParts])), (q_t_ground, .inl (cI, 36, .inl v_t_ground)), (q_t_windows, .inl (cI, 6, .inl v_t_windows)), (q_t_lawParts, .inl (cI, 18, .inl v_t_lawParts))] sz) := by
  refine mk_met (Qc := fun A => (QI D cI cJ cZ [(q_t, .inr (2, [.int v_t_columns, .int v_t_rows, .int v_t_fade, .int v_t_laws, .int v_t_nightHours, .int v_t_nightTimes, .ref q_t_ground, .ref q_t_windows, .ref q_t_lawParts])), (q_t_ground, .inl (cI, 36, .inl v_t_ground)), (q_t_windows, .inl (cI, 6, .inl v_t_windows)), (q_t_lawParts, .inl (cI, 18, .inl v_t_lawParts))] z A)) RX2 (by decide) rfl (Nat.le_of_ble_eq_true rfl) ?_
  intro p e s m below meth c ls A hx hb hr hml hown hts hlocks hA hK hE hl hD H locs hP hS
  have hl : lv_has ls 2 [(0, .ref q_t), (1, .int x1)] := hl
  unfold f_X2_isFloor at hf
  refine lv_aload_n hx hb dX2_isFloor_0 rfl (lv_at hl 0 rfl) ?_
  refine lv_iload_n hx hb dX2_isFloor_1 rfl (lv_at hl 1 rfl) ?_
  obtain ⟨z2_1, hz2_1, hf⟩ := bd_some hf
  refine cVi (rest := []) ⟨hx, hb, hml, hown, hts⟩ hE hK hP hD hS hA (c_X2_has l D cI cJ cZ en q_t q_t_ground q_t_windows q_t_lawParts H.size v_t_columns v_t_rows v_t_fade v_t_laws v_t_nightHours v_t_nightTimes v_t_ground v_t_windows v_t_lawParts x1 hz2_1) (gv_X2_has w_464) hd_X2_has ⟨rfl, rfl⟩ ⟨by decide, by decide⟩ [0, 1, 2, 3] (And.intro rfl (And.intro rfl (And.intro rfl (And.intro rfl trivial)))) rfl (And.intro rfl (And.intro rfl (And.intro rfl (And.intro rfl trivial)))) 2 rfl rfl 0 rfl  hl rfl (Nat.le_of_ble_eq_true rfl) ⟨Nat.zero_le _, Nat.zero_le _⟩ dX2_isFloor_2 (fun H locs hP hD hS => ?_)
  have hP : va_P D vwCl [(q_t, .inr (2, [.int v_t_columns, .int v_t_rows, .int v_t_fade, .int v_t_laws, .int v_t_nightHours, .int v_t_nightTimes, .ref q_t_ground, .ref q_t_windows, .ref q_t_lawParts])), (q_t_ground, .inl (cI, 36, .inl v_t_ground)), (q_t_windows, .inl (cI, 6, .inl v_t_windows)), (q_t_lawParts, .inl (cI, 18, .inl v_t_lawParts))] H := hP
  have hD : va_D A [(q_t, .inr (2, [.int v_t_columns, .int v_t_rows, .int v_t_fade, .int v_t_laws, .int v_t_nightHours, .int v_t_nightTimes, .ref q_t_ground, .ref q_t_windows, .ref q_t_lawParts])), (q_t_ground, .inl (cI, 36, .inl v_t_ground)), (q_t_windows, .inl (cI, 6, .inl v_t_windows)), (q_t_lawParts, .inl (cI, 18, .inl v_t_lawParts))] := hD
  refine lv_if_eq (tgt := 22) hx hb dX2_isFloor_5 (by decide) (fun h_2 => ?_) (fun h_2 => ?_)
  · have hf := (if_pos h_2).symm.trans hf
    refine lv_iconst (v := 0) hx hb dX2_isFloor_22 (by decide) ?_
    have hf := Option.some.inj hf
    subst hf
    exact rt_z hx hb hr hlocks hK hP hS (Or.inl rfl) dX2_isFloor_23
  · have hf := (if_neg h_2).symm.trans hf
    refine lv_aload_n hx hb dX2_isFloor_8 rfl (lv_at hl 0 rfl) ?_
    refine va_get (D := D) (ci := 2) (v := .ref q_t_ground) (C := RX2) (T := TX2) (N := 9) hx hb hts inX2 hown hK hP 0 rfl rfl 6 (by decide) (hts _ w_150) (fun _ h9 => h9) rfl dX2_isFloor_9 ?_
    refine lv_iload_n hx hb dX2_isFloor_12 rfl (lv_at hl 1 rfl) ?_
    obtain ⟨hin, hf⟩ := gd_some hf
    refine va_iald hx hb hK hP 1 0 rfl rfl hin dX2_isFloor_13 ?_
    refine lv_iconst (v := (-1)) hx hb dX2_isFloor_14 (by decide) ?_
    refine lv_icmp_ne (tgt := 22) hx hb dX2_isFloor_15 (by decide) (fun h_3 => ?_) (fun h_3 => ?_)
    · have hf := (if_neg h_3).symm.trans hf
      refine lv_iconst (v := 0) hx hb dX2_isFloor_22 (by decide) ?_
      have hf := Option.some.inj hf
      subst hf
      exact rt_z hx hb hr hlocks hK hP hS (Or.inl rfl) dX2_isFloor_23
    · have hf := (if_pos h_3).symm.trans hf
      refine lv_iconst (v := 1) hx hb dX2_isFloor_18 (by decide) ?_
      refine lv_goto (tgt := 23) hx hb dX2_isFloor_19 (by decide) ?_
      have hf := Option.some.inj hf
      subst hf
      exact rt_z hx hb hr hlocks hK hP hS (Or.inr rfl) dX2_isFloor_23

def f_X2_personsAt_J36 (rc14 : (Int32) → (Int32) → Option (Int32)) (x2 : Int32) (x3 : Int32) : Option (Int32) :=
  (rc14 x2 (x3 + 1))
def f_X2_personsAt_L14 (v_t_windows : Nat → Int32) (x1 : Int32) : Nat → (Int32) → (Int32) → Option (Int32)
  | 0, _, _ => none
  | n + 1, x2, x3 => (if 6 ≤ x3 then (some x2) else gd (ib x3 6) ((if (v_t_windows (Int32.toNatClampNeg x3)) = x1 then (f_X2_personsAt_J36 (f_X2_personsAt_L14 v_t_windows x1 n) (x2 ||| (1 <<< (x3 &&& 31))) x3) else (f_X2_personsAt_J36 (f_X2_personsAt_L14 v_t_windows x1 n) x2 x3))))
def f_X2_personsAt (v_t_columns : Int32) (v_t_rows : Int32) (v_t_windows : Nat → Int32) (x1 : Int32) : Option (Int32) :=
  (f_X2_has v_t_columns v_t_rows x1).bind (fun z2 => (if z2 = 0 then (some 0) else (f_X2_personsAt_L14 v_t_windows x1 FU 0 0)))
theorem gv_X2_personsAt {own : String} {idx : Nat} (h : Cond.methodLink own idx yX2_personsAt ∈ lw_g) : GoodIn lw_g (wsV own idx RX2 yX2_personsAt (Cond.code yX2_personsAt cX2_personsAt 4 (some .int) :: lw_g)) := gV h w_526 w_527 w_60 w_528
theorem hd_X2_personsAt : yX2_personsAt.cls = RX2 ∧ yX2_personsAt.cls ≠ "java/lang/invoke/MethodHandle" ∧ yX2_personsAt.cls ≠ "java/lang/invoke/VarHandle" ∧ (parseMethodDescriptor yX2_personsAt.desc).map (fun d => d.parameters.length) = some 1 := by decide +kernel
set_option maxHeartbeats 4000000 in
set_option maxRecDepth 100000 in
theorem c_X2_personsAt (l : Launch) (D : va_G) (cI cJ cZ : ClassId) (en : EnT) (q_t q_t_ground q_t_windows q_t_lawParts : Nat) (sz : Nat) (v_t_columns : Int32) (v_t_rows : Int32) (v_t_fade : Int32) (v_t_laws : Int32) (v_t_nightHours : Int32) (v_t_nightTimes : Int32) (v_t_ground : Nat → Int32) (v_t_windows : Nat → Int32) (v_t_lawParts : Nat → Int32) (x1 : Int32) {z : Int32} (hf : f_X2_personsAt v_t_columns v_t_rows v_t_windows x1 = some z) : Met l yX2_personsAt (Cond.code yX2_personsAt cX2_personsAt 4 (some .int) :: lw_g) ({ frames := 1, cells := 0, slots := 0, locals := 21 } : Room) (PC D cI cJ cZ en ([.ref q_t, .int x1] : List Value) [(q_t, .inr (2, [.int v_t_columns, .int v_t_rows, .int v_t_fade, .int v_t_laws, .int v_t_nightHours, .int v_t_nightTimes, .ref q_t_ground, .ref q_t_windows, .ref q_t_lawParts])), (q_t_ground, .inl (cI, 36, .inl v_t_ground)), (q_t_windows, .inl (cI, 6, .inl v_t_windows)), (q_t_lawParts, .inl (cI, 18, .inl v_t_lawParts))] sz) (QI D cI cJ cZ [(q_t, .inr (2, [.int v_t_columns, .int v_t_rows, .int v_t_fade, .int v_t_laws, .int v_t_nightHours, .int v_t_nightTimes, .ref q_t_ground, .ref q_t_windows, .ref q_t_lawParts])), (q_t_ground, .inl (cI, 36, .inl v_t_ground)), (q_t_windows, .inl (cI, 6, .inl v_t_windows)), (q_t_lawParts, .inl (cI, 18, .inl v_t_lawParts))] z (va_A [(q_t, .inr (2, [.int v_t_columns, .int v_t_rows, .int v_t_fade, .int v_t_laws, .int v_t_nightHours, .int v_t_nightTimes, .ref q_t_ground, .ref q_t_windows, .ref q_t_lawParts])), (q_t_ground, .inl (cI, 36, .inl v_t_ground)), (q_t_windows, .inl (cI, 6, .inl v_t_windows)), (q_t_lawParts, .inl (cI, 18, .inl v_t_lawParts))] sz)) 0 0 (va_A [(q_t, .inr (2, [.int v_t_columns, .int v_t_rows, .int v_t_fade, .int v_t_laws, .int v_t_nightHours, .int v_t_nightTimes, .ref q_t_ground, .ref q_t_windows, .ref q_t_lawParts])), (q_t_ground, .inl (cI, 36, .inl v_t_ground)), (q_t_windows, .inl (cI, 6, .inl v_t_windows)), (q_t_lawParts, .inl (cI, 18, .inl v_t_lawParts))] sz) := by
  refine mk_met (Qc := fun A => (QI D cI cJ cZ [(q_t, .inr (2, [.int v_t_columns, .int v_t_rows, .int v_t_fade, .int v_t_laws, .int v_t_nightHours, .int v_t_nightTimes, .ref q_t_ground, .ref q_t_windows, .ref q_t_lawParts])), (q_t_ground, .inl (cI, 36, .inl v_t_ground)), (q_t_windows, .inl (cI, 6, .inl v_t_windows)), (q_t_lawParts, .inl (cI, 18, .inl v_t_lawParts))] z A)) RX2 (by decide) rfl (Nat.le_of_ble_eq_true rfl) ?_
  intro p e s m below meth c ls A hx hb hr hml hown hts hlocks hA hK hE hl hD H locs hP hS
  have hl : lv_has ls 4 [(0, .ref q_t), (1, .int x1)] := hl
  unfold f_X2_personsAt at hf
  refine lv_aload_n hx hb dX2_personsAt_0 rfl (lv_at hl 0 rfl) ?_
  refine lv_iload_n hx hb dX2_personsAt_1 rfl (lv_at hl 1 rfl) ?_
  obtain ⟨z2_1, hz2_1, hf⟩ := bd_some hf
  refine cVi (rest := []) ⟨hx, hb, hml, hown, hts⟩ hE hK hP hD hS hA (c_X2_has l D cI cJ cZ en q_t q_t_ground q_t_windows q_t_lawParts H.size v_t_columns v_t_rows v_t_fade v_t_laws v_t_nightHours v_t_nightTimes v_t_ground v_t_windows v_t_lawParts x1 hz2_1) (gv_X2_has w_464) hd_X2_has ⟨rfl, rfl⟩ ⟨by decide, by decide⟩ [0, 1, 2, 3] (And.intro rfl (And.intro rfl (And.intro rfl (And.intro rfl trivial)))) rfl (And.intro rfl (And.intro rfl (And.intro rfl (And.intro rfl trivial)))) 2 rfl rfl 0 rfl  hl rfl (Nat.le_of_ble_eq_true rfl) ⟨Nat.zero_le _, Nat.zero_le _⟩ dX2_personsAt_2 (fun H locs hP hD hS => ?_)
  have hP : va_P D vwCl [(q_t, .inr (2, [.int v_t_columns, .int v_t_rows, .int v_t_fade, .int v_t_laws, .int v_t_nightHours, .int v_t_nightTimes, .ref q_t_ground, .ref q_t_windows, .ref q_t_lawParts])), (q_t_ground, .inl (cI, 36, .inl v_t_ground)), (q_t_windows, .inl (cI, 6, .inl v_t_windows)), (q_t_lawParts, .inl (cI, 18, .inl v_t_lawParts))] H := hP
  have hD : va_D A [(q_t, .inr (2, [.int v_t_columns, .int v_t_rows, .int v_t_fade, .int v_t_laws, .int v_t_nightHours, .int v_t_nightTimes, .ref q_t_ground, .ref q_t_windows, .ref q_t_lawParts])), (q_t_ground, .inl (cI, 36, .inl v_t_ground)), (q_t_windows, .inl (cI, 6, .inl v_t_windows)), (q_t_lawParts, .inl (cI, 18, .inl v_t_lawParts))] := hD
  refine lv_if_ne (tgt := 10) hx hb dX2_personsAt_5 (by decide) (fun h_2 => ?_) (fun h_2 => ?_)
  · have hf := (if_neg h_2).symm.trans hf
    refine lv_iconst (v := 0) hx hb dX2_personsAt_10 (by decide) ?_
    refine lv_istore_n (lv' := [(2, .int 0), (0, .ref q_t), (1, .int x1)]) hx hb dX2_personsAt_11 rfl hl (by decide) rfl (fun ls hl => ?_)
    refine lv_iconst (v := 0) hx hb dX2_personsAt_12 (by decide) ?_
    refine lv_istore_n (lv' := [(3, .int 0), (2, .int 0), (0, .ref q_t), (1, .int x1)]) hx hb dX2_personsAt_13 rfl hl (by decide) rfl (fun ls hl => ?_)
    have L14_5 : ∀ (n_7 : Nat) (x2_3 : Int32) (x3_4 : Int32), f_X2_personsAt_L14 v_t_windows x1 n_7 x2_3 x3_4 = some z → ∀ (H : Heap) (locs : List Loc) (ls : Array Slot), va_P D vwCl [(q_t, .inr (2, [.int v_t_columns, .int v_t_rows, .int v_t_fade, .int v_t_laws, .int v_t_nightHours, .int v_t_nightTimes, .ref q_t_ground, .ref q_t_windows, .ref q_t_lawParts])), (q_t_ground, .inl (cI, 36, .inl v_t_ground)), (q_t_windows, .inl (cI, 6, .inl v_t_windows)), (q_t_lawParts, .inl (cI, 18, .inl v_t_lawParts))] H → va_D A [(q_t, .inr (2, [.int v_t_columns, .int v_t_rows, .int v_t_fade, .int v_t_laws, .int v_t_nightHours, .int v_t_nightTimes, .ref q_t_ground, .ref q_t_windows, .ref q_t_lawParts])), (q_t_ground, .inl (cI, 36, .inl v_t_ground)), (q_t_windows, .inl (cI, 6, .inl v_t_windows)), (q_t_lawParts, .inl (cI, 18, .inl v_t_lawParts))] → va_S A s.heap H locs → lv_has ls 4 [(0, .ref q_t), (1, .int x1), (2, .int x2_3), (3, .int x3_4)] → W p l e ({ frames := 1, cells := 0, slots := 0, locals := 21 } : Room) s m ([.ref q_t, .int x1] : List Value).toArray below meth c H locs 0 0 (MQ below (QI D cI cJ cZ [(q_t, .inr (2, [.int v_t_columns, .int v_t_rows, .int v_t_fade, .int v_t_laws, .int v_t_nightHours, .int v_t_nightTimes, .ref q_t_ground, .ref q_t_windows, .ref q_t_lawParts])), (q_t_ground, .inl (cI, 36, .inl v_t_ground)), (q_t_windows, .inl (cI, 6, .inl v_t_windows)), (q_t_lawParts, .inl (cI, 18, .inl v_t_lawParts))] z A) ([.ref q_t, .int x1] : List Value).toArray s 0 0 A) (F0 m 14 ls []) := by
      intro n_7
      induction n_7 with
      | zero =>
        intro x2_3 x3_4 hf
        cases hf
      | succ n_7 ih_6 =>
        intro x2_3 x3_4 hf H locs ls hP hD hS hl
        rw [f_X2_personsAt_L14] at hf
        refine lv_iload_n hx hb dX2_personsAt_14 rfl (lv_at hl 3 rfl) ?_
        refine lv_bipush (v := 6) hx hb dX2_personsAt_15 (by decide) ?_
        refine lv_icmp_ge (tgt := 42) hx hb dX2_personsAt_17 (by decide) (fun h_8 => ?_) (fun h_8 => ?_)
        · have hf := (if_pos h_8).symm.trans hf
          refine lv_iload_n hx hb dX2_personsAt_42 rfl (lv_at hl 2 rfl) ?_
          have hf := Option.some.inj hf
          subst hf
          exact rt_i hx hb hr hlocks hK hP hS dX2_personsAt_43
        · have hf := (if_neg h_8).symm.trans hf
          refine lv_aload_n hx hb dX2_personsAt_20 rfl (lv_at hl 0 rfl) ?_
          refine va_get (D := D) (ci := 2) (v := .ref q_t_windows) (C := RX2) (T := TX2) (N := 9) hx hb hts inX2 hown hK hP 0 rfl rfl 7 (by decide) (hts _ w_151) (fun _ h9 => h9) rfl dX2_personsAt_21 ?_
          refine lv_iload_n hx hb dX2_personsAt_24 rfl (lv_at hl 3 rfl) ?_
          obtain ⟨hin, hf⟩ := gd_some hf
          refine va_iald hx hb hK hP 2 0 rfl rfl hin dX2_personsAt_25 ?_
          refine lv_iload_n hx hb dX2_personsAt_26 rfl (lv_at hl 1 rfl) ?_
          have J36_10 : ∀ (x2_9 : Int32), f_X2_personsAt_J36 (f_X2_personsAt_L14 v_t_windows x1 n_7) x2_9 x3_4 = some z → ∀ (H : Heap) (locs : List Loc) (ls : Array Slot), va_P D vwCl [(q_t, .inr (2, [.int v_t_columns, .int v_t_rows, .int v_t_fade, .int v_t_laws, .int v_t_nightHours, .int v_t_nightTimes, .ref q_t_ground, .ref q_t_windows, .ref q_t_lawParts])), (q_t_ground, .inl (cI, 36, .inl v_t_ground)), (q_t_windows, .inl (cI, 6, .inl v_t_windows)), (q_t_lawParts, .inl (cI, 18, .inl v_t_lawParts))] H → va_D A [(q_t, .inr (2, [.int v_t_columns, .int v_t_rows, .int v_t_fade, .int v_t_laws, .int v_t_nightHours, .int v_t_nightTimes, .ref q_t_ground, .ref q_t_windows, .ref q_t_lawParts])), (q_t_ground, .inl (cI, 36, .inl v_t_ground)), (q_t_windows, .inl (cI, 6, .inl v_t_windows)), (q_t_lawParts, .inl (cI, 18, .inl v_t_lawParts))] → va_S A s.heap H locs → lv_has ls 4 [(0, .ref q_t), (1, .int x1), (2, .int x2_9), (3, .int x3_4)] → W p l e ({ frames := 1, cells := 0, slots := 0, locals := 21 } : Room) s m ([.ref q_t, .int x1] : List Value).toArray below meth c H locs 0 0 (MQ below (QI D cI cJ cZ [(q_t, .inr (2, [.int v_t_columns, .int v_t_rows, .int v_t_fade, .int v_t_laws, .int v_t_nightHours, .int v_t_nightTimes, .ref q_t_ground, .ref q_t_windows, .ref q_t_lawParts])), (q_t_ground, .inl (cI, 36, .inl v_t_ground)), (q_t_windows, .inl (cI, 6, .inl v_t_windows)), (q_t_lawParts, .inl (cI, 18, .inl v_t_lawParts))] z A) ([.ref q_t, .int x1] : List Value).toArray s 0 0 A) (F0 m 36 ls []) := by
            intro x2_9 hf H locs ls hP hD hS hl
            unfold f_X2_personsAt_J36 at hf
            refine lv_iinc (v := (x3_4 + 1)) (lv' := [(3, .int (x3_4 + 1)), (0, .ref q_t), (1, .int x1), (2, .int x2_9)]) hx hb dX2_personsAt_36 hl (k := 3) rfl rfl (by decide) rfl (fun ls hl => ?_)
            refine lv_goto (tgt := 14) hx hb dX2_personsAt_39 (by decide) ?_
            exact ih_6 x2_9 (x3_4 + 1) hf _ _ _ hP hD hS (lv_sub hl [1, 2, 3, 0] rfl)
          refine lv_icmp_ne (tgt := 36) hx hb dX2_personsAt_27 (by decide) (fun h_11 => ?_) (fun h_11 => ?_)
          · have hf := (if_neg h_11).symm.trans hf
            exact J36_10 x2_3 hf _ _ _ hP hD hS (lv_sub hl [0, 1, 2, 3] rfl)
          · have hf := (if_pos h_11).symm.trans hf
            refine lv_iload_n hx hb dX2_personsAt_30 rfl (lv_at hl 2 rfl) ?_
            refine lv_iconst (v := 1) hx hb dX2_personsAt_31 (by decide) ?_
            refine lv_iload_n hx hb dX2_personsAt_32 rfl (lv_at hl 3 rfl) ?_
            refine lv_ishl hx hb dX2_personsAt_33 ?_
            refine lv_ior hx hb dX2_personsAt_34 ?_
            refine lv_istore_n (lv' := [(2, .int (x2_3 ||| (1 <<< (x3_4 &&& 31)))), (0, .ref q_t), (1, .int x1), (3, .int x3_4)]) hx hb dX2_personsAt_35 rfl hl (by decide) rfl (fun ls hl => ?_)
            exact J36_10 (x2_3 ||| (1 <<< (x3_4 &&& 31))) hf _ _ _ hP hD hS (lv_sub hl [1, 2, 0, 3] rfl)
    exact L14_5 FU 0 0 hf _ _ _ hP hD hS (lv_sub hl [2, 3, 1, 0] rfl)
  · have hf := (if_pos h_2).symm.trans hf
    refine lv_iconst (v := 0) hx hb dX2_personsAt_8 (by decide) ?_
    have hf := Option.some.inj hf
    subst hf
    exact rt_i hx hb hr hlocks hK hP hS dX2_personsAt_9

def f_X9_isPerson (x0 : Int32) : Option (Int32) :=
  (if x0 < 0 then (some 0) else (if 6 ≤ x0 then (some 0) else (some 1)))
theorem gs_X9_isPerson {own : String} {idx : Nat} (h : Cond.methodLink own idx yX9_isPerson ∈ lw_g) : GoodIn lw_g (va_wsS own idx yX9_isPerson (Cond.code yX9_isPerson cX9_isPerson 1 (some .boolean) :: lw_g)) := gS h w_489 w_57 w_490
theorem hd_X9_isPerson : yX9_isPerson.cls ≠ "java/lang/invoke/MethodHandle" ∧ yX9_isPerson.cls ≠ "java/lang/invoke/VarHandle" ∧ (parseMethodDescriptor yX9_isPerson.desc).map (fun d => d.parameters.length) = some 1 := by decide +kernel
set_option maxHeartbeats 4000000 in
set_option maxRecDepth 100000 in
theorem c_X9_isPerson (l : Launch) (D : va_G) (cI cJ cZ : ClassId) (en : EnT) (sz : Nat) (x0 : Int32) {z : Int32} (hf : f_X9_isPerson x0 = some z) : Met l yX9_isPerson (Cond.code yX9_isPerson cX9_isPerson 1 (some .boolean) :: lw_g) ({ frames := 0, cells := 0, slots := 0, locals := 0 } : Room) (PC D cI cJ cZ en ([.int x0] : List Value) [] sz) (QI D cI cJ cZ [] z (va_A [] sz)) 0 0 (va_A [] sz) := by
  refine mk_met (Qc := fun A => (QI D cI cJ cZ [] z A)) RX9 (by decide) rfl (Nat.le_of_ble_eq_true rfl) ?_
  intro p e s m below meth c ls A hx hb hr hml hown hts hlocks hA hK hE hl hD H locs hP hS
  have hl : lv_has ls 1 [(0, .int x0)] := hl
  unfold f_X9_isPerson at hf
  refine lv_iload_n hx hb dX9_isPerson_0 rfl (lv_at hl 0 rfl) ?_
  refine lv_if_lt (tgt := 14) hx hb dX9_isPerson_1 (by decide) (fun h_1 => ?_) (fun h_1 => ?_)
  · have hf := (if_pos h_1).symm.trans hf
    refine lv_iconst (v := 0) hx hb dX9_isPerson_14 (by decide) ?_
    have hf := Option.some.inj hf
    subst hf
    exact rt_z hx hb hr hlocks hK hP hS (Or.inl rfl) dX9_isPerson_15
  · have hf := (if_neg h_1).symm.trans hf
    refine lv_iload_n hx hb dX9_isPerson_4 rfl (lv_at hl 0 rfl) ?_
    refine lv_bipush (v := 6) hx hb dX9_isPerson_5 (by decide) ?_
    refine lv_icmp_ge (tgt := 14) hx hb dX9_isPerson_7 (by decide) (fun h_2 => ?_) (fun h_2 => ?_)
    · have hf := (if_pos h_2).symm.trans hf
      refine lv_iconst (v := 0) hx hb dX9_isPerson_14 (by decide) ?_
      have hf := Option.some.inj hf
      subst hf
      exact rt_z hx hb hr hlocks hK hP hS (Or.inl rfl) dX9_isPerson_15
    · have hf := (if_neg h_2).symm.trans hf
      refine lv_iconst (v := 1) hx hb dX9_isPerson_10 (by decide) ?_
      refine lv_goto (tgt := 15) hx hb dX9_isPerson_11 (by decide) ?_
      have hf := Option.some.inj hf
      subst hf
      exact rt_z hx hb hr hlocks hK hP hS (Or.inr rfl) dX9_isPerson_15

def f_X2_softOf (v_t_columns : Int32) (v_t_rows : Int32) (v_t_ground : Nat → Int32) (x1 : Int32) : Option (Int32) :=
  (f_X2_has v_t_columns v_t_rows x1).bind (fun z2 => (if z2 = 0 then (some 0) else gd (ib x1 36) ((some (if 0 < (v_t_ground (Int32.toNatClampNeg x1)) then (v_t_ground (Int32.toNatClampNeg x1)) else 0)))))
theorem gv_X2_softOf {own : String} {idx : Nat} (h : Cond.methodLink own idx yX2_softOf ∈ lw_g) : GoodIn lw_g (wsV own idx RX2 yX2_softOf (Cond.code yX2_softOf cX2_softOf 2 (some .int) :: lw_g)) := gV h w_519 w_520 w_60 w_521
theorem hd_X2_softOf : yX2_softOf.cls = RX2 ∧ yX2_softOf.cls ≠ "java/lang/invoke/MethodHandle" ∧ yX2_softOf.cls ≠ "java/lang/invoke/VarHandle" ∧ (parseMethodDescriptor yX2_softOf.desc).map (fun d => d.parameters.length) = some 1 := by decide +kernel
set_option maxHeartbeats 4000000 in
set_option maxRecDepth 100000 in
theorem c_X2_softOf (l : Launch) (D : va_G) (cI cJ cZ : ClassId) (en : EnT) (q_t q_t_ground q_t_windows q_t_lawParts : Nat) (sz : Nat) (v_t_columns : Int32) (v_t_rows : Int32) (v_t_fade : Int32) (v_t_laws : Int32) (v_t_nightHours : Int32) (v_t_nightTimes : Int32) (v_t_ground : Nat → Int32) (v_t_windows : Nat → Int32) (v_t_lawParts : Nat → Int32) (x1 : Int32) {z : Int32} (hf : f_X2_softOf v_t_columns v_t_rows v_t_ground x1 = some z) : Met l yX2_softOf (Cond.code yX2_softOf cX2_softOf 2 (some .int) :: lw_g) ({ frames := 1, cells := 0, slots := 0, locals := 21 } : Room) (PC D cI cJ cZ en ([.ref q_t, .int x1] : List Value) [(q_t, .inr (2, [.int v_t_columns, .int v_t_rows, .int v_t_fade, .int v_t_laws, .int v_t_nightHours, .int v_t_nightTimes, .ref q_t_ground, .ref q_t_windows, .ref q_t_lawParts])), (q_t_ground, .inl (cI, 36, .inl v_t_ground)), (q_t_windows, .inl (cI, 6, .inl v_t_windows)), (q_t_lawParts, .inl (cI, 18, .inl v_t_lawParts))] sz) (QI D cI cJ cZ [(q_t, .inr (2, [.int v_t_columns, .int v_t_rows, .int v_t_fade, .int v_t_laws, .int v_t_nightHours, .int v_t_nightTimes, .ref q_t_ground, .ref q_t_windows, .ref q_t_lawParts])), (q_t_ground, .inl (cI, 36, .inl v_t_ground)), (q_t_windows, .inl (cI, 6, .inl v_t_windows)), (q_t_lawParts, .inl (cI, 18, .inl v_t_lawParts))] z (va_A [(q_t, .inr (2, [.int v_t_columns, .int v_t_rows, .int v_t_fade, .int v_t_laws, .int v_t_nightHours, .int v_t_nightTimes, .ref q_t_ground, .ref q_t_windows, .ref q_t_lawParts])), (q_t_ground, .inl (cI, 36, .inl v_t_ground)), (q_t_windows, .inl (cI, 6, .inl v_t_windows)), (q_t_lawParts, .inl (cI, 18, .inl v_t_lawParts))] sz)) 0 0 (va_A [(q_t, .inr (2, [.int v_t_columns, .int v_t_rows, .int v_t_fade, .int v_t_laws, .int v_t_nightHours, .int v_t_nightTimes, .ref q_t_ground, .ref q_t_windows, .ref q_t_lawParts])), (q_t_ground, .inl (cI, 36, .inl v_t_ground)), (q_t_windows, .inl (cI, 6, .inl v_t_windows)), (q_t_lawParts, .inl (cI, 18, .inl v_t_lawParts))] sz) := by
  refine mk_met (Qc := fun A => (QI D cI cJ cZ [(q_t, .inr (2, [.int v_t_columns, .int v_t_rows, .int v_t_fade, .int v_t_laws, .int v_t_nightHours, .int v_t_nightTimes, .ref q_t_ground, .ref q_t_windows, .ref q_t_lawParts])), (q_t_ground, .inl (cI, 36, .inl v_t_ground)), (q_t_windows, .inl (cI, 6, .inl v_t_windows)), (q_t_lawParts, .inl (cI, 18, .inl v_t_lawParts))] z A)) RX2 (by decide) rfl (Nat.le_of_ble_eq_true rfl) ?_
  intro p e s m below meth c ls A hx hb hr hml hown hts hlocks hA hK hE hl hD H locs hP hS
  have hl : lv_has ls 2 [(0, .ref q_t), (1, .int x1)] := hl
  unfold f_X2_softOf at hf
  refine lv_aload_n hx hb dX2_softOf_0 rfl (lv_at hl 0 rfl) ?_
  refine lv_iload_n hx hb dX2_softOf_1 rfl (lv_at hl 1 rfl) ?_
  obtain ⟨z2_1, hz2_1, hf⟩ := bd_some hf
  refine cVi (rest := []) ⟨hx, hb, hml, hown, hts⟩ hE hK hP hD hS hA (c_X2_has l D cI cJ cZ en q_t q_t_ground q_t_windows q_t_lawParts H.size v_t_columns v_t_rows v_t_fade v_t_laws v_t_nightHours v_t_nightTimes v_t_ground v_t_windows v_t_lawParts x1 hz2_1) (gv_X2_has w_464) hd_X2_has ⟨rfl, rfl⟩ ⟨by decide, by decide⟩ [0, 1, 2, 3] (And.intro rfl (And.intro rfl (And.intro rfl (And.intro rfl trivial)))) rfl (And.intro rfl (And.intro rfl (And.intro rfl (And.intro rfl trivial)))) 2 rfl rfl 0 rfl  hl rfl (Nat.le_of_ble_eq_true rfl) ⟨Nat.zero_le _, Nat.zero_le _⟩ dX2_softOf_2 (fun H locs hP hD hS => ?_)
  have hP : va_P D vwCl [(q_t, .inr (2, [.int v_t_columns, .int v_t_rows, .int v_t_fade, .int v_t_laws, .int v_t_nightHours, .int v_t_nightTimes, .ref q_t_ground, .ref q_t_windows, .ref q_t_lawParts])), (q_t_ground, .inl (cI, 36, .inl v_t_ground)), (q_t_windows, .inl (cI, 6, .inl v_t_windows)), (q_t_lawParts, .inl (cI, 18, .inl v_t_lawParts))] H := hP
  have hD : va_D A [(q_t, .inr (2, [.int v_t_columns, .int v_t_rows, .int v_t_fade, .int v_t_laws, .int v_t_nightHours, .int v_t_nightTimes, .ref q_t_ground, .ref q_t_windows, .ref q_t_lawParts])), (q_t_ground, .inl (cI, 36, .inl v_t_ground)), (q_t_windows, .inl (cI, 6, .inl v_t_windows)), (q_t_lawParts, .inl (cI, 18, .inl v_t_lawParts))] := hD
  refine lv_if_eq (tgt := 21) hx hb dX2_softOf_5 (by decide) (fun h_2 => ?_) (fun h_2 => ?_)
  · have hf := (if_pos h_2).symm.trans hf
    refine lv_iconst (v := 0) hx hb dX2_softOf_21 (by decide) ?_
    have hf := Option.some.inj hf
    subst hf
    exact rt_i hx hb hr hlocks hK hP hS dX2_softOf_22
  · have hf := (if_neg h_2).symm.trans hf
    refine lv_iconst (v := 0) hx hb dX2_softOf_8 (by decide) ?_
    refine lv_aload_n hx hb dX2_softOf_9 rfl (lv_at hl 0 rfl) ?_
    refine va_get (D := D) (ci := 2) (v := .ref q_t_ground) (C := RX2) (T := TX2) (N := 9) hx hb hts inX2 hown hK hP 0 rfl rfl 6 (by decide) (hts _ w_150) (fun _ h9 => h9) rfl dX2_softOf_10 ?_
    refine lv_iload_n hx hb dX2_softOf_13 rfl (lv_at hl 1 rfl) ?_
    obtain ⟨hin, hf⟩ := gd_some hf
    refine va_iald hx hb hK hP 1 0 rfl rfl hin dX2_softOf_14 ?_
    refine va_mmax hx hb (hml.trans hl.1.symm) hown (hts _ w_522) (hts _ w_523) (hts _ w_73) (hts _ w_524) (by decide) (Nat.le_of_ble_eq_true rfl) (Nat.zero_le _) (Nat.zero_le _) dX2_softOf_15 ?_
    refine lv_goto (tgt := 22) hx hb dX2_softOf_18 (by decide) ?_
    have hf := Option.some.inj hf
    subst hf
    exact rt_i hx hb hr hlocks hK hP hS dX2_softOf_22

def f_X2_windowOf (v_t_windows : Nat → Int32) (x1 : Int32) : Option (Int32) :=
  (f_X9_isPerson x1).bind (fun z1 => (if z1 = 0 then (some (-1)) else gd (ib x1 6) ((some (v_t_windows (Int32.toNatClampNeg x1))))))
theorem gv_X2_windowOf {own : String} {idx : Nat} (h : Cond.methodLink own idx yX2_windowOf ∈ lw_g) : GoodIn lw_g (wsV own idx RX2 yX2_windowOf (Cond.code yX2_windowOf cX2_windowOf 2 (some .int) :: lw_g)) := gV h w_535 w_536 w_60 w_537
theorem hd_X2_windowOf : yX2_windowOf.cls = RX2 ∧ yX2_windowOf.cls ≠ "java/lang/invoke/MethodHandle" ∧ yX2_windowOf.cls ≠ "java/lang/invoke/VarHandle" ∧ (parseMethodDescriptor yX2_windowOf.desc).map (fun d => d.parameters.length) = some 1 := by decide +kernel
set_option maxHeartbeats 4000000 in
set_option maxRecDepth 100000 in
theorem c_X2_windowOf (l : Launch) (D : va_G) (cI cJ cZ : ClassId) (en : EnT) (q_t q_t_ground q_t_windows q_t_lawParts : Nat) (sz : Nat) (v_t_columns : Int32) (v_t_rows : Int32) (v_t_fade : Int32) (v_t_laws : Int32) (v_t_nightHours : Int32) (v_t_nightTimes : Int32) (v_t_ground : Nat → Int32) (v_t_windows : Nat → Int32) (v_t_lawParts : Nat → Int32) (x1 : Int32) {z : Int32} (hf : f_X2_windowOf v_t_windows x1 = some z) : Met l yX2_windowOf (Cond.code yX2_windowOf cX2_windowOf 2 (some .int) :: lw_g) ({ frames := 1, cells := 0, slots := 0, locals := 20 } : Room) (PC D cI cJ cZ en ([.ref q_t, .int x1] : List Value) [(q_t, .inr (2, [.int v_t_columns, .int v_t_rows, .int v_t_fade, .int v_t_laws, .int v_t_nightHours, .int v_t_nightTimes, .ref q_t_ground, .ref q_t_windows, .ref q_t_lawParts])), (q_t_ground, .inl (cI, 36, .inl v_t_ground)), (q_t_windows, .inl (cI, 6, .inl v_t_windows)), (q_t_lawParts, .inl (cI, 18, .inl v_t_lawParts))] sz) (QI D cI cJ cZ [(q_t, .inr (2, [.int v_t_columns, .int v_t_rows, .int v_t_fade, .int v_t_laws, .int v_t_nightHours, .int v_t_nightTimes, .ref q_t_ground, .ref q_t_windows, .ref q_t_lawParts])), (q_t_ground, .inl (cI, 36, .inl v_t_ground)), (q_t_windows, .inl (cI, 6, .inl v_t_windows)), (q_t_lawParts, .inl (cI, 18, .inl v_t_lawParts))] z (va_A [(q_t, .inr (2, [.int v_t_columns, .int v_t_rows, .int v_t_fade, .int v_t_laws, .int v_t_nightHours, .int v_t_nightTimes, .ref q_t_ground, .ref q_t_windows, .ref q_t_lawParts])), (q_t_ground, .inl (cI, 36, .inl v_t_ground)), (q_t_windows, .inl (cI, 6, .inl v_t_windows)), (q_t_lawParts, .inl (cI, 18, .inl v_t_lawParts))] sz)) 0 0 (va_A [(q_t, .inr (2, [.int v_t_columns, .int v_t_rows, .int v_t_fade, .int v_t_laws, .int v_t_nightHours, .int v_t_nightTimes, .ref q_t_ground, .ref q_t_windows, .ref q_t_lawParts])), (q_t_ground, .inl (cI, 36, .inl v_t_ground)), (q_t_windows, .inl (cI, 6, .inl v_t_windows)), (q_t_lawParts, .inl (cI, 18, .inl v_t_lawParts))] sz) := by
  refine mk_met (Qc := fun A => (QI D cI cJ cZ [(q_t, .inr (2, [.int v_t_columns, .int v_t_rows, .int v_t_fade, .int v_t_laws, .int v_t_nightHours, .int v_t_nightTimes, .ref q_t_ground, .ref q_t_windows, .ref q_t_lawParts])), (q_t_ground, .inl (cI, 36, .inl v_t_ground)), (q_t_windows, .inl (cI, 6, .inl v_t_windows)), (q_t_lawParts, .inl (cI, 18, .inl v_t_lawParts))] z A)) RX2 (by decide) rfl (Nat.le_of_ble_eq_true rfl) ?_
  intro p e s m below meth c ls A hx hb hr hml hown hts hlocks hA hK hE hl hD H locs hP hS
  have hl : lv_has ls 2 [(0, .ref q_t), (1, .int x1)] := hl
  unfold f_X2_windowOf at hf
  refine lv_iload_n hx hb dX2_windowOf_0 rfl (lv_at hl 1 rfl) ?_
  obtain ⟨z1_1, hz1_1, hf⟩ := bd_some hf
  refine cNi (host := RX9) (rest := []) ⟨hx, hb, hml, hown, hts⟩ hE hK hP hD hS hA (c_X9_isPerson l D cI cJ cZ en  H.size x1 hz1_1) w_490 (by decide +kernel) w_57 w_489 hd_X9_isPerson ⟨rfl, rfl⟩ ⟨by decide, by decide⟩ [] trivial rfl trivial  hl rfl (Nat.le_of_ble_eq_true rfl) ⟨Nat.zero_le _, Nat.zero_le _⟩ dX2_windowOf_1 (fun H locs hP hD hS => ?_)
  have hP : va_P D vwCl [(q_t, .inr (2, [.int v_t_columns, .int v_t_rows, .int v_t_fade, .int v_t_laws, .int v_t_nightHours, .int v_t_nightTimes, .ref q_t_ground, .ref q_t_windows, .ref q_t_lawParts])), (q_t_ground, .inl (cI, 36, .inl v_t_ground)), (q_t_windows, .inl (cI, 6, .inl v_t_windows)), (q_t_lawParts, .inl (cI, 18, .inl v_t_lawParts))] H := hP
  have hD : va_D A [(q_t, .inr (2, [.int v_t_columns, .int v_t_rows, .int v_t_fade, .int v_t_laws, .int v_t_nightHours, .int v_t_nightTimes, .ref q_t_ground, .ref q_t_windows, .ref q_t_lawParts])), (q_t_ground, .inl (cI, 36, .inl v_t_ground)), (q_t_windows, .inl (cI, 6, .inl v_t_windows)), (q_t_lawParts, .inl (cI, 18, .inl v_t_lawParts))] := hD
  refine lv_if_eq (tgt := 16) hx hb dX2_windowOf_4 (by decide) (fun h_2 => ?_) (fun h_2 => ?_)
  · have hf := (if_pos h_2).symm.trans hf
    refine lv_iconst (v := (-1)) hx hb dX2_windowOf_16 (by decide) ?_
    have hf := Option.some.inj hf
    subst hf
    exact rt_i hx hb hr hlocks hK hP hS dX2_windowOf_17
  · have hf := (if_neg h_2).symm.trans hf
    refine lv_aload_n hx hb dX2_windowOf_7 rfl (lv_at hl 0 rfl) ?_
    refine va_get (D := D) (ci := 2) (v := .ref q_t_windows) (C := RX2) (T := TX2) (N := 9) hx hb hts inX2 hown hK hP 0 rfl rfl 7 (by decide) (hts _ w_151) (fun _ h9 => h9) rfl dX2_windowOf_8 ?_
    refine lv_iload_n hx hb dX2_windowOf_11 rfl (lv_at hl 1 rfl) ?_
    obtain ⟨hin, hf⟩ := gd_some hf
    refine va_iald hx hb hK hP 2 0 rfl rfl hin dX2_windowOf_12 ?_
    refine lv_goto (tgt := 17) hx hb dX2_windowOf_13 (by decide) ?_
    have hf := Option.some.inj hf
    subst hf
    exact rt_i hx hb hr hlocks hK hP hS dX2_windowOf_17

def f_X2_cells (v_t_columns : Int32) (v_t_rows : Int32) : Option (Int32) :=
  (some (v_t_columns * v_t_rows))
theorem gv_X2_cells {own : String} {idx : Nat} (h : Cond.methodLink own idx yX2_cells ∈ lw_g) : GoodIn lw_g (wsV own idx RX2 yX2_cells (Cond.code yX2_cells cX2_cells 1 (some .int) :: lw_g)) := gV h w_749 w_750 w_60 w_751
theorem hd_X2_cells : yX2_cells.cls = RX2 ∧ yX2_cells.cls ≠ "java/lang/invoke/MethodHandle" ∧ yX2_cells.cls ≠ "java/lang/invoke/VarHandle" ∧ (parseMethodDescriptor yX2_cells.desc).map (fun d => d.parameters.length) = some 0 := by decide +kernel
set_option maxHeartbeats 4000000 in
set_option maxRecDepth 100000 in
theorem c_X2_cells (l : Launch) (D : va_G) (cI cJ cZ : ClassId) (en : EnT) (q_t q_t_ground q_t_windows q_t_lawParts : Nat) (sz : Nat) (v_t_columns : Int32) (v_t_rows : Int32) (v_t_fade : Int32) (v_t_laws : Int32) (v_t_nightHours : Int32) (v_t_nightTimes : Int32) (v_t_ground : Nat → Int32) (v_t_windows : Nat → Int32) (v_t_lawParts : Nat → Int32) {z : Int32} (hf : f_X2_cells v_t_columns v_t_rows = some z) : Met l yX2_cells (Cond.code yX2_cells cX2_cells 1 (some .int) :: lw_g) ({ frames := 0, cells := 0, slots := 0, locals := 0 } : Room) (PC D cI cJ cZ en ([.ref q_t] : List Value) [(q_t, .inr (2, [.int v_t_columns, .int v_t_rows, .int v_t_fade, .int v_t_laws, .int v_t_nightHours, .int v_t_nightTimes, .ref q_t_ground, .ref q_t_windows, .ref q_t_lawParts])), (q_t_ground, .inl (cI, 36, .inl v_t_ground)), (q_t_windows, .inl (cI, 6, .inl v_t_windows)), (q_t_lawParts, .inl (cI, 18, .inl v_t_lawParts))] sz) (QI D cI cJ cZ [(q_t, .inr (2, [.int v_t_columns, .int v_t_rows, .int v_t_fade, .int v_t_laws, .int v_t_nightHours, .int v_t_nightTimes, .ref q_t_ground, .ref q_t_windows, .ref q_t_lawParts])), (q_t_ground, .inl (cI, 36, .inl v_t_ground)), (q_t_windows, .inl (cI, 6, .inl v_t_windows)), (q_t_lawParts, .inl (cI, 18, .inl v_t_lawParts))] z (va_A [(q_t, .inr (2, [.int v_t_columns, .int v_t_rows, .int v_t_fade, .int v_t_laws, .int v_t_nightHours, .int v_t_nightTimes, .ref q_t_ground, .ref q_t_windows, .ref q_t_lawParts])), (q_t_ground, .inl (cI, 36, .inl v_t_ground)), (q_t_windows, .inl (cI, 6, .inl v_t_windows)), (q_t_lawParts, .inl (cI, 18, .inl v_t_lawParts))] sz)) 0 0 (va_A [(q_t, .inr (2, [.int v_t_columns, .int v_t_rows, .int v_t_fade, .int v_t_laws, .int v_t_nightHours, .int v_t_nightTimes, .ref q_t_ground, .ref q_t_windows, .ref q_t_lawParts])), (q_t_ground, .inl (cI, 36, .inl v_t_ground)), (q_t_windows, .inl (cI, 6, .inl v_t_windows)), (q_t_lawParts, .inl (cI, 18, .inl v_t_lawParts))] sz) := by
  refine mk_met (Qc := fun A => (QI D cI cJ cZ [(q_t, .inr (2, [.int v_t_columns, .int v_t_rows, .int v_t_fade, .int v_t_laws, .int v_t_nightHours, .int v_t_nightTimes, .ref q_t_ground, .ref q_t_windows, .ref q_t_lawParts])), (q_t_ground, .inl (cI, 36, .inl v_t_ground)), (q_t_windows, .inl (cI, 6, .inl v_t_windows)), (q_t_lawParts, .inl (cI, 18, .inl v_t_lawParts))] z A)) RX2 (by decide) rfl (Nat.le_of_ble_eq_true rfl) ?_
  intro p e s m below meth c ls A hx hb hr hml hown hts hlocks hA hK hE hl hD H locs hP hS
  have hl : lv_has ls 1 [(0, .ref q_t)] := hl
  unfold f_X2_cells at hf
  refine lv_aload_n hx hb dX2_cells_0 rfl (lv_at hl 0 rfl) ?_
  refine va_get (D := D) (ci := 2) (v := .int v_t_columns) (C := RX2) (T := TX2) (N := 9) hx hb hts inX2 hown hK hP 0 rfl rfl 0 (by decide) (hts _ w_133) (fun _ h9 => h9) rfl dX2_cells_1 ?_
  refine lv_aload_n hx hb dX2_cells_4 rfl (lv_at hl 0 rfl) ?_
  refine va_get (D := D) (ci := 2) (v := .int v_t_rows) (C := RX2) (T := TX2) (N := 9) hx hb hts inX2 hown hK hP 0 rfl rfl 1 (by decide) (hts _ w_136) (fun _ h9 => h9) rfl dX2_cells_5 ?_
  refine lv_imul hx hb dX2_cells_8 ?_
  have hf := Option.some.inj hf
  subst hf
  exact rt_i hx hb hr hlocks hK hP hS dX2_cells_9

def f_X2_cellAt (v_t_columns : Int32) (v_t_rows : Int32) (x1 : Int32) (x2 : Int32) : Option (Int32) :=
  (if x1 < 0 then (some (-1)) else (if v_t_columns ≤ x1 then (some (-1)) else (if x2 < 0 then (some (-1)) else (if x2 < v_t_rows then (some ((v_t_columns * x2) + x1)) else (some (-1))))))
theorem gv_X2_cellAt {own : String} {idx : Nat} (h : Cond.methodLink own idx yX2_cellAt ∈ lw_g) : GoodIn lw_g (wsV own idx RX2 yX2_cellAt (Cond.code yX2_cellAt cX2_cellAt 3 (some .int) :: lw_g)) := gV h w_457 w_458 w_60 w_459
theorem hd_X2_cellAt : yX2_cellAt.cls = RX2 ∧ yX2_cellAt.cls ≠ "java/lang/invoke/MethodHandle" ∧ yX2_cellAt.cls ≠ "java/lang/invoke/VarHandle" ∧ (parseMethodDescriptor yX2_cellAt.desc).map (fun d => d.parameters.length) = some 2 := by decide +kernel
set_option maxHeartbeats 4000000 in
set_option maxRecDepth 100000 in
theorem c_X2_cellAt (l : Launch) (D : va_G) (cI cJ cZ : ClassId) (en : EnT) (q_t q_t_ground q_t_windows q_t_lawParts : Nat) (sz : Nat) (v_t_columns : Int32) (v_t_rows : Int32) (v_t_fade : Int32) (v_t_laws : Int32) (v_t_nightHours : Int32) (v_t_nightTimes : Int32) (v_t_ground : Nat → Int32) (v_t_windows : Nat → Int32) (v_t_lawParts : Nat → Int32) (x1 : Int32) (x2 : Int32) {z : Int32} (hf : f_X2_cellAt v_t_columns v_t_rows x1 x2 = some z) : Met l yX2_cellAt (Cond.code yX2_cellAt cX2_cellAt 3 (some .int) :: lw_g) ({ frames := 0, cells := 0, slots := 0, locals := 0 } : Room) (PC D cI cJ cZ en ([.ref q_t, .int x1, .int x2] : List Value) [(q_t, .inr (2, [.int v_t_columns, .int v_t_rows, .int v_t_fade, .int v_t_laws, .int v_t_nightHours, .int v_t_nightTimes, .ref q_t_ground, .ref q_t_windows, .ref q_t_lawParts])), (q_t_ground, .inl (cI, 36, .inl v_t_ground)), (q_t_windows, .inl (cI, 6, .inl v_t_windows)), (q_t_lawParts, .inl (cI, 18, .inl v_t_lawParts))] sz) (QI D cI cJ cZ [(q_t, .inr (2, [.int v_t_columns, .int v_t_rows, .int v_t_fade, .int v_t_laws, .int v_t_nightHours, .int v_t_nightTimes, .ref q_t_ground, .ref q_t_windows, .ref q_t_lawParts])), (q_t_ground, .inl (cI, 36, .inl v_t_ground)), (q_t_windows, .inl (cI, 6, .inl v_t_windows)), (q_t_lawParts, .inl (cI, 18, .inl v_t_lawParts))] z (va_A [(q_t, .inr (2, [.int v_t_columns, .int v_t_rows, .int v_t_fade, .int v_t_laws, .int v_t_nightHours, .int v_t_nightTimes, .ref q_t_ground, .ref q_t_windows, .ref q_t_lawParts])), (q_t_ground, .inl (cI, 36, .inl v_t_ground)), (q_t_windows, .inl (cI, 6, .inl v_t_windows)), (q_t_lawParts, .inl (cI, 18, .inl v_t_lawParts))] sz)) 0 0 (va_A [(q_t, .inr (2, [.int v_t_columns, .int v_t_rows, .int v_t_fade, .int v_t_laws, .int v_t_nightHours, .int v_t_nightTimes, .ref q_t_ground, .ref q_t_windows, .ref q_t_lawParts])), (q_t_ground, .inl (cI, 36, .inl v_t_ground)), (q_t_windows, .inl (cI, 6, .inl v_t_windows)), (q_t_lawParts, .inl (cI, 18, .inl v_t_lawParts))] sz) := by
  refine mk_met (Qc := fun A => (QI D cI cJ cZ [(q_t, .inr (2, [.int v_t_columns, .int v_t_rows, .int v_t_fade, .int v_t_laws, .int v_t_nightHours, .int v_t_nightTimes, .ref q_t_ground, .ref q_t_windows, .ref q_t_lawParts])), (q_t_ground, .inl (cI, 36, .inl v_t_ground)), (q_t_windows, .inl (cI, 6, .inl v_t_windows)), (q_t_lawParts, .inl (cI, 18, .inl v_t_lawParts))] z A)) RX2 (by decide) rfl (Nat.le_of_ble_eq_true rfl) ?_
  intro p e s m below meth c ls A hx hb hr hml hown hts hlocks hA hK hE hl hD H locs hP hS
  have hl : lv_has ls 3 [(0, .ref q_t), (1, .int x1), (2, .int x2)] := hl
  unfold f_X2_cellAt at hf
  refine lv_iload_n hx hb dX2_cellAt_0 rfl (lv_at hl 1 rfl) ?_
  refine lv_if_lt (tgt := 24) hx hb dX2_cellAt_1 (by decide) (fun h_1 => ?_) (fun h_1 => ?_)
  · have hf := (if_pos h_1).symm.trans hf
    refine lv_iconst (v := (-1)) hx hb dX2_cellAt_24 (by decide) ?_
    have hf := Option.some.inj hf
    subst hf
    exact rt_i hx hb hr hlocks hK hP hS dX2_cellAt_25
  · have hf := (if_neg h_1).symm.trans hf
    refine lv_iload_n hx hb dX2_cellAt_4 rfl (lv_at hl 1 rfl) ?_
    refine lv_aload_n hx hb dX2_cellAt_5 rfl (lv_at hl 0 rfl) ?_
    refine va_get (D := D) (ci := 2) (v := .int v_t_columns) (C := RX2) (T := TX2) (N := 9) hx hb hts inX2 hown hK hP 0 rfl rfl 0 (by decide) (hts _ w_133) (fun _ h9 => h9) rfl dX2_cellAt_6 ?_
    refine lv_icmp_ge (tgt := 24) hx hb dX2_cellAt_9 (by decide) (fun h_2 => ?_) (fun h_2 => ?_)
    · have hf := (if_pos h_2).symm.trans hf
      refine lv_iconst (v := (-1)) hx hb dX2_cellAt_24 (by decide) ?_
      have hf := Option.some.inj hf
      subst hf
      exact rt_i hx hb hr hlocks hK hP hS dX2_cellAt_25
    · have hf := (if_neg h_2).symm.trans hf
      refine lv_iload_n hx hb dX2_cellAt_12 rfl (lv_at hl 2 rfl) ?_
      refine lv_if_lt (tgt := 24) hx hb dX2_cellAt_13 (by decide) (fun h_3 => ?_) (fun h_3 => ?_)
      · have hf := (if_pos h_3).symm.trans hf
        refine lv_iconst (v := (-1)) hx hb dX2_cellAt_24 (by decide) ?_
        have hf := Option.some.inj hf
        subst hf
        exact rt_i hx hb hr hlocks hK hP hS dX2_cellAt_25
      · have hf := (if_neg h_3).symm.trans hf
        refine lv_iload_n hx hb dX2_cellAt_16 rfl (lv_at hl 2 rfl) ?_
        refine lv_aload_n hx hb dX2_cellAt_17 rfl (lv_at hl 0 rfl) ?_
        refine va_get (D := D) (ci := 2) (v := .int v_t_rows) (C := RX2) (T := TX2) (N := 9) hx hb hts inX2 hown hK hP 0 rfl rfl 1 (by decide) (hts _ w_136) (fun _ h9 => h9) rfl dX2_cellAt_18 ?_
        refine lv_icmp_lt (tgt := 26) hx hb dX2_cellAt_21 (by decide) (fun h_4 => ?_) (fun h_4 => ?_)
        · have hf := (if_pos h_4).symm.trans hf
          refine lv_aload_n hx hb dX2_cellAt_26 rfl (lv_at hl 0 rfl) ?_
          refine va_get (D := D) (ci := 2) (v := .int v_t_columns) (C := RX2) (T := TX2) (N := 9) hx hb hts inX2 hown hK hP 0 rfl rfl 0 (by decide) (hts _ w_133) (fun _ h9 => h9) rfl dX2_cellAt_27 ?_
          refine lv_iload_n hx hb dX2_cellAt_30 rfl (lv_at hl 2 rfl) ?_
          refine lv_imul hx hb dX2_cellAt_31 ?_
          refine lv_iload_n hx hb dX2_cellAt_32 rfl (lv_at hl 1 rfl) ?_
          refine lv_iadd hx hb dX2_cellAt_33 ?_
          have hf := Option.some.inj hf
          subst hf
          exact rt_i hx hb hr hlocks hK hP hS dX2_cellAt_34
        · have hf := (if_neg h_4).symm.trans hf
          refine lv_iconst (v := (-1)) hx hb dX2_cellAt_24 (by decide) ?_
          have hf := Option.some.inj hf
          subst hf
          exact rt_i hx hb hr hlocks hK hP hS dX2_cellAt_25

def f_X2_columnOf (v_t_columns : Int32) (x1 : Int32) : Option (Int32) :=
  (if 1 ≤ v_t_columns then gd (¬ v_t_columns = 0) ((some (x1 - x1 / v_t_columns * v_t_columns))) else (some 0))
theorem gv_X2_columnOf {own : String} {idx : Nat} (h : Cond.methodLink own idx yX2_columnOf ∈ lw_g) : GoodIn lw_g (wsV own idx RX2 yX2_columnOf (Cond.code yX2_columnOf cX2_columnOf 2 (some .int) :: lw_g)) := gV h w_599 w_12 w_60 w_600
theorem hd_X2_columnOf : yX2_columnOf.cls = RX2 ∧ yX2_columnOf.cls ≠ "java/lang/invoke/MethodHandle" ∧ yX2_columnOf.cls ≠ "java/lang/invoke/VarHandle" ∧ (parseMethodDescriptor yX2_columnOf.desc).map (fun d => d.parameters.length) = some 1 := by decide +kernel
set_option maxHeartbeats 4000000 in
set_option maxRecDepth 100000 in
theorem c_X2_columnOf (l : Launch) (D : va_G) (cI cJ cZ : ClassId) (en : EnT) (q_t q_t_ground q_t_windows q_t_lawParts : Nat) (sz : Nat) (v_t_columns : Int32) (v_t_rows : Int32) (v_t_fade : Int32) (v_t_laws : Int32) (v_t_nightHours : Int32) (v_t_nightTimes : Int32) (v_t_ground : Nat → Int32) (v_t_windows : Nat → Int32) (v_t_lawParts : Nat → Int32) (x1 : Int32) {z : Int32} (hf : f_X2_columnOf v_t_columns x1 = some z) : Met l yX2_columnOf (Cond.code yX2_columnOf cX2_columnOf 2 (some .int) :: lw_g) ({ frames := 0, cells := 0, slots := 0, locals := 0 } : Room) (PC D cI cJ cZ en ([.ref q_t, .int x1] : List Value) [(q_t, .inr (2, [.int v_t_columns, .int v_t_rows, .int v_t_fade, .int v_t_laws, .int v_t_nightHours, .int v_t_nightTimes, .ref q_t_ground, .ref q_t_windows, .ref q_t_lawParts])), (q_t_ground, .inl (cI, 36, .inl v_t_ground)), (q_t_windows, .inl (cI, 6, .inl v_t_windows)), (q_t_lawParts, .inl (cI, 18, .inl v_t_lawParts))] sz) (QI D cI cJ cZ [(q_t, .inr (2, [.int v_t_columns, .int v_t_rows, .int v_t_fade, .int v_t_laws, .int v_t_nightHours, .int v_t_nightTimes, .ref q_t_ground, .ref q_t_windows, .ref q_t_lawParts])), (q_t_ground, .inl (cI, 36, .inl v_t_ground)), (q_t_windows, .inl (cI, 6, .inl v_t_windows)), (q_t_lawParts, .inl (cI, 18, .inl v_t_lawParts))] z (va_A [(q_t, .inr (2, [.int v_t_columns, .int v_t_rows, .int v_t_fade, .int v_t_laws, .int v_t_nightHours, .int v_t_nightTimes, .ref q_t_ground, .ref q_t_windows, .ref q_t_lawParts])), (q_t_ground, .inl (cI, 36, .inl v_t_ground)), (q_t_windows, .inl (cI, 6, .inl v_t_windows)), (q_t_lawParts, .inl (cI, 18, .inl v_t_lawParts))] sz)) 0 0 (va_A [(q_t, .inr (2, [.int v_t_columns, .int v_t_rows, .int v_t_fade, .int v_t_laws, .int v_t_nightHours, .int v_t_nightTimes, .ref q_t_ground, .ref q_t_windows, .ref q_t_lawParts])), (q_t_ground, .inl (cI, 36, .inl v_t_ground)), (q_t_windows, .inl (cI, 6, .inl v_t_windows)), (q_t_lawParts, .inl (cI, 18, .inl v_t_lawParts))] sz) := by
  refine mk_met (Qc := fun A => (QI D cI cJ cZ [(q_t, .inr (2, [.int v_t_columns, .int v_t_rows, .int v_t_fade, .int v_t_laws, .int v_t_nightHours, .int v_t_nightTimes, .ref q_t_ground, .ref q_t_windows, .ref q_t_lawParts])), (q_t_ground, .inl (cI, 36, .inl v_t_ground)), (q_t_windows, .inl (cI, 6, .inl v_t_windows)), (q_t_lawParts, .inl (cI, 18, .inl v_t_lawParts))] z A)) RX2 (by decide) rfl (Nat.le_of_ble_eq_true rfl) ?_
  intro p e s m below meth c ls A hx hb hr hml hown hts hlocks hA hK hE hl hD H locs hP hS
  have hl : lv_has ls 2 [(0, .ref q_t), (1, .int x1)] := hl
  unfold f_X2_columnOf at hf
  refine lv_aload_n hx hb dX2_columnOf_0 rfl (lv_at hl 0 rfl) ?_
  refine va_get (D := D) (ci := 2) (v := .int v_t_columns) (C := RX2) (T := TX2) (N := 9) hx hb hts inX2 hown hK hP 0 rfl rfl 0 (by decide) (hts _ w_133) (fun _ h9 => h9) rfl dX2_columnOf_1 ?_
  refine lv_iconst (v := 1) hx hb dX2_columnOf_4 (by decide) ?_
  refine lv_icmp_ge (tgt := 12) hx hb dX2_columnOf_5 (by decide) (fun h_1 => ?_) (fun h_1 => ?_)
  · have hf := (if_pos h_1).symm.trans hf
    refine lv_iload_n hx hb dX2_columnOf_12 rfl (lv_at hl 1 rfl) ?_
    refine lv_aload_n hx hb dX2_columnOf_13 rfl (lv_at hl 0 rfl) ?_
    refine va_get (D := D) (ci := 2) (v := .int v_t_columns) (C := RX2) (T := TX2) (N := 9) hx hb hts inX2 hown hK hP 0 rfl rfl 0 (by decide) (hts _ w_133) (fun _ h9 => h9) rfl dX2_columnOf_14 ?_
    obtain ⟨hin, hf⟩ := gd_some hf
    refine lv_irem hx hb dX2_columnOf_17 hin ?_
    have hf := Option.some.inj hf
    subst hf
    exact rt_i hx hb hr hlocks hK hP hS dX2_columnOf_18
  · have hf := (if_neg h_1).symm.trans hf
    refine lv_iconst (v := 0) hx hb dX2_columnOf_8 (by decide) ?_
    refine lv_goto (tgt := 18) hx hb dX2_columnOf_9 (by decide) ?_
    have hf := Option.some.inj hf
    subst hf
    exact rt_i hx hb hr hlocks hK hP hS dX2_columnOf_18

def f_X2_rowOf (v_t_columns : Int32) (x1 : Int32) : Option (Int32) :=
  (if 1 ≤ v_t_columns then gd (¬ v_t_columns = 0) ((some (x1 / v_t_columns))) else (some 0))
theorem gv_X2_rowOf {own : String} {idx : Nat} (h : Cond.methodLink own idx yX2_rowOf ∈ lw_g) : GoodIn lw_g (wsV own idx RX2 yX2_rowOf (Cond.code yX2_rowOf cX2_rowOf 2 (some .int) :: lw_g)) := gV h w_605 w_13 w_60 w_606
theorem hd_X2_rowOf : yX2_rowOf.cls = RX2 ∧ yX2_rowOf.cls ≠ "java/lang/invoke/MethodHandle" ∧ yX2_rowOf.cls ≠ "java/lang/invoke/VarHandle" ∧ (parseMethodDescriptor yX2_rowOf.desc).map (fun d => d.parameters.length) = some 1 := by decide +kernel
set_option maxHeartbeats 4000000 in
set_option maxRecDepth 100000 in
theorem c_X2_rowOf (l : Launch) (D : va_G) (cI cJ cZ : ClassId) (en : EnT) (q_t q_t_ground q_t_windows q_t_lawParts : Nat) (sz : Nat) (v_t_columns : Int32) (v_t_rows : Int32) (v_t_fade : Int32) (v_t_laws : Int32) (v_t_nightHours : Int32) (v_t_nightTimes : Int32) (v_t_ground : Nat → Int32) (v_t_windows : Nat → Int32) (v_t_lawParts : Nat → Int32) (x1 : Int32) {z : Int32} (hf : f_X2_rowOf v_t_columns x1 = some z) : Met l yX2_rowOf (Cond.code yX2_rowOf cX2_rowOf 2 (some .int) :: lw_g) ({ frames := 0, cells := 0, slots := 0, locals := 0 } : Room) (PC D cI cJ cZ en ([.ref q_t, .int x1] : List Value) [(q_t, .inr (2, [.int v_t_columns, .int v_t_rows, .int v_t_fade, .int v_t_laws, .int v_t_nightHours, .int v_t_nightTimes, .ref q_t_ground, .ref q_t_windows, .ref q_t_lawParts])), (q_t_ground, .inl (cI, 36, .inl v_t_ground)), (q_t_windows, .inl (cI, 6, .inl v_t_windows)), (q_t_lawParts, .inl (cI, 18, .inl v_t_lawParts))] sz) (QI D cI cJ cZ [(q_t, .inr (2, [.int v_t_columns, .int v_t_rows, .int v_t_fade, .int v_t_laws, .int v_t_nightHours, .int v_t_nightTimes, .ref q_t_ground, .ref q_t_windows, .ref q_t_lawParts])), (q_t_ground, .inl (cI, 36, .inl v_t_ground)), (q_t_windows, .inl (cI, 6, .inl v_t_windows)), (q_t_lawParts, .inl (cI, 18, .inl v_t_lawParts))] z (va_A [(q_t, .inr (2, [.int v_t_columns, .int v_t_rows, .int v_t_fade, .int v_t_laws, .int v_t_nightHours, .int v_t_nightTimes, .ref q_t_ground, .ref q_t_windows, .ref q_t_lawParts])), (q_t_ground, .inl (cI, 36, .inl v_t_ground)), (q_t_windows, .inl (cI, 6, .inl v_t_windows)), (q_t_lawParts, .inl (cI, 18, .inl v_t_lawParts))] sz)) 0 0 (va_A [(q_t, .inr (2, [.int v_t_columns, .int v_t_rows, .int v_t_fade, .int v_t_laws, .int v_t_nightHours, .int v_t_nightTimes, .ref q_t_ground, .ref q_t_windows, .ref q_t_lawParts])), (q_t_ground, .inl (cI, 36, .inl v_t_ground)), (q_t_windows, .inl (cI, 6, .inl v_t_windows)), (q_t_lawParts, .inl (cI, 18, .inl v_t_lawParts))] sz) := by
  refine mk_met (Qc := fun A => (QI D cI cJ cZ [(q_t, .inr (2, [.int v_t_columns, .int v_t_rows, .int v_t_fade, .int v_t_laws, .int v_t_nightHours, .int v_t_nightTimes, .ref q_t_ground, .ref q_t_windows, .ref q_t_lawParts])), (q_t_ground, .inl (cI, 36, .inl v_t_ground)), (q_t_windows, .inl (cI, 6, .inl v_t_windows)), (q_t_lawParts, .inl (cI, 18, .inl v_t_lawParts))] z A)) RX2 (by decide) rfl (Nat.le_of_ble_eq_true rfl) ?_
  intro p e s m below meth c ls A hx hb hr hml hown hts hlocks hA hK hE hl hD H locs hP hS
  have hl : lv_has ls 2 [(0, .ref q_t), (1, .int x1)] := hl
  unfold f_X2_rowOf at hf
  refine lv_aload_n hx hb dX2_rowOf_0 rfl (lv_at hl 0 rfl) ?_
  refine va_get (D := D) (ci := 2) (v := .int v_t_columns) (C := RX2) (T := TX2) (N := 9) hx hb hts inX2 hown hK hP 0 rfl rfl 0 (by decide) (hts _ w_133) (fun _ h9 => h9) rfl dX2_rowOf_1 ?_
  refine lv_iconst (v := 1) hx hb dX2_rowOf_4 (by decide) ?_
  refine lv_icmp_ge (tgt := 12) hx hb dX2_rowOf_5 (by decide) (fun h_1 => ?_) (fun h_1 => ?_)
  · have hf := (if_pos h_1).symm.trans hf
    refine lv_iload_n hx hb dX2_rowOf_12 rfl (lv_at hl 1 rfl) ?_
    refine lv_aload_n hx hb dX2_rowOf_13 rfl (lv_at hl 0 rfl) ?_
    refine va_get (D := D) (ci := 2) (v := .int v_t_columns) (C := RX2) (T := TX2) (N := 9) hx hb hts inX2 hown hK hP 0 rfl rfl 0 (by decide) (hts _ w_133) (fun _ h9 => h9) rfl dX2_rowOf_14 ?_
    obtain ⟨hin, hf⟩ := gd_some hf
    refine lv_idiv hx hb dX2_rowOf_17 hin ?_
    have hf := Option.some.inj hf
    subst hf
    exact rt_i hx hb hr hlocks hK hP hS dX2_rowOf_18
  · have hf := (if_neg h_1).symm.trans hf
    refine lv_iconst (v := 0) hx hb dX2_rowOf_8 (by decide) ?_
    refine lv_goto (tgt := 18) hx hb dX2_rowOf_9 (by decide) ?_
    have hf := Option.some.inj hf
    subst hf
    exact rt_i hx hb hr hlocks hK hP hS dX2_rowOf_18

def f_X2_rocks_J23 (rc4 : (Int32) → (Int32) → Option (Int32)) (x1 : Int32) (x2 : Int32) : Option (Int32) :=
  (rc4 x1 (x2 + 1))
def f_X2_rocks_L4 (v_t_columns : Int32) (v_t_rows : Int32) (v_t_ground : Nat → Int32) : Nat → (Int32) → (Int32) → Option (Int32)
  | 0, _, _ => none
  | n + 1, x1, x2 => (f_X2_cells v_t_columns v_t_rows).bind (fun z6 => (if z6 ≤ x2 then (some x1) else (f_X2_isRock v_t_columns v_t_rows v_t_ground x2).bind (fun z14 => (if z14 = 0 then (f_X2_rocks_J23 (f_X2_rocks_L4 v_t_columns v_t_rows v_t_ground n) x1 x2) else (f_X2_rocks_J23 (f_X2_rocks_L4 v_t_columns v_t_rows v_t_ground n) (x1 + 1) x2)))))
def f_X2_rocks (v_t_columns : Int32) (v_t_rows : Int32) (v_t_ground : Nat → Int32) : Option (Int32) :=
  (f_X2_rocks_L4 v_t_columns v_t_rows v_t_ground FU 0 0)
theorem gv_X2_rocks {own : String} {idx : Nat} (h : Cond.methodLink own idx yX2_rocks ∈ lw_g) : GoodIn lw_g (wsV own idx RX2 yX2_rocks (Cond.code yX2_rocks cX2_rocks 3 (some .int) :: lw_g)) := gV h w_891 w_892 w_60 w_893
theorem hd_X2_rocks : yX2_rocks.cls = RX2 ∧ yX2_rocks.cls ≠ "java/lang/invoke/MethodHandle" ∧ yX2_rocks.cls ≠ "java/lang/invoke/VarHandle" ∧ (parseMethodDescriptor yX2_rocks.desc).map (fun d => d.parameters.length) = some 0 := by decide +kernel
set_option maxHeartbeats 4000000 in
set_option maxRecDepth 100000 in
theorem c_X2_rocks (l : Launch) (D : va_G) (cI cJ cZ : ClassId) (en : EnT) (q_t q_t_ground q_t_windows q_t_lawParts : Nat) (sz : Nat) (v_t_columns : Int32) (v_t_rows : Int32) (v_t_fade : Int32) (v_t_laws : Int32) (v_t_nightHours : Int32) (v_t_nightTimes : Int32) (v_t_ground : Nat → Int32) (v_t_windows : Nat → Int32) (v_t_lawParts : Nat → Int32) {z : Int32} (hf : f_X2_rocks v_t_columns v_t_rows v_t_ground = some z) : Met l yX2_rocks (Cond.code yX2_rocks cX2_rocks 3 (some .int) :: lw_g) ({ frames := 2, cells := 0, slots := 0, locals := 42 } : Room) (PC D cI cJ cZ en ([.ref q_t] : List Value) [(q_t, .inr (2, [.int v_t_columns, .int v_t_rows, .int v_t_fade, .int v_t_laws, .int v_t_nightHours, .int v_t_nightTimes, .ref q_t_ground, .ref q_t_windows, .ref q_t_lawParts])), (q_t_ground, .inl (cI, 36, .inl v_t_ground)), (q_t_windows, .inl (cI, 6, .inl v_t_windows)), (q_t_lawParts, .inl (cI, 18, .inl v_t_lawParts))] sz) (QI D cI cJ cZ [(q_t, .inr (2, [.int v_t_columns, .int v_t_rows, .int v_t_fade, .int v_t_laws, .int v_t_nightHours, .int v_t_nightTimes, .ref q_t_ground, .ref q_t_windows, .ref q_t_lawParts])), (q_t_ground, .inl (cI, 36, .inl v_t_ground)), (q_t_windows, .inl (cI, 6, .inl v_t_windows)), (q_t_lawParts, .inl (cI, 18, .inl v_t_lawParts))] z (va_A [(q_t, .inr (2, [.int v_t_columns, .int v_t_rows, .int v_t_fade, .int v_t_laws, .int v_t_nightHours, .int v_t_nightTimes, .ref q_t_ground, .ref q_t_windows, .ref q_t_lawParts])), (q_t_ground, .inl (cI, 36, .inl v_t_ground)), (q_t_windows, .inl (cI, 6, .inl v_t_windows)), (q_t_lawParts, .inl (cI, 18, .inl v_t_lawParts))] sz)) 0 0 (va_A [(q_t, .inr (2, [.int v_t_columns, .int v_t_rows, .int v_t_fade, .int v_t_laws, .int v_t_nightHours, .int v_t_nightTimes, .ref q_t_ground, .ref q_t_windows, .ref q_t_lawParts])), (q_t_ground, .inl (cI, 36, .inl v_t_ground)), (q_t_windows, .inl (cI, 6, .inl v_t_windows)), (q_t_lawParts, .inl (cI, 18, .inl v_t_lawParts))] sz) := by
  refine mk_met (Qc := fun A => (QI D cI cJ cZ [(q_t, .inr (2, [.int v_t_columns, .int v_t_rows, .int v_t_fade, .int v_t_laws, .int v_t_nightHours, .int v_t_nightTimes, .ref q_t_ground, .ref q_t_windows, .ref q_t_lawParts])), (q_t_ground, .inl (cI, 36, .inl v_t_ground)), (q_t_windows, .inl (cI, 6, .inl v_t_windows)), (q_t_lawParts, .inl (cI, 18, .inl v_t_lawParts))] z A)) RX2 (by decide) rfl (Nat.le_of_ble_eq_true rfl) ?_
  intro p e s m below meth c ls A hx hb hr hml hown hts hlocks hA hK hE hl hD H locs hP hS
  have hl : lv_has ls 3 [(0, .ref q_t)] := hl
  unfold f_X2_rocks at hf
  refine lv_iconst (v := 0) hx hb dX2_rocks_0 (by decide) ?_
  refine lv_istore_n (lv' := [(1, .int 0), (0, .ref q_t)]) hx hb dX2_rocks_1 rfl hl (by decide) rfl (fun ls hl => ?_)
  refine lv_iconst (v := 0) hx hb dX2_rocks_2 (by decide) ?_
  refine lv_istore_n (lv' := [(2, .int 0), (1, .int 0), (0, .ref q_t)]) hx hb dX2_rocks_3 rfl hl (by decide) rfl (fun ls hl => ?_)
  have L4_3 : ∀ (n_5 : Nat) (x1_1 : Int32) (x2_2 : Int32), f_X2_rocks_L4 v_t_columns v_t_rows v_t_ground n_5 x1_1 x2_2 = some z → ∀ (H : Heap) (locs : List Loc) (ls : Array Slot), va_P D vwCl [(q_t, .inr (2, [.int v_t_columns, .int v_t_rows, .int v_t_fade, .int v_t_laws, .int v_t_nightHours, .int v_t_nightTimes, .ref q_t_ground, .ref q_t_windows, .ref q_t_lawParts])), (q_t_ground, .inl (cI, 36, .inl v_t_ground)), (q_t_windows, .inl (cI, 6, .inl v_t_windows)), (q_t_lawParts, .inl (cI, 18, .inl v_t_lawParts))] H → va_D A [(q_t, .inr (2, [.int v_t_columns, .int v_t_rows, .int v_t_fade, .int v_t_laws, .int v_t_nightHours, .int v_t_nightTimes, .ref q_t_ground, .ref q_t_windows, .ref q_t_lawParts])), (q_t_ground, .inl (cI, 36, .inl v_t_ground)), (q_t_windows, .inl (cI, 6, .inl v_t_windows)), (q_t_lawParts, .inl (cI, 18, .inl v_t_lawParts))] → va_S A s.heap H locs → lv_has ls 3 [(0, .ref q_t), (1, .int x1_1), (2, .int x2_2)] → W p l e ({ frames := 2, cells := 0, slots := 0, locals := 42 } : Room) s m ([.ref q_t] : List Value).toArray below meth c H locs 0 0 (MQ below (QI D cI cJ cZ [(q_t, .inr (2, [.int v_t_columns, .int v_t_rows, .int v_t_fade, .int v_t_laws, .int v_t_nightHours, .int v_t_nightTimes, .ref q_t_ground, .ref q_t_windows, .ref q_t_lawParts])), (q_t_ground, .inl (cI, 36, .inl v_t_ground)), (q_t_windows, .inl (cI, 6, .inl v_t_windows)), (q_t_lawParts, .inl (cI, 18, .inl v_t_lawParts))] z A) ([.ref q_t] : List Value).toArray s 0 0 A) (F0 m 4 ls []) := by
    intro n_5
    induction n_5 with
    | zero =>
      intro x1_1 x2_2 hf
      cases hf
    | succ n_5 ih_4 =>
      intro x1_1 x2_2 hf H locs ls hP hD hS hl
      rw [f_X2_rocks_L4] at hf
      refine lv_iload_n hx hb dX2_rocks_4 rfl (lv_at hl 2 rfl) ?_
      refine lv_aload_n hx hb dX2_rocks_5 rfl (lv_at hl 0 rfl) ?_
      obtain ⟨z6_6, hz6_6, hf⟩ := bd_some hf
      refine cVi (rest := [.int x2_2]) ⟨hx, hb, hml, hown, hts⟩ hE hK hP hD hS hA (c_X2_cells l D cI cJ cZ en q_t q_t_ground q_t_windows q_t_lawParts H.size v_t_columns v_t_rows v_t_fade v_t_laws v_t_nightHours v_t_nightTimes v_t_ground v_t_windows v_t_lawParts hz6_6) (gv_X2_cells w_894) hd_X2_cells ⟨rfl, rfl⟩ ⟨by decide, by decide⟩ [0, 1, 2, 3] (And.intro rfl (And.intro rfl (And.intro rfl (And.intro rfl trivial)))) rfl (And.intro rfl (And.intro rfl (And.intro rfl (And.intro rfl trivial)))) 2 rfl rfl 0 rfl  hl rfl (Nat.le_of_ble_eq_true rfl) ⟨Nat.zero_le _, Nat.zero_le _⟩ dX2_rocks_6 (fun H locs hP hD hS => ?_)
      have hP : va_P D vwCl [(q_t, .inr (2, [.int v_t_columns, .int v_t_rows, .int v_t_fade, .int v_t_laws, .int v_t_nightHours, .int v_t_nightTimes, .ref q_t_ground, .ref q_t_windows, .ref q_t_lawParts])), (q_t_ground, .inl (cI, 36, .inl v_t_ground)), (q_t_windows, .inl (cI, 6, .inl v_t_windows)), (q_t_lawParts, .inl (cI, 18, .inl v_t_lawParts))] H := hP
      have hD : va_D A [(q_t, .inr (2, [.int v_t_columns, .int v_t_rows, .int v_t_fade, .int v_t_laws, .int v_t_nightHours, .int v_t_nightTimes, .ref q_t_ground, .ref q_t_windows, .ref q_t_lawParts])), (q_t_ground, .inl (cI, 36, .inl v_t_ground)), (q_t_windows, .inl (cI, 6, .inl v_t_windows)), (q_t_lawParts, .inl (cI, 18, .inl v_t_lawParts))] := hD
      refine lv_icmp_ge (tgt := 29) hx hb dX2_rocks_9 (by decide) (fun h_7 => ?_) (fun h_7 => ?_)
      · have hf := (if_pos h_7).symm.trans hf
        refine lv_iload_n hx hb dX2_rocks_29 rfl (lv_at hl 1 rfl) ?_
        have hf := Option.some.inj hf
        subst hf
        exact rt_i hx hb hr hlocks hK hP hS dX2_rocks_30
      · have hf := (if_neg h_7).symm.trans hf
        refine lv_aload_n hx hb dX2_rocks_12 rfl (lv_at hl 0 rfl) ?_
        refine lv_iload_n hx hb dX2_rocks_13 rfl (lv_at hl 2 rfl) ?_
        obtain ⟨z14_8, hz14_8, hf⟩ := bd_some hf
        refine cVi (rest := []) ⟨hx, hb, hml, hown, hts⟩ hE hK hP hD hS hA (c_X2_isRock l D cI cJ cZ en q_t q_t_ground q_t_windows q_t_lawParts H.size v_t_columns v_t_rows v_t_fade v_t_laws v_t_nightHours v_t_nightTimes v_t_ground v_t_windows v_t_lawParts x2_2 hz14_8) (gv_X2_isRock w_623) hd_X2_isRock ⟨rfl, rfl⟩ ⟨by decide, by decide⟩ [0, 1, 2, 3] (And.intro rfl (And.intro rfl (And.intro rfl (And.intro rfl trivial)))) rfl (And.intro rfl (And.intro rfl (And.intro rfl (And.intro rfl trivial)))) 2 rfl rfl 0 rfl  hl rfl (Nat.le_of_ble_eq_true rfl) ⟨Nat.zero_le _, Nat.zero_le _⟩ dX2_rocks_14 (fun H locs hP hD hS => ?_)
        have hP : va_P D vwCl [(q_t, .inr (2, [.int v_t_columns, .int v_t_rows, .int v_t_fade, .int v_t_laws, .int v_t_nightHours, .int v_t_nightTimes, .ref q_t_ground, .ref q_t_windows, .ref q_t_lawParts])), (q_t_ground, .inl (cI, 36, .inl v_t_ground)), (q_t_windows, .inl (cI, 6, .inl v_t_windows)), (q_t_lawParts, .inl (cI, 18, .inl v_t_lawParts))] H := hP
        have hD : va_D A [(q_t, .inr (2, [.int v_t_columns, .int v_t_rows, .int v_t_fade, .int v_t_laws, .int v_t_nightHours, .int v_t_nightTimes, .ref q_t_ground, .ref q_t_windows, .ref q_t_lawParts])), (q_t_ground, .inl (cI, 36, .inl v_t_ground)), (q_t_windows, .inl (cI, 6, .inl v_t_windows)), (q_t_lawParts, .inl (cI, 18, .inl v_t_lawParts))] := hD
        have J23_10 : ∀ (x1_9 : Int32), f_X2_rocks_J23 (f_X2_rocks_L4 v_t_columns v_t_rows v_t_ground n_5) x1_9 x2_2 = some z → ∀ (H : Heap) (locs : List Loc) (ls : Array Slot), va_P D vwCl [(q_t, .inr (2, [.int v_t_columns, .int v_t_rows, .int v_t_fade, .int v_t_laws, .int v_t_nightHours, .int v_t_nightTimes, .ref q_t_ground, .ref q_t_windows, .ref q_t_lawParts])), (q_t_ground, .inl (cI, 36, .inl v_t_ground)), (q_t_windows, .inl (cI, 6, .inl v_t_windows)), (q_t_lawParts, .inl (cI, 18, .inl v_t_lawParts))] H → va_D A [(q_t, .inr (2, [.int v_t_columns, .int v_t_rows, .int v_t_fade, .int v_t_laws, .int v_t_nightHours, .int v_t_nightTimes, .ref q_t_ground, .ref q_t_windows, .ref q_t_lawParts])), (q_t_ground, .inl (cI, 36, .inl v_t_ground)), (q_t_windows, .inl (cI, 6, .inl v_t_windows)), (q_t_lawParts, .inl (cI, 18, .inl v_t_lawParts))] → va_S A s.heap H locs → lv_has ls 3 [(0, .ref q_t), (1, .int x1_9), (2, .int x2_2)] → W p l e ({ frames := 2, cells := 0, slots := 0, locals := 42 } : Room) s m ([.ref q_t] : List Value).toArray below meth c H locs 0 0 (MQ below (QI D cI cJ cZ [(q_t, .inr (2, [.int v_t_columns, .int v_t_rows, .int v_t_fade, .int v_t_laws, .int v_t_nightHours, .int v_t_nightTimes, .ref q_t_ground, .ref q_t_windows, .ref q_t_lawParts])), (q_t_ground, .inl (cI, 36, .inl v_t_ground)), (q_t_windows, .inl (cI, 6, .inl v_t_windows)), (q_t_lawParts, .inl (cI, 18, .inl v_t_lawParts))] z A) ([.ref q_t] : List Value).toArray s 0 0 A) (F0 m 23 ls []) := by
          intro x1_9 hf H locs ls hP hD hS hl
          unfold f_X2_rocks_J23 at hf
          refine lv_iinc (v := (x2_2 + 1)) (lv' := [(2, .int (x2_2 + 1)), (0, .ref q_t), (1, .int x1_9)]) hx hb dX2_rocks_23 hl (k := 2) rfl rfl (by decide) rfl (fun ls hl => ?_)
          refine lv_goto (tgt := 4) hx hb dX2_rocks_26 (by decide) ?_
          exact ih_4 x1_9 (x2_2 + 1) hf _ _ _ hP hD hS (lv_sub hl [1, 2, 0] rfl)
        refine lv_if_eq (tgt := 23) hx hb dX2_rocks_17 (by decide) (fun h_11 => ?_) (fun h_11 => ?_)
        · have hf := (if_pos h_11).symm.trans hf
          exact J23_10 x1_1 hf _ _ _ hP hD hS (lv_sub hl [0, 1, 2] rfl)
        · have hf := (if_neg h_11).symm.trans hf
          refine lv_iinc (v := (x1_1 + 1)) (lv' := [(1, .int (x1_1 + 1)), (0, .ref q_t), (2, .int x2_2)]) hx hb dX2_rocks_20 hl (k := 1) rfl rfl (by decide) rfl (fun ls hl => ?_)
          exact J23_10 (x1_1 + 1) hf _ _ _ hP hD hS (lv_sub hl [1, 0, 2] rfl)
  exact L4_3 FU 0 0 hf _ _ _ hP hD hS (lv_sub hl [2, 1, 0] rfl)

def f_X2_putFloor (v_t_columns : Int32) (v_t_rows : Int32) (v_t_ground : Nat → Int32) (x1 : Int32) : Option ((Nat → Int32)) :=
  (f_X2_has v_t_columns v_t_rows x1).bind (fun z2 => (if z2 = 0 then (some v_t_ground) else gd (ib x1 36) ((some (upd v_t_ground (Int32.toNatClampNeg x1) (-1))))))
theorem gv_X2_putFloor {own : String} {idx : Nat} (h : Cond.methodLink own idx yX2_putFloor ∈ lw_g) : GoodIn lw_g (wsV own idx RX2 yX2_putFloor (Cond.code yX2_putFloor cX2_putFloor 2 none :: lw_g)) := gV h w_481 w_482 w_60 w_483
theorem hd_X2_putFloor : yX2_putFloor.cls = RX2 ∧ yX2_putFloor.cls ≠ "java/lang/invoke/MethodHandle" ∧ yX2_putFloor.cls ≠ "java/lang/invoke/VarHandle" ∧ (parseMethodDescriptor yX2_putFloor.desc).map (fun d => d.parameters.length) = some 1 := by decide +kernel
set_option maxHeartbeats 4000000 in
set_option maxRecDepth 100000 in
theorem c_X2_putFloor (l : Launch) (D : va_G) (cI cJ cZ : ClassId) (en : EnT) (q_t q_t_ground q_t_windows q_t_lawParts : Nat) (sz : Nat) (v_t_columns : Int32) (v_t_rows : Int32) (v_t_fade : Int32) (v_t_laws : Int32) (v_t_nightHours : Int32) (v_t_nightTimes : Int32) (v_t_ground : Nat → Int32) (v_t_windows : Nat → Int32) (v_t_lawParts : Nat → Int32) (x1 : Int32) {z : (Nat → Int32)} (hf : f_X2_putFloor v_t_columns v_t_rows v_t_ground x1 = some z) : Met l yX2_putFloor (Cond.code yX2_putFloor cX2_putFloor 2 none :: lw_g) ({ frames := 1, cells := 0, slots := 0, locals := 21 } : Room) (PC D cI cJ cZ en ([.ref q_t, .int x1] : List Value) [(q_t, .inr (2, [.int v_t_columns, .int v_t_rows, .int v_t_fade, .int v_t_laws, .int v_t_nightHours, .int v_t_nightTimes, .ref q_t_ground, .ref q_t_windows, .ref q_t_lawParts])), (q_t_ground, .inl (cI, 36, .inl v_t_ground)), (q_t_windows, .inl (cI, 6, .inl v_t_windows)), (q_t_lawParts, .inl (cI, 18, .inl v_t_lawParts))] sz) (QV D cI cJ cZ [(q_t, .inr (2, [.int v_t_columns, .int v_t_rows, .int v_t_fade, .int v_t_laws, .int v_t_nightHours, .int v_t_nightTimes, .ref q_t_ground, .ref q_t_windows, .ref q_t_lawParts])), (q_t_ground, .inl (cI, 36, .inl z)), (q_t_windows, .inl (cI, 6, .inl v_t_windows)), (q_t_lawParts, .inl (cI, 18, .inl v_t_lawParts))] (va_A [(q_t, .inr (2, [.int v_t_columns, .int v_t_rows, .int v_t_fade, .int v_t_laws, .int v_t_nightHours, .int v_t_nightTimes, .ref q_t_ground, .ref q_t_windows, .ref q_t_lawParts])), (q_t_ground, .inl (cI, 36, .inl v_t_ground)), (q_t_windows, .inl (cI, 6, .inl v_t_windows)), (q_t_lawParts, .inl (cI, 18, .inl v_t_lawParts))] sz)) 0 0 (va_A [(q_t, .inr (2, [.int v_t_columns, .int v_t_rows, .int v_t_fade, .int v_t_laws, .int v_t_nightHours, .int v_t_nightTimes, .ref q_t_ground, .ref q_t_windows, .ref q_t_lawParts])), (q_t_ground, .inl (cI, 36, .inl v_t_ground)), (q_t_windows, .inl (cI, 6, .inl v_t_windows)), (q_t_lawParts, .inl (cI, 18, .inl v_t_lawParts))] sz) := by
  refine mk_met (Qc := fun A => (QV D cI cJ cZ [(q_t, .inr (2, [.int v_t_columns, .int v_t_rows, .int v_t_fade, .int v_t_laws, .int v_t_nightHours, .int v_t_nightTimes, .ref q_t_ground, .ref q_t_windows, .ref q_t_lawParts])), (q_t_ground, .inl (cI, 36, .inl z)), (q_t_windows, .inl (cI, 6, .inl v_t_windows)), (q_t_lawParts, .inl (cI, 18, .inl v_t_lawParts))] A)) RX2 (by decide) rfl (Nat.le_of_ble_eq_true rfl) ?_
  intro p e s m below meth c ls A hx hb hr hml hown hts hlocks hA hK hE hl hD H locs hP hS
  have hl : lv_has ls 2 [(0, .ref q_t), (1, .int x1)] := hl
  unfold f_X2_putFloor at hf
  refine lv_aload_n hx hb dX2_putFloor_0 rfl (lv_at hl 0 rfl) ?_
  refine lv_iload_n hx hb dX2_putFloor_1 rfl (lv_at hl 1 rfl) ?_
  obtain ⟨z2_1, hz2_1, hf⟩ := bd_some hf
  refine cVi (rest := []) ⟨hx, hb, hml, hown, hts⟩ hE hK hP hD hS hA (c_X2_has l D cI cJ cZ en q_t q_t_ground q_t_windows q_t_lawParts H.size v_t_columns v_t_rows v_t_fade v_t_laws v_t_nightHours v_t_nightTimes v_t_ground v_t_windows v_t_lawParts x1 hz2_1) (gv_X2_has w_464) hd_X2_has ⟨rfl, rfl⟩ ⟨by decide, by decide⟩ [0, 1, 2, 3] (And.intro rfl (And.intro rfl (And.intro rfl (And.intro rfl trivial)))) rfl (And.intro rfl (And.intro rfl (And.intro rfl (And.intro rfl trivial)))) 2 rfl rfl 0 rfl  hl rfl (Nat.le_of_ble_eq_true rfl) ⟨Nat.zero_le _, Nat.zero_le _⟩ dX2_putFloor_2 (fun H locs hP hD hS => ?_)
  have hP : va_P D vwCl [(q_t, .inr (2, [.int v_t_columns, .int v_t_rows, .int v_t_fade, .int v_t_laws, .int v_t_nightHours, .int v_t_nightTimes, .ref q_t_ground, .ref q_t_windows, .ref q_t_lawParts])), (q_t_ground, .inl (cI, 36, .inl v_t_ground)), (q_t_windows, .inl (cI, 6, .inl v_t_windows)), (q_t_lawParts, .inl (cI, 18, .inl v_t_lawParts))] H := hP
  have hD : va_D A [(q_t, .inr (2, [.int v_t_columns, .int v_t_rows, .int v_t_fade, .int v_t_laws, .int v_t_nightHours, .int v_t_nightTimes, .ref q_t_ground, .ref q_t_windows, .ref q_t_lawParts])), (q_t_ground, .inl (cI, 36, .inl v_t_ground)), (q_t_windows, .inl (cI, 6, .inl v_t_windows)), (q_t_lawParts, .inl (cI, 18, .inl v_t_lawParts))] := hD
  refine lv_if_eq (tgt := 15) hx hb dX2_putFloor_5 (by decide) (fun h_2 => ?_) (fun h_2 => ?_)
  · have hf := (if_pos h_2).symm.trans hf
    have hf := Option.some.inj hf
    subst hf
    exact rt_v hx hb hr hlocks hK hP hS dX2_putFloor_15
  · have hf := (if_neg h_2).symm.trans hf
    refine lv_aload_n hx hb dX2_putFloor_8 rfl (lv_at hl 0 rfl) ?_
    refine va_get (D := D) (ci := 2) (v := .ref q_t_ground) (C := RX2) (T := TX2) (N := 9) hx hb hts inX2 hown hK hP 0 rfl rfl 6 (by decide) (hts _ w_150) (fun _ h9 => h9) rfl dX2_putFloor_9 ?_
    refine lv_iload_n hx hb dX2_putFloor_12 rfl (lv_at hl 1 rfl) ?_
    refine lv_iconst (v := (-1)) hx hb dX2_putFloor_13 (by decide) ?_
    obtain ⟨hin, hf⟩ := gd_some hf
    refine va_iast hx hb hK hP hD hS 1 0 rfl rfl hin dX2_putFloor_14 (fun H locs hP hD hS => ?_)
    have hP : va_P D vwCl [(q_t, .inr (2, [.int v_t_columns, .int v_t_rows, .int v_t_fade, .int v_t_laws, .int v_t_nightHours, .int v_t_nightTimes, .ref q_t_ground, .ref q_t_windows, .ref q_t_lawParts])), (q_t_ground, .inl (cI, 36, .inl (upd v_t_ground (Int32.toNatClampNeg x1) (-1)))), (q_t_windows, .inl (cI, 6, .inl v_t_windows)), (q_t_lawParts, .inl (cI, 18, .inl v_t_lawParts))] H := hP
    have hD : va_D A [(q_t, .inr (2, [.int v_t_columns, .int v_t_rows, .int v_t_fade, .int v_t_laws, .int v_t_nightHours, .int v_t_nightTimes, .ref q_t_ground, .ref q_t_windows, .ref q_t_lawParts])), (q_t_ground, .inl (cI, 36, .inl (upd v_t_ground (Int32.toNatClampNeg x1) (-1)))), (q_t_windows, .inl (cI, 6, .inl v_t_windows)), (q_t_lawParts, .inl (cI, 18, .inl v_t_lawParts))] := hD
    have hf := Option.some.inj hf
    subst hf
    exact rt_v hx hb hr hlocks hK hP hS dX2_putFloor_15

def f_X2_putRock_J41 (rc18 : (Int32) → (Nat → Int32) → Option ((Nat → Int32) × (Nat → Int32))) (v_t_windows : Nat → Int32) (x3 : Int32) : Option ((Nat → Int32) × (Nat → Int32)) :=
  (rc18 (x3 + 1) v_t_windows)
def f_X2_putRock_L18 (v_t_ground : Nat → Int32) (x1 : Int32) : Nat → (Int32) → (Nat → Int32) → Option ((Nat → Int32) × (Nat → Int32))
  | 0, _, _ => none
  | n + 1, x3, v_t_windows => (if 6 ≤ x3 then (some (v_t_ground, v_t_windows)) else gd (ib x3 6) ((if (v_t_windows (Int32.toNatClampNeg x3)) = x1 then gd (ib x3 6) ((f_X2_putRock_J41 (f_X2_putRock_L18 v_t_ground x1 n) (upd v_t_windows (Int32.toNatClampNeg x3) (-1)) x3)) else (f_X2_putRock_J41 (f_X2_putRock_L18 v_t_ground x1 n) v_t_windows x3))))
def f_X2_putRock (v_t_columns : Int32) (v_t_rows : Int32) (v_t_ground : Nat → Int32) (v_t_windows : Nat → Int32) (x1 : Int32) (x2 : Int32) : Option ((Nat → Int32) × (Nat → Int32)) :=
  (f_X2_has v_t_columns v_t_rows x1).bind (fun z2 => (if z2 = 0 then (some (v_t_ground, v_t_windows)) else gd (ib x1 36) ((f_X2_putRock_L18 (upd v_t_ground (Int32.toNatClampNeg x1) x2) x1 FU 0 v_t_windows))))
theorem gv_X2_putRock {own : String} {idx : Nat} (h : Cond.methodLink own idx yX2_putRock ∈ lw_g) : GoodIn lw_g (wsV own idx RX2 yX2_putRock (Cond.code yX2_putRock cX2_putRock 4 none :: lw_g)) := gV h w_477 w_478 w_60 w_479
theorem hd_X2_putRock : yX2_putRock.cls = RX2 ∧ yX2_putRock.cls ≠ "java/lang/invoke/MethodHandle" ∧ yX2_putRock.cls ≠ "java/lang/invoke/VarHandle" ∧ (parseMethodDescriptor yX2_putRock.desc).map (fun d => d.parameters.length) = some 2 := by decide +kernel
set_option maxHeartbeats 4000000 in
set_option maxRecDepth 100000 in
theorem c_X2_putRock (l : Launch) (D : va_G) (cI cJ cZ : ClassId) (en : EnT) (q_t q_t_ground q_t_windows q_t_lawParts : Nat) (sz : Nat) (v_t_columns : Int32) (v_t_rows : Int32) (v_t_fade : Int32) (v_t_laws : Int32) (v_t_nightHours : Int32) (v_t_nightTimes : Int32) (v_t_ground : Nat → Int32) (v_t_windows : Nat → Int32) (v_t_lawParts : Nat → Int32) (x1 : Int32) (x2 : Int32) {z : (Nat → Int32) × (Nat → Int32)} (hf : f_X2_putRock v_t_columns v_t_rows v_t_ground v_t_windows x1 x2 = some z) : Met l yX2_putRock (Cond.code yX2_putRock cX2_putRock 4 none :: lw_g) ({ frames := 1, cells := 0, slots := 0, locals := 21 } : Room) (PC D cI cJ cZ en ([.ref q_t, .int x1, .int x2] : List Value) [(q_t, .inr (2, [.int v_t_columns, .int v_t_rows, .int v_t_fade, .int v_t_laws, .int v_t_nightHours, .int v_t_nightTimes, .ref q_t_ground, .ref q_t_windows, .ref q_t_lawParts])), (q_t_ground, .inl (cI, 36, .inl v_t_ground)), (q_t_windows, .inl (cI, 6, .inl v_t_windows)), (q_t_lawParts, .inl (cI, 18, .inl v_t_lawParts))] sz) (QV D cI cJ cZ [(q_t, .inr (2, [.int v_t_columns, .int v_t_rows, .int v_t_fade, .int v_t_laws, .int v_t_nightHours, .int v_t_nightTimes, .ref q_t_ground, .ref q_t_windows, .ref q_t_lawParts])), (q_t_ground, .inl (cI, 36, .inl z.1)), (q_t_windows, .inl (cI, 6, .inl z.2)), (q_t_lawParts, .inl (cI, 18, .inl v_t_lawParts))] (va_A [(q_t, .inr (2, [.int v_t_columns, .int v_t_rows, .int v_t_fade, .int v_t_laws, .int v_t_nightHours, .int v_t_nightTimes, .ref q_t_ground, .ref q_t_windows, .ref q_t_lawParts])), (q_t_ground, .inl (cI, 36, .inl v_t_ground)), (q_t_windows, .inl (cI, 6, .inl v_t_windows)), (q_t_lawParts, .inl (cI, 18, .inl v_t_lawParts))] sz)) 0 0 (va_A [(q_t, .inr (2, [.int v_t_columns, .int v_t_rows, .int v_t_fade, .int v_t_laws, .int v_t_nightHours, .int v_t_nightTimes, .ref q_t_ground, .ref q_t_windows, .ref q_t_lawParts])), (q_t_ground, .inl (cI, 36, .inl v_t_ground)), (q_t_windows, .inl (cI, 6, .inl v_t_windows)), (q_t_lawParts, .inl (cI, 18, .inl v_t_lawParts))] sz) := by
  refine mk_met (Qc := fun A => (QV D cI cJ cZ [(q_t, .inr (2, [.int v_t_columns, .int v_t_rows, .int v_t_fade, .int v_t_laws, .int v_t_nightHours, .int v_t_nightTimes, .ref q_t_ground, .ref q_t_windows, .ref q_t_lawParts])), (q_t_ground, .inl (cI, 36, .inl z.1)), (q_t_windows, .inl (cI, 6, .inl z.2)), (q_t_lawParts, .inl (cI, 18, .inl v_t_lawParts))] A)) RX2 (by decide) rfl (Nat.le_of_ble_eq_true rfl) ?_
  intro p e s m below meth c ls A hx hb hr hml hown hts hlocks hA hK hE hl hD H locs hP hS
  have hl : lv_has ls 4 [(0, .ref q_t), (1, .int x1), (2, .int x2)] := hl
  unfold f_X2_putRock at hf
  refine lv_aload_n hx hb dX2_putRock_0 rfl (lv_at hl 0 rfl) ?_
  refine lv_iload_n hx hb dX2_putRock_1 rfl (lv_at hl 1 rfl) ?_
  obtain ⟨z2_1, hz2_1, hf⟩ := bd_some hf
  refine cVi (rest := []) ⟨hx, hb, hml, hown, hts⟩ hE hK hP hD hS hA (c_X2_has l D cI cJ cZ en q_t q_t_ground q_t_windows q_t_lawParts H.size v_t_columns v_t_rows v_t_fade v_t_laws v_t_nightHours v_t_nightTimes v_t_ground v_t_windows v_t_lawParts x1 hz2_1) (gv_X2_has w_464) hd_X2_has ⟨rfl, rfl⟩ ⟨by decide, by decide⟩ [0, 1, 2, 3] (And.intro rfl (And.intro rfl (And.intro rfl (And.intro rfl trivial)))) rfl (And.intro rfl (And.intro rfl (And.intro rfl (And.intro rfl trivial)))) 2 rfl rfl 0 rfl  hl rfl (Nat.le_of_ble_eq_true rfl) ⟨Nat.zero_le _, Nat.zero_le _⟩ dX2_putRock_2 (fun H locs hP hD hS => ?_)
  have hP : va_P D vwCl [(q_t, .inr (2, [.int v_t_columns, .int v_t_rows, .int v_t_fade, .int v_t_laws, .int v_t_nightHours, .int v_t_nightTimes, .ref q_t_ground, .ref q_t_windows, .ref q_t_lawParts])), (q_t_ground, .inl (cI, 36, .inl v_t_ground)), (q_t_windows, .inl (cI, 6, .inl v_t_windows)), (q_t_lawParts, .inl (cI, 18, .inl v_t_lawParts))] H := hP
  have hD : va_D A [(q_t, .inr (2, [.int v_t_columns, .int v_t_rows, .int v_t_fade, .int v_t_laws, .int v_t_nightHours, .int v_t_nightTimes, .ref q_t_ground, .ref q_t_windows, .ref q_t_lawParts])), (q_t_ground, .inl (cI, 36, .inl v_t_ground)), (q_t_windows, .inl (cI, 6, .inl v_t_windows)), (q_t_lawParts, .inl (cI, 18, .inl v_t_lawParts))] := hD
  refine lv_if_ne (tgt := 9) hx hb dX2_putRock_5 (by decide) (fun h_2 => ?_) (fun h_2 => ?_)
  · have hf := (if_neg h_2).symm.trans hf
    refine lv_aload_n hx hb dX2_putRock_9 rfl (lv_at hl 0 rfl) ?_
    refine va_get (D := D) (ci := 2) (v := .ref q_t_ground) (C := RX2) (T := TX2) (N := 9) hx hb hts inX2 hown hK hP 0 rfl rfl 6 (by decide) (hts _ w_150) (fun _ h9 => h9) rfl dX2_putRock_10 ?_
    refine lv_iload_n hx hb dX2_putRock_13 rfl (lv_at hl 1 rfl) ?_
    refine lv_iload_n hx hb dX2_putRock_14 rfl (lv_at hl 2 rfl) ?_
    obtain ⟨hin, hf⟩ := gd_some hf
    refine va_iast hx hb hK hP hD hS 1 0 rfl rfl hin dX2_putRock_15 (fun H locs hP hD hS => ?_)
    have hP : va_P D vwCl [(q_t, .inr (2, [.int v_t_columns, .int v_t_rows, .int v_t_fade, .int v_t_laws, .int v_t_nightHours, .int v_t_nightTimes, .ref q_t_ground, .ref q_t_windows, .ref q_t_lawParts])), (q_t_ground, .inl (cI, 36, .inl (upd v_t_ground (Int32.toNatClampNeg x1) x2))), (q_t_windows, .inl (cI, 6, .inl v_t_windows)), (q_t_lawParts, .inl (cI, 18, .inl v_t_lawParts))] H := hP
    have hD : va_D A [(q_t, .inr (2, [.int v_t_columns, .int v_t_rows, .int v_t_fade, .int v_t_laws, .int v_t_nightHours, .int v_t_nightTimes, .ref q_t_ground, .ref q_t_windows, .ref q_t_lawParts])), (q_t_ground, .inl (cI, 36, .inl (upd v_t_ground (Int32.toNatClampNeg x1) x2))), (q_t_windows, .inl (cI, 6, .inl v_t_windows)), (q_t_lawParts, .inl (cI, 18, .inl v_t_lawParts))] := hD
    refine lv_iconst (v := 0) hx hb dX2_putRock_16 (by decide) ?_
    refine lv_istore_n (lv' := [(3, .int 0), (0, .ref q_t), (1, .int x1), (2, .int x2)]) hx hb dX2_putRock_17 rfl hl (by decide) rfl (fun ls hl => ?_)
    have L18_5 : ∀ (n_7 : Nat) (x3_3 : Int32) (v_t_windows_4 : Nat → Int32), f_X2_putRock_L18 (upd v_t_ground (Int32.toNatClampNeg x1) x2) x1 n_7 x3_3 v_t_windows_4 = some z → ∀ (H : Heap) (locs : List Loc) (ls : Array Slot), va_P D vwCl [(q_t, .inr (2, [.int v_t_columns, .int v_t_rows, .int v_t_fade, .int v_t_laws, .int v_t_nightHours, .int v_t_nightTimes, .ref q_t_ground, .ref q_t_windows, .ref q_t_lawParts])), (q_t_ground, .inl (cI, 36, .inl (upd v_t_ground (Int32.toNatClampNeg x1) x2))), (q_t_windows, .inl (cI, 6, .inl v_t_windows_4)), (q_t_lawParts, .inl (cI, 18, .inl v_t_lawParts))] H → va_D A [(q_t, .inr (2, [.int v_t_columns, .int v_t_rows, .int v_t_fade, .int v_t_laws, .int v_t_nightHours, .int v_t_nightTimes, .ref q_t_ground, .ref q_t_windows, .ref q_t_lawParts])), (q_t_ground, .inl (cI, 36, .inl (upd v_t_ground (Int32.toNatClampNeg x1) x2))), (q_t_windows, .inl (cI, 6, .inl v_t_windows_4)), (q_t_lawParts, .inl (cI, 18, .inl v_t_lawParts))] → va_S A s.heap H locs → lv_has ls 4 [(0, .ref q_t), (1, .int x1), (3, .int x3_3)] → W p l e ({ frames := 1, cells := 0, slots := 0, locals := 21 } : Room) s m ([.ref q_t, .int x1, .int x2] : List Value).toArray below meth c H locs 0 0 (MQ below (QV D cI cJ cZ [(q_t, .inr (2, [.int v_t_columns, .int v_t_rows, .int v_t_fade, .int v_t_laws, .int v_t_nightHours, .int v_t_nightTimes, .ref q_t_ground, .ref q_t_windows, .ref q_t_lawParts])), (q_t_ground, .inl (cI, 36, .inl z.1)), (q_t_windows, .inl (cI, 6, .inl z.2)), (q_t_lawParts, .inl (cI, 18, .inl v_t_lawParts))] A) ([.ref q_t, .int x1, .int x2] : List Value).toArray s 0 0 A) (F0 m 18 ls []) := by
      intro n_7
      induction n_7 with
      | zero =>
        intro x3_3 v_t_windows_4 hf
        cases hf
      | succ n_7 ih_6 =>
        intro x3_3 v_t_windows_4 hf H locs ls hP hD hS hl
        rw [f_X2_putRock_L18] at hf
        refine lv_iload_n hx hb dX2_putRock_18 rfl (lv_at hl 2 rfl) ?_
        refine lv_bipush (v := 6) hx hb dX2_putRock_19 (by decide) ?_
        refine lv_icmp_ge (tgt := 47) hx hb dX2_putRock_21 (by decide) (fun h_8 => ?_) (fun h_8 => ?_)
        · have hf := (if_pos h_8).symm.trans hf
          have hf := Option.some.inj hf
          subst hf
          exact rt_v hx hb hr hlocks hK hP hS dX2_putRock_47
        · have hf := (if_neg h_8).symm.trans hf
          refine lv_aload_n hx hb dX2_putRock_24 rfl (lv_at hl 0 rfl) ?_
          refine va_get (D := D) (ci := 2) (v := .ref q_t_windows) (C := RX2) (T := TX2) (N := 9) hx hb hts inX2 hown hK hP 0 rfl rfl 7 (by decide) (hts _ w_151) (fun _ h9 => h9) rfl dX2_putRock_25 ?_
          refine lv_iload_n hx hb dX2_putRock_28 rfl (lv_at hl 2 rfl) ?_
          obtain ⟨hin, hf⟩ := gd_some hf
          refine va_iald hx hb hK hP 2 0 rfl rfl hin dX2_putRock_29 ?_
          refine lv_iload_n hx hb dX2_putRock_30 rfl (lv_at hl 1 rfl) ?_
          have J41_10 : ∀ (v_t_windows_9 : Nat → Int32), f_X2_putRock_J41 (f_X2_putRock_L18 (upd v_t_ground (Int32.toNatClampNeg x1) x2) x1 n_7) v_t_windows_9 x3_3 = some z → ∀ (H : Heap) (locs : List Loc) (ls : Array Slot), va_P D vwCl [(q_t, .inr (2, [.int v_t_columns, .int v_t_rows, .int v_t_fade, .int v_t_laws, .int v_t_nightHours, .int v_t_nightTimes, .ref q_t_ground, .ref q_t_windows, .ref q_t_lawParts])), (q_t_ground, .inl (cI, 36, .inl (upd v_t_ground (Int32.toNatClampNeg x1) x2))), (q_t_windows, .inl (cI, 6, .inl v_t_windows_9)), (q_t_lawParts, .inl (cI, 18, .inl v_t_lawParts))] H → va_D A [(q_t, .inr (2, [.int v_t_columns, .int v_t_rows, .int v_t_fade, .int v_t_laws, .int v_t_nightHours, .int v_t_nightTimes, .ref q_t_ground, .ref q_t_windows, .ref q_t_lawParts])), (q_t_ground, .inl (cI, 36, .inl (upd v_t_ground (Int32.toNatClampNeg x1) x2))), (q_t_windows, .inl (cI, 6, .inl v_t_windows_9)), (q_t_lawParts, .inl (cI, 18, .inl v_t_lawParts))] → va_S A s.heap H locs → lv_has ls 4 [(0, .ref q_t), (1, .int x1), (3, .int x3_3)] → W p l e ({ frames := 1, cells := 0, slots := 0, locals := 21 } : Room) s m ([.ref q_t, .int x1, .int x2] : List Value).toArray below meth c H locs 0 0 (MQ below (QV D cI cJ cZ [(q_t, .inr (2, [.int v_t_columns, .int v_t_rows, .int v_t_fade, .int v_t_laws, .int v_t_nightHours, .int v_t_nightTimes, .ref q_t_ground, .ref q_t_windows, .ref q_t_lawParts])), (q_t_ground, .inl (cI, 36, .inl z.1)), (q_t_windows, .inl (cI, 6, .inl z.2)), (q_t_lawParts, .inl (cI, 18, .inl v_t_lawParts))] A) ([.ref q_t, .int x1, .int x2] : List Value).toArray s 0 0 A) (F0 m 41 ls []) := by
            intro v_t_windows_9 hf H locs ls hP hD hS hl
            unfold f_X2_putRock_J41 at hf
            refine lv_iinc (v := (x3_3 + 1)) (lv' := [(3, .int (x3_3 + 1)), (0, .ref q_t), (1, .int x1)]) hx hb dX2_putRock_41 hl (k := 2) rfl rfl (by decide) rfl (fun ls hl => ?_)
            refine lv_goto (tgt := 18) hx hb dX2_putRock_44 (by decide) ?_
            exact ih_6 (x3_3 + 1) v_t_windows_9 hf _ _ _ hP hD hS (lv_sub hl [1, 2, 0] rfl)
          refine lv_icmp_ne (tgt := 41) hx hb dX2_putRock_31 (by decide) (fun h_11 => ?_) (fun h_11 => ?_)
          · have hf := (if_neg h_11).symm.trans hf
            exact J41_10 v_t_windows_4 hf _ _ _ hP hD hS (lv_sub hl [0, 1, 2] rfl)
          · have hf := (if_pos h_11).symm.trans hf
            refine lv_aload_n hx hb dX2_putRock_34 rfl (lv_at hl 0 rfl) ?_
            refine va_get (D := D) (ci := 2) (v := .ref q_t_windows) (C := RX2) (T := TX2) (N := 9) hx hb hts inX2 hown hK hP 0 rfl rfl 7 (by decide) (hts _ w_151) (fun _ h9 => h9) rfl dX2_putRock_35 ?_
            refine lv_iload_n hx hb dX2_putRock_38 rfl (lv_at hl 2 rfl) ?_
            refine lv_iconst (v := (-1)) hx hb dX2_putRock_39 (by decide) ?_
            obtain ⟨hin, hf⟩ := gd_some hf
            refine va_iast hx hb hK hP hD hS 2 0 rfl rfl hin dX2_putRock_40 (fun H locs hP hD hS => ?_)
            have hP : va_P D vwCl [(q_t, .inr (2, [.int v_t_columns, .int v_t_rows, .int v_t_fade, .int v_t_laws, .int v_t_nightHours, .int v_t_nightTimes, .ref q_t_ground, .ref q_t_windows, .ref q_t_lawParts])), (q_t_ground, .inl (cI, 36, .inl (upd v_t_ground (Int32.toNatClampNeg x1) x2))), (q_t_windows, .inl (cI, 6, .inl (upd v_t_windows_4 (Int32.toNatClampNeg x3_3) (-1)))), (q_t_lawParts, .inl (cI, 18, .inl v_t_lawParts))] H := hP
            have hD : va_D A [(q_t, .inr (2, [.int v_t_columns, .int v_t_rows, .int v_t_fade, .int v_t_laws, .int v_t_nightHours, .int v_t_nightTimes, .ref q_t_ground, .ref q_t_windows, .ref q_t_lawParts])), (q_t_ground, .inl (cI, 36, .inl (upd v_t_ground (Int32.toNatClampNeg x1) x2))), (q_t_windows, .inl (cI, 6, .inl (upd v_t_windows_4 (Int32.toNatClampNeg x3_3) (-1)))), (q_t_lawParts, .inl (cI, 18, .inl v_t_lawParts))] := hD
            exact J41_10 (upd v_t_windows_4 (Int32.toNatClampNeg x3_3) (-1)) hf _ _ _ hP hD hS (lv_sub hl [0, 1, 2] rfl)
    exact L18_5 FU 0 v_t_windows hf _ _ _ hP hD hS (lv_sub hl [1, 2, 0] rfl)
  · have hf := (if_pos h_2).symm.trans hf
    have hf := Option.some.inj hf
    subst hf
    exact rt_v hx hb hr hlocks hK hP hS dX2_putRock_8

def f_X2_flip (v_t_columns : Int32) (v_t_rows : Int32) (v_t_ground : Nat → Int32) (v_t_windows : Nat → Int32) (x1 : Int32) : Option ((Nat → Int32) × (Nat → Int32)) :=
  (f_X2_isRock v_t_columns v_t_rows v_t_ground x1).bind (fun z2 => (if z2 = 0 then (f_X2_putRock v_t_columns v_t_rows v_t_ground v_t_windows x1 0).bind (fun z19 => (some (z19.1, z19.2))) else (f_X2_putFloor v_t_columns v_t_rows v_t_ground x1).bind (fun z10 => (some (z10, v_t_windows)))))
theorem gv_X2_flip {own : String} {idx : Nat} (h : Cond.methodLink own idx yX2_flip ∈ lw_g) : GoodIn lw_g (wsV own idx RX2 yX2_flip (Cond.code yX2_flip cX2_flip 2 none :: lw_g)) := gV h w_758 w_759 w_60 w_760
theorem hd_X2_flip : yX2_flip.cls = RX2 ∧ yX2_flip.cls ≠ "java/lang/invoke/MethodHandle" ∧ yX2_flip.cls ≠ "java/lang/invoke/VarHandle" ∧ (parseMethodDescriptor yX2_flip.desc).map (fun d => d.parameters.length) = some 1 := by decide +kernel
set_option maxHeartbeats 4000000 in
set_option maxRecDepth 100000 in
theorem c_X2_flip (l : Launch) (D : va_G) (cI cJ cZ : ClassId) (en : EnT) (q_t q_t_ground q_t_windows q_t_lawParts : Nat) (sz : Nat) (v_t_columns : Int32) (v_t_rows : Int32) (v_t_fade : Int32) (v_t_laws : Int32) (v_t_nightHours : Int32) (v_t_nightTimes : Int32) (v_t_ground : Nat → Int32) (v_t_windows : Nat → Int32) (v_t_lawParts : Nat → Int32) (x1 : Int32) {z : (Nat → Int32) × (Nat → Int32)} (hf : f_X2_flip v_t_columns v_t_rows v_t_ground v_t_windows x1 = some z) : Met l yX2_flip (Cond.code yX2_flip cX2_flip 2 none :: lw_g) ({ frames := 2, cells := 0, slots := 0, locals := 44 } : Room) (PC D cI cJ cZ en ([.ref q_t, .int x1] : List Value) [(q_t, .inr (2, [.int v_t_columns, .int v_t_rows, .int v_t_fade, .int v_t_laws, .int v_t_nightHours, .int v_t_nightTimes, .ref q_t_ground, .ref q_t_windows, .ref q_t_lawParts])), (q_t_ground, .inl (cI, 36, .inl v_t_ground)), (q_t_windows, .inl (cI, 6, .inl v_t_windows)), (q_t_lawParts, .inl (cI, 18, .inl v_t_lawParts))] sz) (QV D cI cJ cZ [(q_t, .inr (2, [.int v_t_columns, .int v_t_rows, .int v_t_fade, .int v_t_laws, .int v_t_nightHours, .int v_t_nightTimes, .ref q_t_ground, .ref q_t_windows, .ref q_t_lawParts])), (q_t_ground, .inl (cI, 36, .inl z.1)), (q_t_windows, .inl (cI, 6, .inl z.2)), (q_t_lawParts, .inl (cI, 18, .inl v_t_lawParts))] (va_A [(q_t, .inr (2, [.int v_t_columns, .int v_t_rows, .int v_t_fade, .int v_t_laws, .int v_t_nightHours, .int v_t_nightTimes, .ref q_t_ground, .ref q_t_windows, .ref q_t_lawParts])), (q_t_ground, .inl (cI, 36, .inl v_t_ground)), (q_t_windows, .inl (cI, 6, .inl v_t_windows)), (q_t_lawParts, .inl (cI, 18, .inl v_t_lawParts))] sz)) 0 0 (va_A [(q_t, .inr (2, [.int v_t_columns, .int v_t_rows, .int v_t_fade, .int v_t_laws, .int v_t_nightHours, .int v_t_nightTimes, .ref q_t_ground, .ref q_t_windows, .ref q_t_lawParts])), (q_t_ground, .inl (cI, 36, .inl v_t_ground)), (q_t_windows, .inl (cI, 6, .inl v_t_windows)), (q_t_lawParts, .inl (cI, 18, .inl v_t_lawParts))] sz) := by
  refine mk_met (Qc := fun A => (QV D cI cJ cZ [(q_t, .inr (2, [.int v_t_columns, .int v_t_rows, .int v_t_fade, .int v_t_laws, .int v_t_nightHours, .int v_t_nightTimes, .ref q_t_ground, .ref q_t_windows, .ref q_t_lawParts])), (q_t_ground, .inl (cI, 36, .inl z.1)), (q_t_windows, .inl (cI, 6, .inl z.2)), (q_t_lawParts, .inl (cI, 18, .inl v_t_lawParts))] A)) RX2 (by decide) rfl (Nat.le_of_ble_eq_true rfl) ?_
  intro p e s m below meth c ls A hx hb hr hml hown hts hlocks hA hK hE hl hD H locs hP hS
  have hl : lv_has ls 2 [(0, .ref q_t), (1, .int x1)] := hl
  unfold f_X2_flip at hf
  refine lv_aload_n hx hb dX2_flip_0 rfl (lv_at hl 0 rfl) ?_
  refine lv_iload_n hx hb dX2_flip_1 rfl (lv_at hl 1 rfl) ?_
  obtain ⟨z2_1, hz2_1, hf⟩ := bd_some hf
  refine cVi (rest := []) ⟨hx, hb, hml, hown, hts⟩ hE hK hP hD hS hA (c_X2_isRock l D cI cJ cZ en q_t q_t_ground q_t_windows q_t_lawParts H.size v_t_columns v_t_rows v_t_fade v_t_laws v_t_nightHours v_t_nightTimes v_t_ground v_t_windows v_t_lawParts x1 hz2_1) (gv_X2_isRock w_623) hd_X2_isRock ⟨rfl, rfl⟩ ⟨by decide, by decide⟩ [0, 1, 2, 3] (And.intro rfl (And.intro rfl (And.intro rfl (And.intro rfl trivial)))) rfl (And.intro rfl (And.intro rfl (And.intro rfl (And.intro rfl trivial)))) 2 rfl rfl 0 rfl  hl rfl (Nat.le_of_ble_eq_true rfl) ⟨Nat.zero_le _, Nat.zero_le _⟩ dX2_flip_2 (fun H locs hP hD hS => ?_)
  have hP : va_P D vwCl [(q_t, .inr (2, [.int v_t_columns, .int v_t_rows, .int v_t_fade, .int v_t_laws, .int v_t_nightHours, .int v_t_nightTimes, .ref q_t_ground, .ref q_t_windows, .ref q_t_lawParts])), (q_t_ground, .inl (cI, 36, .inl v_t_ground)), (q_t_windows, .inl (cI, 6, .inl v_t_windows)), (q_t_lawParts, .inl (cI, 18, .inl v_t_lawParts))] H := hP
  have hD : va_D A [(q_t, .inr (2, [.int v_t_columns, .int v_t_rows, .int v_t_fade, .int v_t_laws, .int v_t_nightHours, .int v_t_nightTimes, .ref q_t_ground, .ref q_t_windows, .ref q_t_lawParts])), (q_t_ground, .inl (cI, 36, .inl v_t_ground)), (q_t_windows, .inl (cI, 6, .inl v_t_windows)), (q_t_lawParts, .inl (cI, 18, .inl v_t_lawParts))] := hD
  refine lv_if_eq (tgt := 16) hx hb dX2_flip_5 (by decide) (fun h_2 => ?_) (fun h_2 => ?_)
  · have hf := (if_pos h_2).symm.trans hf
    refine lv_aload_n hx hb dX2_flip_16 rfl (lv_at hl 0 rfl) ?_
    refine lv_iload_n hx hb dX2_flip_17 rfl (lv_at hl 1 rfl) ?_
    refine lv_iconst (v := 0) hx hb dX2_flip_18 (by decide) ?_
    obtain ⟨z19_3, hz19_3, hf⟩ := bd_some hf
    refine cVv (rest := []) ⟨hx, hb, hml, hown, hts⟩ hE hK hP hD hS hA (c_X2_putRock l D cI cJ cZ en q_t q_t_ground q_t_windows q_t_lawParts H.size v_t_columns v_t_rows v_t_fade v_t_laws v_t_nightHours v_t_nightTimes v_t_ground v_t_windows v_t_lawParts x1 0 hz19_3) (gv_X2_putRock w_762) hd_X2_putRock ⟨rfl, rfl⟩ ⟨by decide, by decide⟩ [0, 1, 2, 3] (And.intro rfl (And.intro rfl (And.intro rfl (And.intro rfl trivial)))) rfl (And.intro rfl (And.intro rfl (And.intro rfl (And.intro rfl trivial)))) 2 rfl rfl 0 rfl  hl rfl (Nat.le_of_ble_eq_true rfl) ⟨Nat.zero_le _, Nat.zero_le _⟩ dX2_flip_19 (fun H locs hP hD hS => ?_)
    have hP : va_P D vwCl [(q_t, .inr (2, [.int v_t_columns, .int v_t_rows, .int v_t_fade, .int v_t_laws, .int v_t_nightHours, .int v_t_nightTimes, .ref q_t_ground, .ref q_t_windows, .ref q_t_lawParts])), (q_t_ground, .inl (cI, 36, .inl z19_3.1)), (q_t_windows, .inl (cI, 6, .inl z19_3.2)), (q_t_lawParts, .inl (cI, 18, .inl v_t_lawParts))] H := hP
    have hD : va_D A [(q_t, .inr (2, [.int v_t_columns, .int v_t_rows, .int v_t_fade, .int v_t_laws, .int v_t_nightHours, .int v_t_nightTimes, .ref q_t_ground, .ref q_t_windows, .ref q_t_lawParts])), (q_t_ground, .inl (cI, 36, .inl z19_3.1)), (q_t_windows, .inl (cI, 6, .inl z19_3.2)), (q_t_lawParts, .inl (cI, 18, .inl v_t_lawParts))] := hD
    have hf := Option.some.inj hf
    subst hf
    exact rt_v hx hb hr hlocks hK hP hS dX2_flip_22
  · have hf := (if_neg h_2).symm.trans hf
    refine lv_aload_n hx hb dX2_flip_8 rfl (lv_at hl 0 rfl) ?_
    refine lv_iload_n hx hb dX2_flip_9 rfl (lv_at hl 1 rfl) ?_
    obtain ⟨z10_4, hz10_4, hf⟩ := bd_some hf
    refine cVv (rest := []) ⟨hx, hb, hml, hown, hts⟩ hE hK hP hD hS hA (c_X2_putFloor l D cI cJ cZ en q_t q_t_ground q_t_windows q_t_lawParts H.size v_t_columns v_t_rows v_t_fade v_t_laws v_t_nightHours v_t_nightTimes v_t_ground v_t_windows v_t_lawParts x1 hz10_4) (gv_X2_putFloor w_761) hd_X2_putFloor ⟨rfl, rfl⟩ ⟨by decide, by decide⟩ [0, 1, 2, 3] (And.intro rfl (And.intro rfl (And.intro rfl (And.intro rfl trivial)))) rfl (And.intro rfl (And.intro rfl (And.intro rfl (And.intro rfl trivial)))) 2 rfl rfl 0 rfl  hl rfl (Nat.le_of_ble_eq_true rfl) ⟨Nat.zero_le _, Nat.zero_le _⟩ dX2_flip_10 (fun H locs hP hD hS => ?_)
    have hP : va_P D vwCl [(q_t, .inr (2, [.int v_t_columns, .int v_t_rows, .int v_t_fade, .int v_t_laws, .int v_t_nightHours, .int v_t_nightTimes, .ref q_t_ground, .ref q_t_windows, .ref q_t_lawParts])), (q_t_ground, .inl (cI, 36, .inl z10_4)), (q_t_windows, .inl (cI, 6, .inl v_t_windows)), (q_t_lawParts, .inl (cI, 18, .inl v_t_lawParts))] H := hP
    have hD : va_D A [(q_t, .inr (2, [.int v_t_columns, .int v_t_rows, .int v_t_fade, .int v_t_laws, .int v_t_nightHours, .int v_t_nightTimes, .ref q_t_ground, .ref q_t_windows, .ref q_t_lawParts])), (q_t_ground, .inl (cI, 36, .inl z10_4)), (q_t_windows, .inl (cI, 6, .inl v_t_windows)), (q_t_lawParts, .inl (cI, 18, .inl v_t_lawParts))] := hD
    refine lv_goto (tgt := 22) hx hb dX2_flip_13 (by decide) ?_
    have hf := Option.some.inj hf
    subst hf
    exact rt_v hx hb hr hlocks hK hP hS dX2_flip_22

def f_X2_place (v_t_windows : Nat → Int32) (x1 : Int32) (x2 : Int32) : Option ((Nat → Int32)) :=
  (f_X9_isPerson x1).bind (fun z1 => (if z1 = 0 then (some v_t_windows) else gd (ib x1 6) ((some (upd v_t_windows (Int32.toNatClampNeg x1) x2)))))
theorem gv_X2_place {own : String} {idx : Nat} (h : Cond.methodLink own idx yX2_place ∈ lw_g) : GoodIn lw_g (wsV own idx RX2 yX2_place (Cond.code yX2_place cX2_place 3 none :: lw_g)) := gV h w_485 w_486 w_60 w_487
theorem hd_X2_place : yX2_place.cls = RX2 ∧ yX2_place.cls ≠ "java/lang/invoke/MethodHandle" ∧ yX2_place.cls ≠ "java/lang/invoke/VarHandle" ∧ (parseMethodDescriptor yX2_place.desc).map (fun d => d.parameters.length) = some 2 := by decide +kernel
set_option maxHeartbeats 4000000 in
set_option maxRecDepth 100000 in
theorem c_X2_place (l : Launch) (D : va_G) (cI cJ cZ : ClassId) (en : EnT) (q_t q_t_ground q_t_windows q_t_lawParts : Nat) (sz : Nat) (v_t_columns : Int32) (v_t_rows : Int32) (v_t_fade : Int32) (v_t_laws : Int32) (v_t_nightHours : Int32) (v_t_nightTimes : Int32) (v_t_ground : Nat → Int32) (v_t_windows : Nat → Int32) (v_t_lawParts : Nat → Int32) (x1 : Int32) (x2 : Int32) {z : (Nat → Int32)} (hf : f_X2_place v_t_windows x1 x2 = some z) : Met l yX2_place (Cond.code yX2_place cX2_place 3 none :: lw_g) ({ frames := 1, cells := 0, slots := 0, locals := 20 } : Room) (PC D cI cJ cZ en ([.ref q_t, .int x1, .int x2] : List Value) [(q_t, .inr (2, [.int v_t_columns, .int v_t_rows, .int v_t_fade, .int v_t_laws, .int v_t_nightHours, .int v_t_nightTimes, .ref q_t_ground, .ref q_t_windows, .ref q_t_lawParts])), (q_t_ground, .inl (cI, 36, .inl v_t_ground)), (q_t_windows, .inl (cI, 6, .inl v_t_windows)), (q_t_lawParts, .inl (cI, 18, .inl v_t_lawParts))] sz) (QV D cI cJ cZ [(q_t, .inr (2, [.int v_t_columns, .int v_t_rows, .int v_t_fade, .int v_t_laws, .int v_t_nightHours, .int v_t_nightTimes, .ref q_t_ground, .ref q_t_windows, .ref q_t_lawParts])), (q_t_ground, .inl (cI, 36, .inl v_t_ground)), (q_t_windows, .inl (cI, 6, .inl z)), (q_t_lawParts, .inl (cI, 18, .inl v_t_lawParts))] (va_A [(q_t, .inr (2, [.int v_t_columns, .int v_t_rows, .int v_t_fade, .int v_t_laws, .int v_t_nightHours, .int v_t_nightTimes, .ref q_t_ground, .ref q_t_windows, .ref q_t_lawParts])), (q_t_ground, .inl (cI, 36, .inl v_t_ground)), (q_t_windows, .inl (cI, 6, .inl v_t_windows)), (q_t_lawParts, .inl (cI, 18, .inl v_t_lawParts))] sz)) 0 0 (va_A [(q_t, .inr (2, [.int v_t_columns, .int v_t_rows, .int v_t_fade, .int v_t_laws, .int v_t_nightHours, .int v_t_nightTimes, .ref q_t_ground, .ref q_t_windows, .ref q_t_lawParts])), (q_t_ground, .inl (cI, 36, .inl v_t_ground)), (q_t_windows, .inl (cI, 6, .inl v_t_windows)), (q_t_lawParts, .inl (cI, 18, .inl v_t_lawParts))] sz) := by
  refine mk_met (Qc := fun A => (QV D cI cJ cZ [(q_t, .inr (2, [.int v_t_columns, .int v_t_rows, .int v_t_fade, .int v_t_laws, .int v_t_nightHours, .int v_t_nightTimes, .ref q_t_ground, .ref q_t_windows, .ref q_t_lawParts])), (q_t_ground, .inl (cI, 36, .inl v_t_ground)), (q_t_windows, .inl (cI, 6, .inl z)), (q_t_lawParts, .inl (cI, 18, .inl v_t_lawParts))] A)) RX2 (by decide) rfl (Nat.le_of_ble_eq_true rfl) ?_
  intro p e s m below meth c ls A hx hb hr hml hown hts hlocks hA hK hE hl hD H locs hP hS
  have hl : lv_has ls 3 [(0, .ref q_t), (1, .int x1), (2, .int x2)] := hl
  unfold f_X2_place at hf
  refine lv_iload_n hx hb dX2_place_0 rfl (lv_at hl 1 rfl) ?_
  obtain ⟨z1_1, hz1_1, hf⟩ := bd_some hf
  refine cNi (host := RX9) (rest := []) ⟨hx, hb, hml, hown, hts⟩ hE hK hP hD hS hA (c_X9_isPerson l D cI cJ cZ en  H.size x1 hz1_1) w_490 (by decide +kernel) w_57 w_489 hd_X9_isPerson ⟨rfl, rfl⟩ ⟨by decide, by decide⟩ [] trivial rfl trivial  hl rfl (Nat.le_of_ble_eq_true rfl) ⟨Nat.zero_le _, Nat.zero_le _⟩ dX2_place_1 (fun H locs hP hD hS => ?_)
  have hP : va_P D vwCl [(q_t, .inr (2, [.int v_t_columns, .int v_t_rows, .int v_t_fade, .int v_t_laws, .int v_t_nightHours, .int v_t_nightTimes, .ref q_t_ground, .ref q_t_windows, .ref q_t_lawParts])), (q_t_ground, .inl (cI, 36, .inl v_t_ground)), (q_t_windows, .inl (cI, 6, .inl v_t_windows)), (q_t_lawParts, .inl (cI, 18, .inl v_t_lawParts))] H := hP
  have hD : va_D A [(q_t, .inr (2, [.int v_t_columns, .int v_t_rows, .int v_t_fade, .int v_t_laws, .int v_t_nightHours, .int v_t_nightTimes, .ref q_t_ground, .ref q_t_windows, .ref q_t_lawParts])), (q_t_ground, .inl (cI, 36, .inl v_t_ground)), (q_t_windows, .inl (cI, 6, .inl v_t_windows)), (q_t_lawParts, .inl (cI, 18, .inl v_t_lawParts))] := hD
  refine lv_if_eq (tgt := 14) hx hb dX2_place_4 (by decide) (fun h_2 => ?_) (fun h_2 => ?_)
  · have hf := (if_pos h_2).symm.trans hf
    have hf := Option.some.inj hf
    subst hf
    exact rt_v hx hb hr hlocks hK hP hS dX2_place_14
  · have hf := (if_neg h_2).symm.trans hf
    refine lv_aload_n hx hb dX2_place_7 rfl (lv_at hl 0 rfl) ?_
    refine va_get (D := D) (ci := 2) (v := .ref q_t_windows) (C := RX2) (T := TX2) (N := 9) hx hb hts inX2 hown hK hP 0 rfl rfl 7 (by decide) (hts _ w_151) (fun _ h9 => h9) rfl dX2_place_8 ?_
    refine lv_iload_n hx hb dX2_place_11 rfl (lv_at hl 1 rfl) ?_
    refine lv_iload_n hx hb dX2_place_12 rfl (lv_at hl 2 rfl) ?_
    obtain ⟨hin, hf⟩ := gd_some hf
    refine va_iast hx hb hK hP hD hS 2 0 rfl rfl hin dX2_place_13 (fun H locs hP hD hS => ?_)
    have hP : va_P D vwCl [(q_t, .inr (2, [.int v_t_columns, .int v_t_rows, .int v_t_fade, .int v_t_laws, .int v_t_nightHours, .int v_t_nightTimes, .ref q_t_ground, .ref q_t_windows, .ref q_t_lawParts])), (q_t_ground, .inl (cI, 36, .inl v_t_ground)), (q_t_windows, .inl (cI, 6, .inl (upd v_t_windows (Int32.toNatClampNeg x1) x2))), (q_t_lawParts, .inl (cI, 18, .inl v_t_lawParts))] H := hP
    have hD : va_D A [(q_t, .inr (2, [.int v_t_columns, .int v_t_rows, .int v_t_fade, .int v_t_laws, .int v_t_nightHours, .int v_t_nightTimes, .ref q_t_ground, .ref q_t_windows, .ref q_t_lawParts])), (q_t_ground, .inl (cI, 36, .inl v_t_ground)), (q_t_windows, .inl (cI, 6, .inl (upd v_t_windows (Int32.toNatClampNeg x1) x2))), (q_t_lawParts, .inl (cI, 18, .inl v_t_lawParts))] := hD
    have hf := Option.some.inj hf
    subst hf
    exact rt_v hx hb hr hlocks hK hP hS dX2_place_14

def f_X2_personsSomewhere_J26 (rc4 : (Int32) → (Int32) → Option (Int32)) (x1 : Int32) (x2 : Int32) : Option (Int32) :=
  (rc4 x1 (x2 + 1))
def f_X2_personsSomewhere_L4 (v_t_windows : Nat → Int32) : Nat → (Int32) → (Int32) → Option (Int32)
  | 0, _, _ => none
  | n + 1, x1, x2 => (if 6 ≤ x2 then (some x1) else gd (ib x2 6) ((if (v_t_windows (Int32.toNatClampNeg x2)) = (-1) then (f_X2_personsSomewhere_J26 (f_X2_personsSomewhere_L4 v_t_windows n) x1 x2) else (f_X2_personsSomewhere_J26 (f_X2_personsSomewhere_L4 v_t_windows n) (x1 ||| (1 <<< (x2 &&& 31))) x2))))
def f_X2_personsSomewhere (v_t_windows : Nat → Int32) : Option (Int32) :=
  (f_X2_personsSomewhere_L4 v_t_windows FU 0 0)
theorem gv_X2_personsSomewhere {own : String} {idx : Nat} (h : Cond.methodLink own idx yX2_personsSomewhere ∈ lw_g) : GoodIn lw_g (wsV own idx RX2 yX2_personsSomewhere (Cond.code yX2_personsSomewhere cX2_personsSomewhere 3 (some .int) :: lw_g)) := gV h w_896 w_897 w_60 w_898
theorem hd_X2_personsSomewhere : yX2_personsSomewhere.cls = RX2 ∧ yX2_personsSomewhere.cls ≠ "java/lang/invoke/MethodHandle" ∧ yX2_personsSomewhere.cls ≠ "java/lang/invoke/VarHandle" ∧ (parseMethodDescriptor yX2_personsSomewhere.desc).map (fun d => d.parameters.length) = some 0 := by decide +kernel
set_option maxHeartbeats 4000000 in
set_option maxRecDepth 100000 in
theorem c_X2_personsSomewhere (l : Launch) (D : va_G) (cI cJ cZ : ClassId) (en : EnT) (q_t q_t_ground q_t_windows q_t_lawParts : Nat) (sz : Nat) (v_t_columns : Int32) (v_t_rows : Int32) (v_t_fade : Int32) (v_t_laws : Int32) (v_t_nightHours : Int32) (v_t_nightTimes : Int32) (v_t_ground : Nat → Int32) (v_t_windows : Nat → Int32) (v_t_lawParts : Nat → Int32) {z : Int32} (hf : f_X2_personsSomewhere v_t_windows = some z) : Met l yX2_personsSomewhere (Cond.code yX2_personsSomewhere cX2_personsSomewhere 3 (some .int) :: lw_g) ({ frames := 0, cells := 0, slots := 0, locals := 0 } : Room) (PC D cI cJ cZ en ([.ref q_t] : List Value) [(q_t, .inr (2, [.int v_t_columns, .int v_t_rows, .int v_t_fade, .int v_t_laws, .int v_t_nightHours, .int v_t_nightTimes, .ref q_t_ground, .ref q_t_windows, .ref q_t_lawParts])), (q_t_ground, .inl (cI, 36, .inl v_t_ground)), (q_t_windows, .inl (cI, 6, .inl v_t_windows)), (q_t_lawParts, .inl (cI, 18, .inl v_t_lawParts))] sz) (QI D cI cJ cZ [(q_t, .inr (2, [.int v_t_columns, .int v_t_rows, .int v_t_fade, .int v_t_laws, .int v_t_nightHours, .int v_t_nightTimes, .ref q_t_ground, .ref q_t_windows, .ref q_t_lawParts])), (q_t_ground, .inl (cI, 36, .inl v_t_ground)), (q_t_windows, .inl (cI, 6, .inl v_t_windows)), (q_t_lawParts, .inl (cI, 18, .inl v_t_lawParts))] z (va_A [(q_t, .inr (2, [.int v_t_columns, .int v_t_rows, .int v_t_fade, .int v_t_laws, .int v_t_nightHours, .int v_t_nightTimes, .ref q_t_ground, .ref q_t_windows, .ref q_t_lawParts])), (q_t_ground, .inl (cI, 36, .inl v_t_ground)), (q_t_windows, .inl (cI, 6, .inl v_t_windows)), (q_t_lawParts, .inl (cI, 18, .inl v_t_lawParts))] sz)) 0 0 (va_A [(q_t, .inr (2, [.int v_t_columns, .int v_t_rows, .int v_t_fade, .int v_t_laws, .int v_t_nightHours, .int v_t_nightTimes, .ref q_t_ground, .ref q_t_windows, .ref q_t_lawParts])), (q_t_ground, .inl (cI, 36, .inl v_t_ground)), (q_t_windows, .inl (cI, 6, .inl v_t_windows)), (q_t_lawParts, .inl (cI, 18, .inl v_t_lawParts))] sz) := by
  refine mk_met (Qc := fun A => (QI D cI cJ cZ [(q_t, .inr (2, [.int v_t_columns, .int v_t_rows, .int v_t_fade, .int v_t_laws, .int v_t_nightHours, .int v_t_nightTimes, .ref q_t_ground, .ref q_t_windows, .ref q_t_lawParts])), (q_t_ground, .inl (cI, 36, .inl v_t_ground)), (q_t_windows, .inl (cI, 6, .inl v_t_windows)), (q_t_lawParts, .inl (cI, 18, .inl v_t_lawParts))] z A)) RX2 (by decide) rfl (Nat.le_of_ble_eq_true rfl) ?_
  intro p e s m below meth c ls A hx hb hr hml hown hts hlocks hA hK hE hl hD H locs hP hS
  have hl : lv_has ls 3 [(0, .ref q_t)] := hl
  unfold f_X2_personsSomewhere at hf
  refine lv_iconst (v := 0) hx hb dX2_personsSomewhere_0 (by decide) ?_
  refine lv_istore_n (lv' := [(1, .int 0), (0, .ref q_t)]) hx hb dX2_personsSomewhere_1 rfl hl (by decide) rfl (fun ls hl => ?_)
  refine lv_iconst (v := 0) hx hb dX2_personsSomewhere_2 (by decide) ?_
  refine lv_istore_n (lv' := [(2, .int 0), (1, .int 0), (0, .ref q_t)]) hx hb dX2_personsSomewhere_3 rfl hl (by decide) rfl (fun ls hl => ?_)
  have L4_3 : ∀ (n_5 : Nat) (x1_1 : Int32) (x2_2 : Int32), f_X2_personsSomewhere_L4 v_t_windows n_5 x1_1 x2_2 = some z → ∀ (H : Heap) (locs : List Loc) (ls : Array Slot), va_P D vwCl [(q_t, .inr (2, [.int v_t_columns, .int v_t_rows, .int v_t_fade, .int v_t_laws, .int v_t_nightHours, .int v_t_nightTimes, .ref q_t_ground, .ref q_t_windows, .ref q_t_lawParts])), (q_t_ground, .inl (cI, 36, .inl v_t_ground)), (q_t_windows, .inl (cI, 6, .inl v_t_windows)), (q_t_lawParts, .inl (cI, 18, .inl v_t_lawParts))] H → va_D A [(q_t, .inr (2, [.int v_t_columns, .int v_t_rows, .int v_t_fade, .int v_t_laws, .int v_t_nightHours, .int v_t_nightTimes, .ref q_t_ground, .ref q_t_windows, .ref q_t_lawParts])), (q_t_ground, .inl (cI, 36, .inl v_t_ground)), (q_t_windows, .inl (cI, 6, .inl v_t_windows)), (q_t_lawParts, .inl (cI, 18, .inl v_t_lawParts))] → va_S A s.heap H locs → lv_has ls 3 [(0, .ref q_t), (1, .int x1_1), (2, .int x2_2)] → W p l e ({ frames := 0, cells := 0, slots := 0, locals := 0 } : Room) s m ([.ref q_t] : List Value).toArray below meth c H locs 0 0 (MQ below (QI D cI cJ cZ [(q_t, .inr (2, [.int v_t_columns, .int v_t_rows, .int v_t_fade, .int v_t_laws, .int v_t_nightHours, .int v_t_nightTimes, .ref q_t_ground, .ref q_t_windows, .ref q_t_lawParts])), (q_t_ground, .inl (cI, 36, .inl v_t_ground)), (q_t_windows, .inl (cI, 6, .inl v_t_windows)), (q_t_lawParts, .inl (cI, 18, .inl v_t_lawParts))] z A) ([.ref q_t] : List Value).toArray s 0 0 A) (F0 m 4 ls []) := by
    intro n_5
    induction n_5 with
    | zero =>
      intro x1_1 x2_2 hf
      cases hf
    | succ n_5 ih_4 =>
      intro x1_1 x2_2 hf H locs ls hP hD hS hl
      rw [f_X2_personsSomewhere_L4] at hf
      refine lv_iload_n hx hb dX2_personsSomewhere_4 rfl (lv_at hl 2 rfl) ?_
      refine lv_bipush (v := 6) hx hb dX2_personsSomewhere_5 (by decide) ?_
      refine lv_icmp_ge (tgt := 32) hx hb dX2_personsSomewhere_7 (by decide) (fun h_6 => ?_) (fun h_6 => ?_)
      · have hf := (if_pos h_6).symm.trans hf
        refine lv_iload_n hx hb dX2_personsSomewhere_32 rfl (lv_at hl 1 rfl) ?_
        have hf := Option.some.inj hf
        subst hf
        exact rt_i hx hb hr hlocks hK hP hS dX2_personsSomewhere_33
      · have hf := (if_neg h_6).symm.trans hf
        refine lv_aload_n hx hb dX2_personsSomewhere_10 rfl (lv_at hl 0 rfl) ?_
        refine va_get (D := D) (ci := 2) (v := .ref q_t_windows) (C := RX2) (T := TX2) (N := 9) hx hb hts inX2 hown hK hP 0 rfl rfl 7 (by decide) (hts _ w_151) (fun _ h9 => h9) rfl dX2_personsSomewhere_11 ?_
        refine lv_iload_n hx hb dX2_personsSomewhere_14 rfl (lv_at hl 2 rfl) ?_
        obtain ⟨hin, hf⟩ := gd_some hf
        refine va_iald hx hb hK hP 2 0 rfl rfl hin dX2_personsSomewhere_15 ?_
        refine lv_iconst (v := (-1)) hx hb dX2_personsSomewhere_16 (by decide) ?_
        have J26_8 : ∀ (x1_7 : Int32), f_X2_personsSomewhere_J26 (f_X2_personsSomewhere_L4 v_t_windows n_5) x1_7 x2_2 = some z → ∀ (H : Heap) (locs : List Loc) (ls : Array Slot), va_P D vwCl [(q_t, .inr (2, [.int v_t_columns, .int v_t_rows, .int v_t_fade, .int v_t_laws, .int v_t_nightHours, .int v_t_nightTimes, .ref q_t_ground, .ref q_t_windows, .ref q_t_lawParts])), (q_t_ground, .inl (cI, 36, .inl v_t_ground)), (q_t_windows, .inl (cI, 6, .inl v_t_windows)), (q_t_lawParts, .inl (cI, 18, .inl v_t_lawParts))] H → va_D A [(q_t, .inr (2, [.int v_t_columns, .int v_t_rows, .int v_t_fade, .int v_t_laws, .int v_t_nightHours, .int v_t_nightTimes, .ref q_t_ground, .ref q_t_windows, .ref q_t_lawParts])), (q_t_ground, .inl (cI, 36, .inl v_t_ground)), (q_t_windows, .inl (cI, 6, .inl v_t_windows)), (q_t_lawParts, .inl (cI, 18, .inl v_t_lawParts))] → va_S A s.heap H locs → lv_has ls 3 [(0, .ref q_t), (1, .int x1_7), (2, .int x2_2)] → W p l e ({ frames := 0, cells := 0, slots := 0, locals := 0 } : Room) s m ([.ref q_t] : List Value).toArray below meth c H locs 0 0 (MQ below (QI D cI cJ cZ [(q_t, .inr (2, [.int v_t_columns, .int v_t_rows, .int v_t_fade, .int v_t_laws, .int v_t_nightHours, .int v_t_nightTimes, .ref q_t_ground, .ref q_t_windows, .ref q_t_lawParts])), (q_t_ground, .inl (cI, 36, .inl v_t_ground)), (q_t_windows, .inl (cI, 6, .inl v_t_windows)), (q_t_lawParts, .inl (cI, 18, .inl v_t_lawParts))] z A) ([.ref q_t] : List Value).toArray s 0 0 A) (F0 m 26 ls []) := by
          intro x1_7 hf H locs ls hP hD hS hl
          unfold f_X2_personsSomewhere_J26 at hf
          refine lv_iinc (v := (x2_2 + 1)) (lv' := [(2, .int (x2_2 + 1)), (0, .ref q_t), (1, .int x1_7)]) hx hb dX2_personsSomewhere_26 hl (k := 2) rfl rfl (by decide) rfl (fun ls hl => ?_)
          refine lv_goto (tgt := 4) hx hb dX2_personsSomewhere_29 (by decide) ?_
          exact ih_4 x1_7 (x2_2 + 1) hf _ _ _ hP hD hS (lv_sub hl [1, 2, 0] rfl)
        refine lv_icmp_eq (tgt := 26) hx hb dX2_personsSomewhere_17 (by decide) (fun h_9 => ?_) (fun h_9 => ?_)
        · have hf := (if_pos h_9).symm.trans hf
          exact J26_8 x1_1 hf _ _ _ hP hD hS (lv_sub hl [0, 1, 2] rfl)
        · have hf := (if_neg h_9).symm.trans hf
          refine lv_iload_n hx hb dX2_personsSomewhere_20 rfl (lv_at hl 1 rfl) ?_
          refine lv_iconst (v := 1) hx hb dX2_personsSomewhere_21 (by decide) ?_
          refine lv_iload_n hx hb dX2_personsSomewhere_22 rfl (lv_at hl 2 rfl) ?_
          refine lv_ishl hx hb dX2_personsSomewhere_23 ?_
          refine lv_ior hx hb dX2_personsSomewhere_24 ?_
          refine lv_istore_n (lv' := [(1, .int (x1_1 ||| (1 <<< (x2_2 &&& 31)))), (0, .ref q_t), (2, .int x2_2)]) hx hb dX2_personsSomewhere_25 rfl hl (by decide) rfl (fun ls hl => ?_)
          exact J26_8 (x1_1 ||| (1 <<< (x2_2 &&& 31))) hf _ _ _ hP hD hS (lv_sub hl [1, 0, 2] rfl)
  exact L4_3 FU 0 0 hf _ _ _ hP hD hS (lv_sub hl [2, 1, 0] rfl)

def f_X2_lawPart (v_t_laws : Int32) (v_t_lawParts : Nat → Int32) (x1 : Int32) (x2 : Int32) : Option (Int32) :=
  (if x1 < 0 then (some (-1)) else (if v_t_laws ≤ x1 then (some (-1)) else (if 6 ≤ x1 then (some (-1)) else (if x2 < 0 then (some (-1)) else (if x2 < 3 then gd (ib ((x1 * 3) + x2) 18) ((some (v_t_lawParts (Int32.toNatClampNeg ((x1 * 3) + x2))))) else (some (-1)))))))
theorem gv_X2_lawPart {own : String} {idx : Nat} (h : Cond.methodLink own idx yX2_lawPart ∈ lw_g) : GoodIn lw_g (wsV own idx RX2 yX2_lawPart (Cond.code yX2_lawPart cX2_lawPart 3 (some .int) :: lw_g)) := gV h w_564 w_565 w_60 w_566
theorem hd_X2_lawPart : yX2_lawPart.cls = RX2 ∧ yX2_lawPart.cls ≠ "java/lang/invoke/MethodHandle" ∧ yX2_lawPart.cls ≠ "java/lang/invoke/VarHandle" ∧ (parseMethodDescriptor yX2_lawPart.desc).map (fun d => d.parameters.length) = some 2 := by decide +kernel
set_option maxHeartbeats 4000000 in
set_option maxRecDepth 100000 in
theorem c_X2_lawPart (l : Launch) (D : va_G) (cI cJ cZ : ClassId) (en : EnT) (q_t q_t_ground q_t_windows q_t_lawParts : Nat) (sz : Nat) (v_t_columns : Int32) (v_t_rows : Int32) (v_t_fade : Int32) (v_t_laws : Int32) (v_t_nightHours : Int32) (v_t_nightTimes : Int32) (v_t_ground : Nat → Int32) (v_t_windows : Nat → Int32) (v_t_lawParts : Nat → Int32) (x1 : Int32) (x2 : Int32) {z : Int32} (hf : f_X2_lawPart v_t_laws v_t_lawParts x1 x2 = some z) : Met l yX2_lawPart (Cond.code yX2_lawPart cX2_lawPart 3 (some .int) :: lw_g) ({ frames := 0, cells := 0, slots := 0, locals := 0 } : Room) (PC D cI cJ cZ en ([.ref q_t, .int x1, .int x2] : List Value) [(q_t, .inr (2, [.int v_t_columns, .int v_t_rows, .int v_t_fade, .int v_t_laws, .int v_t_nightHours, .int v_t_nightTimes, .ref q_t_ground, .ref q_t_windows, .ref q_t_lawParts])), (q_t_ground, .inl (cI, 36, .inl v_t_ground)), (q_t_windows, .inl (cI, 6, .inl v_t_windows)), (q_t_lawParts, .inl (cI, 18, .inl v_t_lawParts))] sz) (QI D cI cJ cZ [(q_t, .inr (2, [.int v_t_columns, .int v_t_rows, .int v_t_fade, .int v_t_laws, .int v_t_nightHours, .int v_t_nightTimes, .ref q_t_ground, .ref q_t_windows, .ref q_t_lawParts])), (q_t_ground, .inl (cI, 36, .inl v_t_ground)), (q_t_windows, .inl (cI, 6, .inl v_t_windows)), (q_t_lawParts, .inl (cI, 18, .inl v_t_lawParts))] z (va_A [(q_t, .inr (2, [.int v_t_columns, .int v_t_rows, .int v_t_fade, .int v_t_laws, .int v_t_nightHours, .int v_t_nightTimes, .ref q_t_ground, .ref q_t_windows, .ref q_t_lawParts])), (q_t_ground, .inl (cI, 36, .inl v_t_ground)), (q_t_windows, .inl (cI, 6, .inl v_t_windows)), (q_t_lawParts, .inl (cI, 18, .inl v_t_lawParts))] sz)) 0 0 (va_A [(q_t, .inr (2, [.int v_t_columns, .int v_t_rows, .int v_t_fade, .int v_t_laws, .int v_t_nightHours, .int v_t_nightTimes, .ref q_t_ground, .ref q_t_windows, .ref q_t_lawParts])), (q_t_ground, .inl (cI, 36, .inl v_t_ground)), (q_t_windows, .inl (cI, 6, .inl v_t_windows)), (q_t_lawParts, .inl (cI, 18, .inl v_t_lawParts))] sz) := by
  refine mk_met (Qc := fun A => (QI D cI cJ cZ [(q_t, .inr (2, [.int v_t_columns, .int v_t_rows, .int v_t_fade, .int v_t_laws, .int v_t_nightHours, .int v_t_nightTimes, .ref q_t_ground, .ref q_t_windows, .ref q_t_lawParts])), (q_t_ground, .inl (cI, 36, .inl v_t_ground)), (q_t_windows, .inl (cI, 6, .inl v_t_windows)), (q_t_lawParts, .inl (cI, 18, .inl v_t_lawParts))] z A)) RX2 (by decide) rfl (Nat.le_of_ble_eq_true rfl) ?_
  intro p e s m below meth c ls A hx hb hr hml hown hts hlocks hA hK hE hl hD H locs hP hS
  have hl : lv_has ls 3 [(0, .ref q_t), (1, .int x1), (2, .int x2)] := hl
  unfold f_X2_lawPart at hf
  refine lv_iload_n hx hb dX2_lawPart_0 rfl (lv_at hl 1 rfl) ?_
  refine lv_if_lt (tgt := 27) hx hb dX2_lawPart_1 (by decide) (fun h_1 => ?_) (fun h_1 => ?_)
  · have hf := (if_pos h_1).symm.trans hf
    refine lv_iconst (v := (-1)) hx hb dX2_lawPart_27 (by decide) ?_
    have hf := Option.some.inj hf
    subst hf
    exact rt_i hx hb hr hlocks hK hP hS dX2_lawPart_28
  · have hf := (if_neg h_1).symm.trans hf
    refine lv_iload_n hx hb dX2_lawPart_4 rfl (lv_at hl 1 rfl) ?_
    refine lv_aload_n hx hb dX2_lawPart_5 rfl (lv_at hl 0 rfl) ?_
    refine va_get (D := D) (ci := 2) (v := .int v_t_laws) (C := RX2) (T := TX2) (N := 9) hx hb hts inX2 hown hK hP 0 rfl rfl 3 (by decide) (hts _ w_143) (fun _ h9 => h9) rfl dX2_lawPart_6 ?_
    refine lv_icmp_ge (tgt := 27) hx hb dX2_lawPart_9 (by decide) (fun h_2 => ?_) (fun h_2 => ?_)
    · have hf := (if_pos h_2).symm.trans hf
      refine lv_iconst (v := (-1)) hx hb dX2_lawPart_27 (by decide) ?_
      have hf := Option.some.inj hf
      subst hf
      exact rt_i hx hb hr hlocks hK hP hS dX2_lawPart_28
    · have hf := (if_neg h_2).symm.trans hf
      refine lv_iload_n hx hb dX2_lawPart_12 rfl (lv_at hl 1 rfl) ?_
      refine lv_bipush (v := 6) hx hb dX2_lawPart_13 (by decide) ?_
      refine lv_icmp_ge (tgt := 27) hx hb dX2_lawPart_15 (by decide) (fun h_3 => ?_) (fun h_3 => ?_)
      · have hf := (if_pos h_3).symm.trans hf
        refine lv_iconst (v := (-1)) hx hb dX2_lawPart_27 (by decide) ?_
        have hf := Option.some.inj hf
        subst hf
        exact rt_i hx hb hr hlocks hK hP hS dX2_lawPart_28
      · have hf := (if_neg h_3).symm.trans hf
        refine lv_iload_n hx hb dX2_lawPart_18 rfl (lv_at hl 2 rfl) ?_
        refine lv_if_lt (tgt := 27) hx hb dX2_lawPart_19 (by decide) (fun h_4 => ?_) (fun h_4 => ?_)
        · have hf := (if_pos h_4).symm.trans hf
          refine lv_iconst (v := (-1)) hx hb dX2_lawPart_27 (by decide) ?_
          have hf := Option.some.inj hf
          subst hf
          exact rt_i hx hb hr hlocks hK hP hS dX2_lawPart_28
        · have hf := (if_neg h_4).symm.trans hf
          refine lv_iload_n hx hb dX2_lawPart_22 rfl (lv_at hl 2 rfl) ?_
          refine lv_iconst (v := 3) hx hb dX2_lawPart_23 (by decide) ?_
          refine lv_icmp_lt (tgt := 29) hx hb dX2_lawPart_24 (by decide) (fun h_5 => ?_) (fun h_5 => ?_)
          · have hf := (if_pos h_5).symm.trans hf
            refine lv_aload_n hx hb dX2_lawPart_29 rfl (lv_at hl 0 rfl) ?_
            refine va_get (D := D) (ci := 2) (v := .ref q_t_lawParts) (C := RX2) (T := TX2) (N := 9) hx hb hts inX2 hown hK hP 0 rfl rfl 8 (by decide) (hts _ w_152) (fun _ h9 => h9) rfl dX2_lawPart_30 ?_
            refine lv_iload_n hx hb dX2_lawPart_33 rfl (lv_at hl 1 rfl) ?_
            refine lv_iconst (v := 3) hx hb dX2_lawPart_34 (by decide) ?_
            refine lv_imul hx hb dX2_lawPart_35 ?_
            refine lv_iload_n hx hb dX2_lawPart_36 rfl (lv_at hl 2 rfl) ?_
            refine lv_iadd hx hb dX2_lawPart_37 ?_
            obtain ⟨hin, hf⟩ := gd_some hf
            refine va_iald hx hb hK hP 3 0 rfl rfl hin dX2_lawPart_38 ?_
            have hf := Option.some.inj hf
            subst hf
            exact rt_i hx hb hr hlocks hK hP hS dX2_lawPart_39
          · have hf := (if_neg h_5).symm.trans hf
            refine lv_iconst (v := (-1)) hx hb dX2_lawPart_27 (by decide) ?_
            have hf := Option.some.inj hf
            subst hf
            exact rt_i hx hb hr hlocks hK hP hS dX2_lawPart_28

def f_X2_coinsFor_J37 (rc2 : (Int32) → Option (Int32)) (x3 : Int32) : Option (Int32) :=
  (rc2 (x3 + 1))
def f_X2_coinsFor_J30 (v_t_laws : Int32) (v_t_lawParts : Nat → Int32) (x3 : Int32) : Option (Int32) :=
  (f_X2_lawPart v_t_laws v_t_lawParts x3 2).bind (fun z33 => (some z33))
def f_X2_coinsFor_L2 (v_t_laws : Int32) (v_t_lawParts : Nat → Int32) (x1 : Int32) (x2 : Int32) : Nat → (Int32) → Option (Int32)
  | 0, _ => none
  | n + 1, x3 => (if v_t_laws ≤ x3 then (some 0) else (f_X2_lawPart v_t_laws v_t_lawParts x3 0).bind (fun z14 => (if x1 < z14 then (f_X2_coinsFor_J37 (f_X2_coinsFor_L2 v_t_laws v_t_lawParts x1 x2 n) x3) else (f_X2_lawPart v_t_laws v_t_lawParts x3 1).bind (fun z24 => (if x2 < z24 then (f_X2_coinsFor_J37 (f_X2_coinsFor_L2 v_t_laws v_t_lawParts x1 x2 n) x3) else (f_X2_coinsFor_J30 v_t_laws v_t_lawParts x3))))))
def f_X2_coinsFor (v_t_laws : Int32) (v_t_lawParts : Nat → Int32) (x1 : Int32) (x2 : Int32) : Option (Int32) :=
  (f_X2_coinsFor_L2 v_t_laws v_t_lawParts x1 x2 FU 0)
theorem gv_X2_coinsFor {own : String} {idx : Nat} (h : Cond.methodLink own idx yX2_coinsFor ∈ lw_g) : GoodIn lw_g (wsV own idx RX2 yX2_coinsFor (Cond.code yX2_coinsFor cX2_coinsFor 4 (some .int) :: lw_g)) := gV h w_650 w_651 w_60 w_652
theorem hd_X2_coinsFor : yX2_coinsFor.cls = RX2 ∧ yX2_coinsFor.cls ≠ "java/lang/invoke/MethodHandle" ∧ yX2_coinsFor.cls ≠ "java/lang/invoke/VarHandle" ∧ (parseMethodDescriptor yX2_coinsFor.desc).map (fun d => d.parameters.length) = some 2 := by decide +kernel
set_option maxHeartbeats 4000000 in
set_option maxRecDepth 100000 in
theorem c_X2_coinsFor (l : Launch) (D : va_G) (cI cJ cZ : ClassId) (en : EnT) (q_t q_t_ground q_t_windows q_t_lawParts : Nat) (sz : Nat) (v_t_columns : Int32) (v_t_rows : Int32) (v_t_fade : Int32) (v_t_laws : Int32) (v_t_nightHours : Int32) (v_t_nightTimes : Int32) (v_t_ground : Nat → Int32) (v_t_windows : Nat → Int32) (v_t_lawParts : Nat → Int32) (x1 : Int32) (x2 : Int32) {z : Int32} (hf : f_X2_coinsFor v_t_laws v_t_lawParts x1 x2 = some z) : Met l yX2_coinsFor (Cond.code yX2_coinsFor cX2_coinsFor 4 (some .int) :: lw_g) ({ frames := 1, cells := 0, slots := 0, locals := 22 } : Room) (PC D cI cJ cZ en ([.ref q_t, .int x1, .int x2] : List Value) [(q_t, .inr (2, [.int v_t_columns, .int v_t_rows, .int v_t_fade, .int v_t_laws, .int v_t_nightHours, .int v_t_nightTimes, .ref q_t_ground, .ref q_t_windows, .ref q_t_lawParts])), (q_t_ground, .inl (cI, 36, .inl v_t_ground)), (q_t_windows, .inl (cI, 6, .inl v_t_windows)), (q_t_lawParts, .inl (cI, 18, .inl v_t_lawParts))] sz) (QI D cI cJ cZ [(q_t, .inr (2, [.int v_t_columns, .int v_t_rows, .int v_t_fade, .int v_t_laws, .int v_t_nightHours, .int v_t_nightTimes, .ref q_t_ground, .ref q_t_windows, .ref q_t_lawParts])), (q_t_ground, .inl (cI, 36, .inl v_t_ground)), (q_t_windows, .inl (cI, 6, .inl v_t_windows)), (q_t_lawParts, .inl (cI, 18, .inl v_t_lawParts))] z (va_A [(q_t, .inr (2, [.int v_t_columns, .int v_t_rows, .int v_t_fade, .int v_t_laws, .int v_t_nightHours, .int v_t_nightTimes, .ref q_t_ground, .ref q_t_windows, .ref q_t_lawParts])), (q_t_ground, .inl (cI, 36, .inl v_t_ground)), (q_t_windows, .inl (cI, 6, .inl v_t_windows)), (q_t_lawParts, .inl (cI, 18, .inl v_t_lawParts))] sz)) 0 0 (va_A [(q_t, .inr (2, [.int v_t_columns, .int v_t_rows, .int v_t_fade, .int v_t_laws, .int v_t_nightHours, .int v_t_nightTimes, .ref q_t_ground, .ref q_t_windows, .ref q_t_lawParts])), (q_t_ground, .inl (cI, 36, .inl v_t_ground)), (q_t_windows, .inl (cI, 6, .inl v_t_windows)), (q_t_lawParts, .inl (cI, 18, .inl v_t_lawParts))] sz) := by
  refine mk_met (Qc := fun A => (QI D cI cJ cZ [(q_t, .inr (2, [.int v_t_columns, .int v_t_rows, .int v_t_fade, .int v_t_laws, .int v_t_nightHours, .int v_t_nightTimes, .ref q_t_ground, .ref q_t_windows, .ref q_t_lawParts])), (q_t_ground, .inl (cI, 36, .inl v_t_ground)), (q_t_windows, .inl (cI, 6, .inl v_t_windows)), (q_t_lawParts, .inl (cI, 18, .inl v_t_lawParts))] z A)) RX2 (by decide) rfl (Nat.le_of_ble_eq_true rfl) ?_
  intro p e s m below meth c ls A hx hb hr hml hown hts hlocks hA hK hE hl hD H locs hP hS
  have hl : lv_has ls 4 [(0, .ref q_t), (1, .int x1), (2, .int x2)] := hl
  unfold f_X2_coinsFor at hf
  refine lv_iconst (v := 0) hx hb dX2_coinsFor_0 (by decide) ?_
  refine lv_istore_n (lv' := [(3, .int 0), (0, .ref q_t), (1, .int x1), (2, .int x2)]) hx hb dX2_coinsFor_1 rfl hl (by decide) rfl (fun ls hl => ?_)
  have L2_2 : ∀ (n_4 : Nat) (x3_1 : Int32), f_X2_coinsFor_L2 v_t_laws v_t_lawParts x1 x2 n_4 x3_1 = some z → ∀ (H : Heap) (locs : List Loc) (ls : Array Slot), va_P D vwCl [(q_t, .inr (2, [.int v_t_columns, .int v_t_rows, .int v_t_fade, .int v_t_laws, .int v_t_nightHours, .int v_t_nightTimes, .ref q_t_ground, .ref q_t_windows, .ref q_t_lawParts])), (q_t_ground, .inl (cI, 36, .inl v_t_ground)), (q_t_windows, .inl (cI, 6, .inl v_t_windows)), (q_t_lawParts, .inl (cI, 18, .inl v_t_lawParts))] H → va_D A [(q_t, .inr (2, [.int v_t_columns, .int v_t_rows, .int v_t_fade, .int v_t_laws, .int v_t_nightHours, .int v_t_nightTimes, .ref q_t_ground, .ref q_t_windows, .ref q_t_lawParts])), (q_t_ground, .inl (cI, 36, .inl v_t_ground)), (q_t_windows, .inl (cI, 6, .inl v_t_windows)), (q_t_lawParts, .inl (cI, 18, .inl v_t_lawParts))] → va_S A s.heap H locs → lv_has ls 4 [(0, .ref q_t), (1, .int x1), (2, .int x2), (3, .int x3_1)] → W p l e ({ frames := 1, cells := 0, slots := 0, locals := 22 } : Room) s m ([.ref q_t, .int x1, .int x2] : List Value).toArray below meth c H locs 0 0 (MQ below (QI D cI cJ cZ [(q_t, .inr (2, [.int v_t_columns, .int v_t_rows, .int v_t_fade, .int v_t_laws, .int v_t_nightHours, .int v_t_nightTimes, .ref q_t_ground, .ref q_t_windows, .ref q_t_lawParts])), (q_t_ground, .inl (cI, 36, .inl v_t_ground)), (q_t_windows, .inl (cI, 6, .inl v_t_windows)), (q_t_lawParts, .inl (cI, 18, .inl v_t_lawParts))] z A) ([.ref q_t, .int x1, .int x2] : List Value).toArray s 0 0 A) (F0 m 2 ls []) := by
    intro n_4
    induction n_4 with
    | zero =>
      intro x3_1 hf
      cases hf
    | succ n_4 ih_3 =>
      intro x3_1 hf H locs ls hP hD hS hl
      rw [f_X2_coinsFor_L2] at hf
      refine lv_iload_n hx hb dX2_coinsFor_2 rfl (lv_at hl 3 rfl) ?_
      refine lv_aload_n hx hb dX2_coinsFor_3 rfl (lv_at hl 0 rfl) ?_
      refine va_get (D := D) (ci := 2) (v := .int v_t_laws) (C := RX2) (T := TX2) (N := 9) hx hb hts inX2 hown hK hP 0 rfl rfl 3 (by decide) (hts _ w_143) (fun _ h9 => h9) rfl dX2_coinsFor_4 ?_
      refine lv_icmp_ge (tgt := 43) hx hb dX2_coinsFor_7 (by decide) (fun h_5 => ?_) (fun h_5 => ?_)
      · have hf := (if_pos h_5).symm.trans hf
        refine lv_iconst (v := 0) hx hb dX2_coinsFor_43 (by decide) ?_
        have hf := Option.some.inj hf
        subst hf
        exact rt_i hx hb hr hlocks hK hP hS dX2_coinsFor_44
      · have hf := (if_neg h_5).symm.trans hf
        refine lv_iload_n hx hb dX2_coinsFor_10 rfl (lv_at hl 1 rfl) ?_
        refine lv_aload_n hx hb dX2_coinsFor_11 rfl (lv_at hl 0 rfl) ?_
        refine lv_iload_n hx hb dX2_coinsFor_12 rfl (lv_at hl 3 rfl) ?_
        refine lv_iconst (v := 0) hx hb dX2_coinsFor_13 (by decide) ?_
        obtain ⟨z14_6, hz14_6, hf⟩ := bd_some hf
        refine cVi (rest := [.int x1]) ⟨hx, hb, hml, hown, hts⟩ hE hK hP hD hS hA (c_X2_lawPart l D cI cJ cZ en q_t q_t_ground q_t_windows q_t_lawParts H.size v_t_columns v_t_rows v_t_fade v_t_laws v_t_nightHours v_t_nightTimes v_t_ground v_t_windows v_t_lawParts x3_1 0 hz14_6) (gv_X2_lawPart w_653) hd_X2_lawPart ⟨rfl, rfl⟩ ⟨by decide, by decide⟩ [0, 1, 2, 3] (And.intro rfl (And.intro rfl (And.intro rfl (And.intro rfl trivial)))) rfl (And.intro rfl (And.intro rfl (And.intro rfl (And.intro rfl trivial)))) 2 rfl rfl 0 rfl  hl rfl (Nat.le_of_ble_eq_true rfl) ⟨Nat.zero_le _, Nat.zero_le _⟩ dX2_coinsFor_14 (fun H locs hP hD hS => ?_)
        have hP : va_P D vwCl [(q_t, .inr (2, [.int v_t_columns, .int v_t_rows, .int v_t_fade, .int v_t_laws, .int v_t_nightHours, .int v_t_nightTimes, .ref q_t_ground, .ref q_t_windows, .ref q_t_lawParts])), (q_t_ground, .inl (cI, 36, .inl v_t_ground)), (q_t_windows, .inl (cI, 6, .inl v_t_windows)), (q_t_lawParts, .inl (cI, 18, .inl v_t_lawParts))] H := hP
        have hD : va_D A [(q_t, .inr (2, [.int v_t_columns, .int v_t_rows, .int v_t_fade, .int v_t_laws, .int v_t_nightHours, .int v_t_nightTimes, .ref q_t_ground, .ref q_t_windows, .ref q_t_lawParts])), (q_t_ground, .inl (cI, 36, .inl v_t_ground)), (q_t_windows, .inl (cI, 6, .inl v_t_windows)), (q_t_lawParts, .inl (cI, 18, .inl v_t_lawParts))] := hD
        have J37_7 : ∀ (_ : Unit), f_X2_coinsFor_J37 (f_X2_coinsFor_L2 v_t_laws v_t_lawParts x1 x2 n_4) x3_1 = some z → ∀ (H : Heap) (locs : List Loc) (ls : Array Slot), va_P D vwCl [(q_t, .inr (2, [.int v_t_columns, .int v_t_rows, .int v_t_fade, .int v_t_laws, .int v_t_nightHours, .int v_t_nightTimes, .ref q_t_ground, .ref q_t_windows, .ref q_t_lawParts])), (q_t_ground, .inl (cI, 36, .inl v_t_ground)), (q_t_windows, .inl (cI, 6, .inl v_t_windows)), (q_t_lawParts, .inl (cI, 18, .inl v_t_lawParts))] H → va_D A [(q_t, .inr (2, [.int v_t_columns, .int v_t_rows, .int v_t_fade, .int v_t_laws, .int v_t_nightHours, .int v_t_nightTimes, .ref q_t_ground, .ref q_t_windows, .ref q_t_lawParts])), (q_t_ground, .inl (cI, 36, .inl v_t_ground)), (q_t_windows, .inl (cI, 6, .inl v_t_windows)), (q_t_lawParts, .inl (cI, 18, .inl v_t_lawParts))] → va_S A s.heap H locs → lv_has ls 4 [(0, .ref q_t), (1, .int x1), (2, .int x2), (3, .int x3_1)] → W p l e ({ frames := 1, cells := 0, slots := 0, locals := 22 } : Room) s m ([.ref q_t, .int x1, .int x2] : List Value).toArray below meth c H locs 0 0 (MQ below (QI D cI cJ cZ [(q_t, .inr (2, [.int v_t_columns, .int v_t_rows, .int v_t_fade, .int v_t_laws, .int v_t_nightHours, .int v_t_nightTimes, .ref q_t_ground, .ref q_t_windows, .ref q_t_lawParts])), (q_t_ground, .inl (cI, 36, .inl v_t_ground)), (q_t_windows, .inl (cI, 6, .inl v_t_windows)), (q_t_lawParts, .inl (cI, 18, .inl v_t_lawParts))] z A) ([.ref q_t, .int x1, .int x2] : List Value).toArray s 0 0 A) (F0 m 37 ls []) := by
          intro _ hf H locs ls hP hD hS hl
          unfold f_X2_coinsFor_J37 at hf
          refine lv_iinc (v := (x3_1 + 1)) (lv' := [(3, .int (x3_1 + 1)), (0, .ref q_t), (1, .int x1), (2, .int x2)]) hx hb dX2_coinsFor_37 hl (k := 3) rfl rfl (by decide) rfl (fun ls hl => ?_)
          refine lv_goto (tgt := 2) hx hb dX2_coinsFor_40 (by decide) ?_
          exact ih_3 (x3_1 + 1) hf _ _ _ hP hD hS (lv_sub hl [1, 2, 3, 0] rfl)
        refine lv_icmp_lt (tgt := 37) hx hb dX2_coinsFor_17 (by decide) (fun h_8 => ?_) (fun h_8 => ?_)
        · have hf := (if_pos h_8).symm.trans hf
          exact J37_7 () hf _ _ _ hP hD hS (lv_sub hl [0, 1, 2, 3] rfl)
        · have hf := (if_neg h_8).symm.trans hf
          refine lv_iload_n hx hb dX2_coinsFor_20 rfl (lv_at hl 2 rfl) ?_
          refine lv_aload_n hx hb dX2_coinsFor_21 rfl (lv_at hl 0 rfl) ?_
          refine lv_iload_n hx hb dX2_coinsFor_22 rfl (lv_at hl 3 rfl) ?_
          refine lv_iconst (v := 1) hx hb dX2_coinsFor_23 (by decide) ?_
          obtain ⟨z24_9, hz24_9, hf⟩ := bd_some hf
          refine cVi (rest := [.int x2]) ⟨hx, hb, hml, hown, hts⟩ hE hK hP hD hS hA (c_X2_lawPart l D cI cJ cZ en q_t q_t_ground q_t_windows q_t_lawParts H.size v_t_columns v_t_rows v_t_fade v_t_laws v_t_nightHours v_t_nightTimes v_t_ground v_t_windows v_t_lawParts x3_1 1 hz24_9) (gv_X2_lawPart w_653) hd_X2_lawPart ⟨rfl, rfl⟩ ⟨by decide, by decide⟩ [0, 1, 2, 3] (And.intro rfl (And.intro rfl (And.intro rfl (And.intro rfl trivial)))) rfl (And.intro rfl (And.intro rfl (And.intro rfl (And.intro rfl trivial)))) 2 rfl rfl 0 rfl  hl rfl (Nat.le_of_ble_eq_true rfl) ⟨Nat.zero_le _, Nat.zero_le _⟩ dX2_coinsFor_24 (fun H locs hP hD hS => ?_)
          have hP : va_P D vwCl [(q_t, .inr (2, [.int v_t_columns, .int v_t_rows, .int v_t_fade, .int v_t_laws, .int v_t_nightHours, .int v_t_nightTimes, .ref q_t_ground, .ref q_t_windows, .ref q_t_lawParts])), (q_t_ground, .inl (cI, 36, .inl v_t_ground)), (q_t_windows, .inl (cI, 6, .inl v_t_windows)), (q_t_lawParts, .inl (cI, 18, .inl v_t_lawParts))] H := hP
          have hD : va_D A [(q_t, .inr (2, [.int v_t_columns, .int v_t_rows, .int v_t_fade, .int v_t_laws, .int v_t_nightHours, .int v_t_nightTimes, .ref q_t_ground, .ref q_t_windows, .ref q_t_lawParts])), (q_t_ground, .inl (cI, 36, .inl v_t_ground)), (q_t_windows, .inl (cI, 6, .inl v_t_windows)), (q_t_lawParts, .inl (cI, 18, .inl v_t_lawParts))] := hD
          refine lv_icmp_lt (tgt := 37) hx hb dX2_coinsFor_27 (by decide) (fun h_10 => ?_) (fun h_10 => ?_)
          · have hf := (if_pos h_10).symm.trans hf
            exact J37_7 () hf _ _ _ hP hD hS (lv_sub hl [0, 1, 2, 3] rfl)
          · have hf := (if_neg h_10).symm.trans hf
            unfold f_X2_coinsFor_J30 at hf
            refine lv_aload_n hx hb dX2_coinsFor_30 rfl (lv_at hl 0 rfl) ?_
            refine lv_iload_n hx hb dX2_coinsFor_31 rfl (lv_at hl 3 rfl) ?_
            refine lv_iconst (v := 2) hx hb dX2_coinsFor_32 (by decide) ?_
            obtain ⟨z33_11, hz33_11, hf⟩ := bd_some hf
            refine cVi (rest := []) ⟨hx, hb, hml, hown, hts⟩ hE hK hP hD hS hA (c_X2_lawPart l D cI cJ cZ en q_t q_t_ground q_t_windows q_t_lawParts H.size v_t_columns v_t_rows v_t_fade v_t_laws v_t_nightHours v_t_nightTimes v_t_ground v_t_windows v_t_lawParts x3_1 2 hz33_11) (gv_X2_lawPart w_653) hd_X2_lawPart ⟨rfl, rfl⟩ ⟨by decide, by decide⟩ [0, 1, 2, 3] (And.intro rfl (And.intro rfl (And.intro rfl (And.intro rfl trivial)))) rfl (And.intro rfl (And.intro rfl (And.intro rfl (And.intro rfl trivial)))) 2 rfl rfl 0 rfl  hl rfl (Nat.le_of_ble_eq_true rfl) ⟨Nat.zero_le _, Nat.zero_le _⟩ dX2_coinsFor_33 (fun H locs hP hD hS => ?_)
            have hP : va_P D vwCl [(q_t, .inr (2, [.int v_t_columns, .int v_t_rows, .int v_t_fade, .int v_t_laws, .int v_t_nightHours, .int v_t_nightTimes, .ref q_t_ground, .ref q_t_windows, .ref q_t_lawParts])), (q_t_ground, .inl (cI, 36, .inl v_t_ground)), (q_t_windows, .inl (cI, 6, .inl v_t_windows)), (q_t_lawParts, .inl (cI, 18, .inl v_t_lawParts))] H := hP
            have hD : va_D A [(q_t, .inr (2, [.int v_t_columns, .int v_t_rows, .int v_t_fade, .int v_t_laws, .int v_t_nightHours, .int v_t_nightTimes, .ref q_t_ground, .ref q_t_windows, .ref q_t_lawParts])), (q_t_ground, .inl (cI, 36, .inl v_t_ground)), (q_t_windows, .inl (cI, 6, .inl v_t_windows)), (q_t_lawParts, .inl (cI, 18, .inl v_t_lawParts))] := hD
            have hf := Option.some.inj hf
            subst hf
            exact rt_i hx hb hr hlocks hK hP hS dX2_coinsFor_36
  exact L2_2 FU 0 hf _ _ _ hP hD hS (lv_sub hl [1, 2, 3, 0] rfl)

def f_X2_timesIn (v_t_nightHours : Int32) (v_t_nightTimes : Int32) (x1 : Int32) : Option (Int32) :=
  (if ((v_t_nightHours >>> (x1 &&& 31)) &&& 1) = 1 then (some v_t_nightTimes) else (some 1))
theorem gv_X2_timesIn {own : String} {idx : Nat} (h : Cond.methodLink own idx yX2_timesIn ∈ lw_g) : GoodIn lw_g (wsV own idx RX2 yX2_timesIn (Cond.code yX2_timesIn cX2_timesIn 2 (some .int) :: lw_g)) := gV h w_659 w_660 w_60 w_661
theorem hd_X2_timesIn : yX2_timesIn.cls = RX2 ∧ yX2_timesIn.cls ≠ "java/lang/invoke/MethodHandle" ∧ yX2_timesIn.cls ≠ "java/lang/invoke/VarHandle" ∧ (parseMethodDescriptor yX2_timesIn.desc).map (fun d => d.parameters.length) = some 1 := by decide +kernel
set_option maxHeartbeats 4000000 in
set_option maxRecDepth 100000 in
theorem c_X2_timesIn (l : Launch) (D : va_G) (cI cJ cZ : ClassId) (en : EnT) (q_t q_t_ground q_t_windows q_t_lawParts : Nat) (sz : Nat) (v_t_columns : Int32) (v_t_rows : Int32) (v_t_fade : Int32) (v_t_laws : Int32) (v_t_nightHours : Int32) (v_t_nightTimes : Int32) (v_t_ground : Nat → Int32) (v_t_windows : Nat → Int32) (v_t_lawParts : Nat → Int32) (x1 : Int32) {z : Int32} (hf : f_X2_timesIn v_t_nightHours v_t_nightTimes x1 = some z) : Met l yX2_timesIn (Cond.code yX2_timesIn cX2_timesIn 2 (some .int) :: lw_g) ({ frames := 0, cells := 0, slots := 0, locals := 0 } : Room) (PC D cI cJ cZ en ([.ref q_t, .int x1] : List Value) [(q_t, .inr (2, [.int v_t_columns, .int v_t_rows, .int v_t_fade, .int v_t_laws, .int v_t_nightHours, .int v_t_nightTimes, .ref q_t_ground, .ref q_t_windows, .ref q_t_lawParts])), (q_t_ground, .inl (cI, 36, .inl v_t_ground)), (q_t_windows, .inl (cI, 6, .inl v_t_windows)), (q_t_lawParts, .inl (cI, 18, .inl v_t_lawParts))] sz) (QI D cI cJ cZ [(q_t, .inr (2, [.int v_t_columns, .int v_t_rows, .int v_t_fade, .int v_t_laws, .int v_t_nightHours, .int v_t_nightTimes, .ref q_t_ground, .ref q_t_windows, .ref q_t_lawParts])), (q_t_ground, .inl (cI, 36, .inl v_t_ground)), (q_t_windows, .inl (cI, 6, .inl v_t_windows)), (q_t_lawParts, .inl (cI, 18, .inl v_t_lawParts))] z (va_A [(q_t, .inr (2, [.int v_t_columns, .int v_t_rows, .int v_t_fade, .int v_t_laws, .int v_t_nightHours, .int v_t_nightTimes, .ref q_t_ground, .ref q_t_windows, .ref q_t_lawParts])), (q_t_ground, .inl (cI, 36, .inl v_t_ground)), (q_t_windows, .inl (cI, 6, .inl v_t_windows)), (q_t_lawParts, .inl (cI, 18, .inl v_t_lawParts))] sz)) 0 0 (va_A [(q_t, .inr (2, [.int v_t_columns, .int v_t_rows, .int v_t_fade, .int v_t_laws, .int v_t_nightHours, .int v_t_nightTimes, .ref q_t_ground, .ref q_t_windows, .ref q_t_lawParts])), (q_t_ground, .inl (cI, 36, .inl v_t_ground)), (q_t_windows, .inl (cI, 6, .inl v_t_windows)), (q_t_lawParts, .inl (cI, 18, .inl v_t_lawParts))] sz) := by
  refine mk_met (Qc := fun A => (QI D cI cJ cZ [(q_t, .inr (2, [.int v_t_columns, .int v_t_rows, .int v_t_fade, .int v_t_laws, .int v_t_nightHours, .int v_t_nightTimes, .ref q_t_ground, .ref q_t_windows, .ref q_t_lawParts])), (q_t_ground, .inl (cI, 36, .inl v_t_ground)), (q_t_windows, .inl (cI, 6, .inl v_t_windows)), (q_t_lawParts, .inl (cI, 18, .inl v_t_lawParts))] z A)) RX2 (by decide) rfl (Nat.le_of_ble_eq_true rfl) ?_
  intro p e s m below meth c ls A hx hb hr hml hown hts hlocks hA hK hE hl hD H locs hP hS
  have hl : lv_has ls 2 [(0, .ref q_t), (1, .int x1)] := hl
  unfold f_X2_timesIn at hf
  refine lv_aload_n hx hb dX2_timesIn_0 rfl (lv_at hl 0 rfl) ?_
  refine va_get (D := D) (ci := 2) (v := .int v_t_nightHours) (C := RX2) (T := TX2) (N := 9) hx hb hts inX2 hown hK hP 0 rfl rfl 4 (by decide) (hts _ w_146) (fun _ h9 => h9) rfl dX2_timesIn_1 ?_
  refine lv_iload_n hx hb dX2_timesIn_4 rfl (lv_at hl 1 rfl) ?_
  refine lv_ishr hx hb dX2_timesIn_5 ?_
  refine lv_iconst (v := 1) hx hb dX2_timesIn_6 (by decide) ?_
  refine lv_iand hx hb dX2_timesIn_7 ?_
  refine lv_iconst (v := 1) hx hb dX2_timesIn_8 (by decide) ?_
  refine lv_icmp_ne (tgt := 19) hx hb dX2_timesIn_9 (by decide) (fun h_1 => ?_) (fun h_1 => ?_)
  · have hf := (if_neg h_1).symm.trans hf
    refine lv_iconst (v := 1) hx hb dX2_timesIn_19 (by decide) ?_
    have hf := Option.some.inj hf
    subst hf
    exact rt_i hx hb hr hlocks hK hP hS dX2_timesIn_20
  · have hf := (if_pos h_1).symm.trans hf
    refine lv_aload_n hx hb dX2_timesIn_12 rfl (lv_at hl 0 rfl) ?_
    refine va_get (D := D) (ci := 2) (v := .int v_t_nightTimes) (C := RX2) (T := TX2) (N := 9) hx hb hts inX2 hown hK hP 0 rfl rfl 5 (by decide) (hts _ w_148) (fun _ h9 => h9) rfl dX2_timesIn_13 ?_
    refine lv_goto (tgt := 20) hx hb dX2_timesIn_16 (by decide) ?_
    have hf := Option.some.inj hf
    subst hf
    exact rt_i hx hb hr hlocks hK hP hS dX2_timesIn_20

def f_J7_fill_53178_L5 (n_a0 : Nat) (x1 : Int32) (x3 : Int32) : Nat → (Int32) → (Nat → Int32) → Option ((Nat → Int32))
  | 0, _, _ => none
  | n + 1, x2, v_a0 => (if x3 ≤ x2 then (some v_a0) else gd (ib x2 n_a0) ((f_J7_fill_53178_L5 n_a0 x1 x3 n (x2 + 1) (upd v_a0 (Int32.toNatClampNeg x2) x1))))
def f_J7_fill_53178 (n_a0 : Nat) (v_a0 : Nat → Int32) (x1 : Int32) : Option ((Nat → Int32)) :=
  (f_J7_fill_53178_L5 n_a0 x1 (Int32.ofNat n_a0) FU 0 v_a0)
theorem gs_J7_fill_53178 {own : String} {idx : Nat} (h : Cond.methodLink own idx yJ7_fill_53178 ∈ lw_g) : GoodIn lw_g (va_wsS own idx yJ7_fill_53178 (Cond.code yJ7_fill_53178 cJ7_fill_53178 4 none :: lw_g)) := gS h w_131 w_61 w_132
theorem hd_J7_fill_53178 : yJ7_fill_53178.cls ≠ "java/lang/invoke/MethodHandle" ∧ yJ7_fill_53178.cls ≠ "java/lang/invoke/VarHandle" ∧ (parseMethodDescriptor yJ7_fill_53178.desc).map (fun d => d.parameters.length) = some 2 := by decide +kernel
set_option maxHeartbeats 4000000 in
set_option maxRecDepth 100000 in
theorem c_J7_fill_53178 (l : Launch) (D : va_G) (cI cJ cZ : ClassId) (en : EnT) (q_a0 : Nat) (n_a0 : Nat) (sz : Nat) (v_a0 : Nat → Int32) (x1 : Int32) {z : (Nat → Int32)} (hf : f_J7_fill_53178 n_a0 v_a0 x1 = some z) : Met l yJ7_fill_53178 (Cond.code yJ7_fill_53178 cJ7_fill_53178 4 none :: lw_g) ({ frames := 0, cells := 0, slots := 0, locals := 0 } : Room) (PC D cI cJ cZ en ([.ref q_a0, .int x1] : List Value) [(q_a0, .inl (cI, n_a0, .inl v_a0))] sz) (QV D cI cJ cZ [(q_a0, .inl (cI, n_a0, .inl z))] (va_A [(q_a0, .inl (cI, n_a0, .inl v_a0))] sz)) 0 0 (va_A [(q_a0, .inl (cI, n_a0, .inl v_a0))] sz) := by
  refine mk_met (Qc := fun A => (QV D cI cJ cZ [(q_a0, .inl (cI, n_a0, .inl z))] A)) RJ7 (by decide) rfl (Nat.le_of_ble_eq_true rfl) ?_
  intro p e s m below meth c ls A hx hb hr hml hown hts hlocks hA hK hE hl hD H locs hP hS
  have hl : lv_has ls 4 [(0, .ref q_a0), (1, .int x1)] := hl
  unfold f_J7_fill_53178 at hf
  refine lv_iconst (v := 0) hx hb dJ7_fill_53178_0 (by decide) ?_
  refine lv_istore_n (lv' := [(2, .int 0), (0, .ref q_a0), (1, .int x1)]) hx hb dJ7_fill_53178_1 rfl hl (by decide) rfl (fun ls hl => ?_)
  refine lv_aload_n hx hb dJ7_fill_53178_2 rfl (lv_at hl 1 rfl) ?_
  refine va_alen (v := (Int32.ofNat n_a0)) hx hb hK hP 0 0 rfl rfl rfl dJ7_fill_53178_3 ?_
  refine lv_istore_n (lv' := [(3, .int (Int32.ofNat n_a0)), (2, .int 0), (0, .ref q_a0), (1, .int x1)]) hx hb dJ7_fill_53178_4 rfl hl (by decide) rfl (fun ls hl => ?_)
  have L5_3 : ∀ (n_5 : Nat) (x2_1 : Int32) (v_a0_2 : Nat → Int32), f_J7_fill_53178_L5 n_a0 x1 (Int32.ofNat n_a0) n_5 x2_1 v_a0_2 = some z → ∀ (H : Heap) (locs : List Loc) (ls : Array Slot), va_P D vwCl [(q_a0, .inl (cI, n_a0, .inl v_a0_2))] H → va_D A [(q_a0, .inl (cI, n_a0, .inl v_a0_2))] → va_S A s.heap H locs → lv_has ls 4 [(0, .ref q_a0), (1, .int x1), (2, .int x2_1), (3, .int (Int32.ofNat n_a0))] → W p l e ({ frames := 0, cells := 0, slots := 0, locals := 0 } : Room) s m ([.ref q_a0, .int x1] : List Value).toArray below meth c H locs 0 0 (MQ below (QV D cI cJ cZ [(q_a0, .inl (cI, n_a0, .inl z))] A) ([.ref q_a0, .int x1] : List Value).toArray s 0 0 A) (F0 m 5 ls []) := by
    intro n_5
    induction n_5 with
    | zero =>
      intro x2_1 v_a0_2 hf
      cases hf
    | succ n_5 ih_4 =>
      intro x2_1 v_a0_2 hf H locs ls hP hD hS hl
      rw [f_J7_fill_53178_L5] at hf
      refine lv_iload_n hx hb dJ7_fill_53178_5 rfl (lv_at hl 2 rfl) ?_
      refine lv_iload_n hx hb dJ7_fill_53178_6 rfl (lv_at hl 3 rfl) ?_
      refine lv_icmp_ge (tgt := 20) hx hb dJ7_fill_53178_7 (by decide) (fun h_6 => ?_) (fun h_6 => ?_)
      · have hf := (if_pos h_6).symm.trans hf
        have hf := Option.some.inj hf
        subst hf
        exact rt_v hx hb hr hlocks hK hP hS dJ7_fill_53178_20
      · have hf := (if_neg h_6).symm.trans hf
        refine lv_aload_n hx hb dJ7_fill_53178_10 rfl (lv_at hl 0 rfl) ?_
        refine lv_iload_n hx hb dJ7_fill_53178_11 rfl (lv_at hl 2 rfl) ?_
        refine lv_iload_n hx hb dJ7_fill_53178_12 rfl (lv_at hl 1 rfl) ?_
        obtain ⟨hin, hf⟩ := gd_some hf
        refine va_iast hx hb hK hP hD hS 0 0 rfl rfl hin dJ7_fill_53178_13 (fun H locs hP hD hS => ?_)
        have hP : va_P D vwCl [(q_a0, .inl (cI, n_a0, .inl (upd v_a0_2 (Int32.toNatClampNeg x2_1) x1)))] H := hP
        have hD : va_D A [(q_a0, .inl (cI, n_a0, .inl (upd v_a0_2 (Int32.toNatClampNeg x2_1) x1)))] := hD
        refine lv_iinc (v := (x2_1 + 1)) (lv' := [(2, .int (x2_1 + 1)), (0, .ref q_a0), (1, .int x1), (3, .int (Int32.ofNat n_a0))]) hx hb dJ7_fill_53178_14 hl (k := 2) rfl rfl (by decide) rfl (fun ls hl => ?_)
        refine lv_goto (tgt := 5) hx hb dJ7_fill_53178_17 (by decide) ?_
        exact ih_4 (x2_1 + 1) (upd v_a0_2 (Int32.toNatClampNeg x2_1) x1) hf _ _ _ hP hD hS (lv_sub hl [1, 2, 0, 3] rfl)
  exact L5_3 FU 0 v_a0 hf _ _ _ hP hD hS (lv_sub hl [2, 3, 1, 0] rfl)

def f_J7_fill_d0a16_L6 (n_a0 : Nat) (x1 : Int64) (x4 : Int32) : Nat → (Int32) → (Nat → Int64) → Option ((Nat → Int64))
  | 0, _, _ => none
  | n + 1, x3, v_a0 => (if x4 ≤ x3 then (some v_a0) else gd (ib x3 n_a0) ((f_J7_fill_d0a16_L6 n_a0 x1 x4 n (x3 + 1) (vp_updL v_a0 (Int32.toNatClampNeg x3) x1))))
def f_J7_fill_d0a16 (n_a0 : Nat) (v_a0 : Nat → Int64) (x1 : Int64) : Option ((Nat → Int64)) :=
  (f_J7_fill_d0a16_L6 n_a0 x1 (Int32.ofNat n_a0) FU 0 v_a0)
theorem gs_J7_fill_d0a16 {own : String} {idx : Nat} (h : Cond.methodLink own idx yJ7_fill_d0a16 ∈ lw_g) : GoodIn lw_g (va_wsS own idx yJ7_fill_d0a16 (Cond.code yJ7_fill_d0a16 cJ7_fill_d0a16 5 none :: lw_g)) := gS h w_804 w_61 w_805
theorem hd_J7_fill_d0a16 : yJ7_fill_d0a16.cls ≠ "java/lang/invoke/MethodHandle" ∧ yJ7_fill_d0a16.cls ≠ "java/lang/invoke/VarHandle" ∧ (parseMethodDescriptor yJ7_fill_d0a16.desc).map (fun d => d.parameters.length) = some 2 := by decide +kernel
set_option maxHeartbeats 4000000 in
set_option maxRecDepth 100000 in
theorem c_J7_fill_d0a16 (l : Launch) (D : va_G) (cI cJ cZ : ClassId) (en : EnT) (q_a0 : Nat) (n_a0 : Nat) (sz : Nat) (v_a0 : Nat → Int64) (x1 : Int64) {z : (Nat → Int64)} (hf : f_J7_fill_d0a16 n_a0 v_a0 x1 = some z) : Met l yJ7_fill_d0a16 (Cond.code yJ7_fill_d0a16 cJ7_fill_d0a16 5 none :: lw_g) ({ frames := 0, cells := 0, slots := 0, locals := 0 } : Room) (PC D cI cJ cZ en ([.ref q_a0, .long x1] : List Value) [(q_a0, .inl (cJ, n_a0, .inr (.inl v_a0)))] sz) (QV D cI cJ cZ [(q_a0, .inl (cJ, n_a0, .inr (.inl z)))] (va_A [(q_a0, .inl (cJ, n_a0, .inr (.inl v_a0)))] sz)) 0 0 (va_A [(q_a0, .inl (cJ, n_a0, .inr (.inl v_a0)))] sz) := by
  refine mk_met (Qc := fun A => (QV D cI cJ cZ [(q_a0, .inl (cJ, n_a0, .inr (.inl z)))] A)) RJ7 (by decide) rfl (Nat.le_of_ble_eq_true rfl) ?_
  intro p e s m below meth c ls A hx hb hr hml hown hts hlocks hA hK hE hl hD H locs hP hS
  have hl : lv_has ls 5 [(0, .ref q_a0), (1, .long x1)] := hl
  unfold f_J7_fill_d0a16 at hf
  refine lv_iconst (v := 0) hx hb dJ7_fill_d0a16_0 (by decide) ?_
  refine lv_istore_n (lv' := [(3, .int 0), (0, .ref q_a0), (1, .long x1)]) hx hb dJ7_fill_d0a16_1 rfl hl (by decide) rfl (fun ls hl => ?_)
  refine lv_aload_n hx hb dJ7_fill_d0a16_2 rfl (lv_at hl 1 rfl) ?_
  refine va_alen (v := (Int32.ofNat n_a0)) hx hb hK hP 0 1 rfl rfl rfl dJ7_fill_d0a16_3 ?_
  refine lv_istore (lv' := [(4, .int (Int32.ofNat n_a0)), (3, .int 0), (0, .ref q_a0), (1, .long x1)]) hx hb dJ7_fill_d0a16_4 hl (by decide) rfl (fun ls hl => ?_)
  have L6_3 : ∀ (n_5 : Nat) (x3_1 : Int32) (v_a0_2 : Nat → Int64), f_J7_fill_d0a16_L6 n_a0 x1 (Int32.ofNat n_a0) n_5 x3_1 v_a0_2 = some z → ∀ (H : Heap) (locs : List Loc) (ls : Array Slot), va_P D vwCl [(q_a0, .inl (cJ, n_a0, .inr (.inl v_a0_2)))] H → va_D A [(q_a0, .inl (cJ, n_a0, .inr (.inl v_a0_2)))] → va_S A s.heap H locs → lv_has ls 5 [(0, .ref q_a0), (1, .long x1), (3, .int x3_1), (4, .int (Int32.ofNat n_a0))] → W p l e ({ frames := 0, cells := 0, slots := 0, locals := 0 } : Room) s m ([.ref q_a0, .long x1] : List Value).toArray below meth c H locs 0 0 (MQ below (QV D cI cJ cZ [(q_a0, .inl (cJ, n_a0, .inr (.inl z)))] A) ([.ref q_a0, .long x1] : List Value).toArray s 0 0 A) (F0 m 6 ls []) := by
    intro n_5
    induction n_5 with
    | zero =>
      intro x3_1 v_a0_2 hf
      cases hf
    | succ n_5 ih_4 =>
      intro x3_1 v_a0_2 hf H locs ls hP hD hS hl
      rw [f_J7_fill_d0a16_L6] at hf
      refine lv_iload_n hx hb dJ7_fill_d0a16_6 rfl (lv_at hl 2 rfl) ?_
      refine lv_iload hx hb dJ7_fill_d0a16_7 (lv_at hl 3 rfl) ?_
      refine lv_icmp_ge (tgt := 22) hx hb dJ7_fill_d0a16_9 (by decide) (fun h_6 => ?_) (fun h_6 => ?_)
      · have hf := (if_pos h_6).symm.trans hf
        have hf := Option.some.inj hf
        subst hf
        exact rt_v hx hb hr hlocks hK hP hS dJ7_fill_d0a16_22
      · have hf := (if_neg h_6).symm.trans hf
        refine lv_aload_n hx hb dJ7_fill_d0a16_12 rfl (lv_at hl 0 rfl) ?_
        refine lv_iload_n hx hb dJ7_fill_d0a16_13 rfl (lv_at hl 2 rfl) ?_
        refine lv_lload_n hx hb dJ7_fill_d0a16_14 rfl (lv_at hl 1 rfl) ?_
        obtain ⟨hin, hf⟩ := gd_some hf
        refine va_last hx hb hK hP hD hS 0 1 rfl rfl hin dJ7_fill_d0a16_15 (fun H locs hP hD hS => ?_)
        have hP : va_P D vwCl [(q_a0, .inl (cJ, n_a0, .inr (.inl (vp_updL v_a0_2 (Int32.toNatClampNeg x3_1) x1))))] H := hP
        have hD : va_D A [(q_a0, .inl (cJ, n_a0, .inr (.inl (vp_updL v_a0_2 (Int32.toNatClampNeg x3_1) x1))))] := hD
        refine lv_iinc (v := (x3_1 + 1)) (lv' := [(3, .int (x3_1 + 1)), (0, .ref q_a0), (1, .long x1), (4, .int (Int32.ofNat n_a0))]) hx hb dJ7_fill_d0a16_16 hl (k := 2) rfl rfl (by decide) rfl (fun ls hl => ?_)
        refine lv_goto (tgt := 6) hx hb dJ7_fill_d0a16_19 (by decide) ?_
        exact ih_4 (x3_1 + 1) (vp_updL v_a0_2 (Int32.toNatClampNeg x3_1) x1) hf _ _ _ hP hD hS (lv_sub hl [1, 2, 0, 3] rfl)
  exact L6_3 FU 0 v_a0 hf _ _ _ hP hD hS (lv_sub hl [2, 3, 1, 0] rfl)

def f_X2_addLaw (v_t_laws : Int32) (v_t_lawParts : Nat → Int32) (x1 : Int32) (x2 : Int32) (x3 : Int32) : Option (Int32 × (Nat → Int32)) :=
  (if v_t_laws < 0 then (some (v_t_laws, v_t_lawParts)) else (if v_t_laws < 6 then gd (ib (v_t_laws * 3) 18) (gd (ib ((v_t_laws * 3) + 1) 18) (gd (ib ((v_t_laws * 3) + 2) 18) ((some ((v_t_laws + 1), (upd (upd (upd v_t_lawParts (Int32.toNatClampNeg (v_t_laws * 3)) x1) (Int32.toNatClampNeg ((v_t_laws * 3) + 1)) x2) (Int32.toNatClampNeg ((v_t_laws * 3) + 2)) x3)))))) else (some (v_t_laws, v_t_lawParts))))
theorem gv_X2_addLaw {own : String} {idx : Nat} (h : Cond.methodLink own idx yX2_addLaw ∈ lw_g) : GoodIn lw_g (wsV own idx RX2 yX2_addLaw (Cond.code yX2_addLaw cX2_addLaw 4 none :: lw_g)) := gV h w_492 w_493 w_60 w_494
theorem hd_X2_addLaw : yX2_addLaw.cls = RX2 ∧ yX2_addLaw.cls ≠ "java/lang/invoke/MethodHandle" ∧ yX2_addLaw.cls ≠ "java/lang/invoke/VarHandle" ∧ (parseMethodDescriptor yX2_addLaw.desc).map (fun d => d.parameters.length) = some 3 := by decide +kernel
set_option maxHeartbeats 4000000 in
set_option maxRecDepth 100000 in
theorem c_X2_addLaw (l : Launch) (D : va_G) (cI cJ cZ : ClassId) (en : EnT) (q_t q_t_ground q_t_windows q_t_lawParts : Nat) (sz : Nat) (v_t_columns : Int32) (v_t_rows : Int32) (v_t_fade : Int32) (v_t_laws : Int32) (v_t_nightHours : Int32) (v_t_nightTimes : Int32) (v_t_ground : Nat → Int32) (v_t_windows : Nat → Int32) (v_t_lawParts : Nat → Int32) (x1 : Int32) (x2 : Int32) (x3 : Int32) {z : Int32 × (Nat → Int32)} (hf : f_X2_addLaw v_t_laws v_t_lawParts x1 x2 x3 = some z) : Met l yX2_addLaw (Cond.code yX2_addLaw cX2_addLaw 4 none :: lw_g) ({ frames := 0, cells := 0, slots := 0, locals := 0 } : Room) (PC D cI cJ cZ en ([.ref q_t, .int x1, .int x2, .int x3] : List Value) [(q_t, .inr (2, [.int v_t_columns, .int v_t_rows, .int v_t_fade, .int v_t_laws, .int v_t_nightHours, .int v_t_nightTimes, .ref q_t_ground, .ref q_t_windows, .ref q_t_lawParts])), (q_t_ground, .inl (cI, 36, .inl v_t_ground)), (q_t_windows, .inl (cI, 6, .inl v_t_windows)), (q_t_lawParts, .inl (cI, 18, .inl v_t_lawParts))] sz) (QV D cI cJ cZ [(q_t, .inr (2, [.int v_t_columns, .int v_t_rows, .int v_t_fade, .int z.1, .int v_t_nightHours, .int v_t_nightTimes, .ref q_t_ground, .ref q_t_windows, .ref q_t_lawParts])), (q_t_ground, .inl (cI, 36, .inl v_t_ground)), (q_t_windows, .inl (cI, 6, .inl v_t_windows)), (q_t_lawParts, .inl (cI, 18, .inl z.2))] (va_A [(q_t, .inr (2, [.int v_t_columns, .int v_t_rows, .int v_t_fade, .int v_t_laws, .int v_t_nightHours, .int v_t_nightTimes, .ref q_t_ground, .ref q_t_windows, .ref q_t_lawParts])), (q_t_ground, .inl (cI, 36, .inl v_t_ground)), (q_t_windows, .inl (cI, 6, .inl v_t_windows)), (q_t_lawParts, .inl (cI, 18, .inl v_t_lawParts))] sz)) 0 0 (va_A [(q_t, .inr (2, [.int v_t_columns, .int v_t_rows, .int v_t_fade, .int v_t_laws, .int v_t_nightHours, .int v_t_nightTimes, .ref q_t_ground, .ref q_t_windows, .ref q_t_lawParts])), (q_t_ground, .inl (cI, 36, .inl v_t_ground)), (q_t_windows, .inl (cI, 6, .inl v_t_windows)), (q_t_lawParts, .inl (cI, 18, .inl v_t_lawParts))] sz) := by
  refine mk_met (Qc := fun A => (QV D cI cJ cZ [(q_t, .inr (2, [.int v_t_columns, .int v_t_rows, .int v_t_fade, .int z.1, .int v_t_nightHours, .int v_t_nightTimes, .ref q_t_ground, .ref q_t_windows, .ref q_t_lawParts])), (q_t_ground, .inl (cI, 36, .inl v_t_ground)), (q_t_windows, .inl (cI, 6, .inl v_t_windows)), (q_t_lawParts, .inl (cI, 18, .inl z.2))] A)) RX2 (by decide) rfl (Nat.le_of_ble_eq_true rfl) ?_
  intro p e s m below meth c ls A hx hb hr hml hown hts hlocks hA hK hE hl hD H locs hP hS
  have hl : lv_has ls 4 [(0, .ref q_t), (1, .int x1), (2, .int x2), (3, .int x3)] := hl
  unfold f_X2_addLaw at hf
  refine lv_aload_n hx hb dX2_addLaw_0 rfl (lv_at hl 0 rfl) ?_
  refine va_get (D := D) (ci := 2) (v := .int v_t_laws) (C := RX2) (T := TX2) (N := 9) hx hb hts inX2 hown hK hP 0 rfl rfl 3 (by decide) (hts _ w_143) (fun _ h9 => h9) rfl dX2_addLaw_1 ?_
  refine lv_if_lt (tgt := 16) hx hb dX2_addLaw_4 (by decide) (fun h_1 => ?_) (fun h_1 => ?_)
  · have hf := (if_pos h_1).symm.trans hf
    have hf := Option.some.inj hf
    subst hf
    exact rt_v hx hb hr hlocks hK hP hS dX2_addLaw_16
  · have hf := (if_neg h_1).symm.trans hf
    refine lv_aload_n hx hb dX2_addLaw_7 rfl (lv_at hl 0 rfl) ?_
    refine va_get (D := D) (ci := 2) (v := .int v_t_laws) (C := RX2) (T := TX2) (N := 9) hx hb hts inX2 hown hK hP 0 rfl rfl 3 (by decide) (hts _ w_143) (fun _ h9 => h9) rfl dX2_addLaw_8 ?_
    refine lv_bipush (v := 6) hx hb dX2_addLaw_11 (by decide) ?_
    refine lv_icmp_lt (tgt := 17) hx hb dX2_addLaw_13 (by decide) (fun h_2 => ?_) (fun h_2 => ?_)
    · have hf := (if_pos h_2).symm.trans hf
      refine lv_aload_n hx hb dX2_addLaw_17 rfl (lv_at hl 0 rfl) ?_
      refine va_get (D := D) (ci := 2) (v := .ref q_t_lawParts) (C := RX2) (T := TX2) (N := 9) hx hb hts inX2 hown hK hP 0 rfl rfl 8 (by decide) (hts _ w_152) (fun _ h9 => h9) rfl dX2_addLaw_18 ?_
      refine lv_aload_n hx hb dX2_addLaw_21 rfl (lv_at hl 0 rfl) ?_
      refine va_get (D := D) (ci := 2) (v := .int v_t_laws) (C := RX2) (T := TX2) (N := 9) hx hb hts inX2 hown hK hP 0 rfl rfl 3 (by decide) (hts _ w_143) (fun _ h9 => h9) rfl dX2_addLaw_22 ?_
      refine lv_iconst (v := 3) hx hb dX2_addLaw_25 (by decide) ?_
      refine lv_imul hx hb dX2_addLaw_26 ?_
      refine lv_iload_n hx hb dX2_addLaw_27 rfl (lv_at hl 1 rfl) ?_
      obtain ⟨hin, hf⟩ := gd_some hf
      refine va_iast hx hb hK hP hD hS 3 0 rfl rfl hin dX2_addLaw_28 (fun H locs hP hD hS => ?_)
      have hP : va_P D vwCl [(q_t, .inr (2, [.int v_t_columns, .int v_t_rows, .int v_t_fade, .int v_t_laws, .int v_t_nightHours, .int v_t_nightTimes, .ref q_t_ground, .ref q_t_windows, .ref q_t_lawParts])), (q_t_ground, .inl (cI, 36, .inl v_t_ground)), (q_t_windows, .inl (cI, 6, .inl v_t_windows)), (q_t_lawParts, .inl (cI, 18, .inl (upd v_t_lawParts (Int32.toNatClampNeg (v_t_laws * 3)) x1)))] H := hP
      have hD : va_D A [(q_t, .inr (2, [.int v_t_columns, .int v_t_rows, .int v_t_fade, .int v_t_laws, .int v_t_nightHours, .int v_t_nightTimes, .ref q_t_ground, .ref q_t_windows, .ref q_t_lawParts])), (q_t_ground, .inl (cI, 36, .inl v_t_ground)), (q_t_windows, .inl (cI, 6, .inl v_t_windows)), (q_t_lawParts, .inl (cI, 18, .inl (upd v_t_lawParts (Int32.toNatClampNeg (v_t_laws * 3)) x1)))] := hD
      refine lv_aload_n hx hb dX2_addLaw_29 rfl (lv_at hl 0 rfl) ?_
      refine va_get (D := D) (ci := 2) (v := .ref q_t_lawParts) (C := RX2) (T := TX2) (N := 9) hx hb hts inX2 hown hK hP 0 rfl rfl 8 (by decide) (hts _ w_152) (fun _ h9 => h9) rfl dX2_addLaw_30 ?_
      refine lv_aload_n hx hb dX2_addLaw_33 rfl (lv_at hl 0 rfl) ?_
      refine va_get (D := D) (ci := 2) (v := .int v_t_laws) (C := RX2) (T := TX2) (N := 9) hx hb hts inX2 hown hK hP 0 rfl rfl 3 (by decide) (hts _ w_143) (fun _ h9 => h9) rfl dX2_addLaw_34 ?_
      refine lv_iconst (v := 3) hx hb dX2_addLaw_37 (by decide) ?_
      refine lv_imul hx hb dX2_addLaw_38 ?_
      refine lv_iconst (v := 1) hx hb dX2_addLaw_39 (by decide) ?_
      refine lv_iadd hx hb dX2_addLaw_40 ?_
      refine lv_iload_n hx hb dX2_addLaw_41 rfl (lv_at hl 2 rfl) ?_
      obtain ⟨hin, hf⟩ := gd_some hf
      refine va_iast hx hb hK hP hD hS 3 0 rfl rfl hin dX2_addLaw_42 (fun H locs hP hD hS => ?_)
      have hP : va_P D vwCl [(q_t, .inr (2, [.int v_t_columns, .int v_t_rows, .int v_t_fade, .int v_t_laws, .int v_t_nightHours, .int v_t_nightTimes, .ref q_t_ground, .ref q_t_windows, .ref q_t_lawParts])), (q_t_ground, .inl (cI, 36, .inl v_t_ground)), (q_t_windows, .inl (cI, 6, .inl v_t_windows)), (q_t_lawParts, .inl (cI, 18, .inl (upd (upd v_t_lawParts (Int32.toNatClampNeg (v_t_laws * 3)) x1) (Int32.toNatClampNeg ((v_t_laws * 3) + 1)) x2)))] H := hP
      have hD : va_D A [(q_t, .inr (2, [.int v_t_columns, .int v_t_rows, .int v_t_fade, .int v_t_laws, .int v_t_nightHours, .int v_t_nightTimes, .ref q_t_ground, .ref q_t_windows, .ref q_t_lawParts])), (q_t_ground, .inl (cI, 36, .inl v_t_ground)), (q_t_windows, .inl (cI, 6, .inl v_t_windows)), (q_t_lawParts, .inl (cI, 18, .inl (upd (upd v_t_lawParts (Int32.toNatClampNeg (v_t_laws * 3)) x1) (Int32.toNatClampNeg ((v_t_laws * 3) + 1)) x2)))] := hD
      refine lv_aload_n hx hb dX2_addLaw_43 rfl (lv_at hl 0 rfl) ?_
      refine va_get (D := D) (ci := 2) (v := .ref q_t_lawParts) (C := RX2) (T := TX2) (N := 9) hx hb hts inX2 hown hK hP 0 rfl rfl 8 (by decide) (hts _ w_152) (fun _ h9 => h9) rfl dX2_addLaw_44 ?_
      refine lv_aload_n hx hb dX2_addLaw_47 rfl (lv_at hl 0 rfl) ?_
      refine va_get (D := D) (ci := 2) (v := .int v_t_laws) (C := RX2) (T := TX2) (N := 9) hx hb hts inX2 hown hK hP 0 rfl rfl 3 (by decide) (hts _ w_143) (fun _ h9 => h9) rfl dX2_addLaw_48 ?_
      refine lv_iconst (v := 3) hx hb dX2_addLaw_51 (by decide) ?_
      refine lv_imul hx hb dX2_addLaw_52 ?_
      refine lv_iconst (v := 2) hx hb dX2_addLaw_53 (by decide) ?_
      refine lv_iadd hx hb dX2_addLaw_54 ?_
      refine lv_iload_n hx hb dX2_addLaw_55 rfl (lv_at hl 3 rfl) ?_
      obtain ⟨hin, hf⟩ := gd_some hf
      refine va_iast hx hb hK hP hD hS 3 0 rfl rfl hin dX2_addLaw_56 (fun H locs hP hD hS => ?_)
      have hP : va_P D vwCl [(q_t, .inr (2, [.int v_t_columns, .int v_t_rows, .int v_t_fade, .int v_t_laws, .int v_t_nightHours, .int v_t_nightTimes, .ref q_t_ground, .ref q_t_windows, .ref q_t_lawParts])), (q_t_ground, .inl (cI, 36, .inl v_t_ground)), (q_t_windows, .inl (cI, 6, .inl v_t_windows)), (q_t_lawParts, .inl (cI, 18, .inl (upd (upd (upd v_t_lawParts (Int32.toNatClampNeg (v_t_laws * 3)) x1) (Int32.toNatClampNeg ((v_t_laws * 3) + 1)) x2) (Int32.toNatClampNeg ((v_t_laws * 3) + 2)) x3)))] H := hP
      have hD : va_D A [(q_t, .inr (2, [.int v_t_columns, .int v_t_rows, .int v_t_fade, .int v_t_laws, .int v_t_nightHours, .int v_t_nightTimes, .ref q_t_ground, .ref q_t_windows, .ref q_t_lawParts])), (q_t_ground, .inl (cI, 36, .inl v_t_ground)), (q_t_windows, .inl (cI, 6, .inl v_t_windows)), (q_t_lawParts, .inl (cI, 18, .inl (upd (upd (upd v_t_lawParts (Int32.toNatClampNeg (v_t_laws * 3)) x1) (Int32.toNatClampNeg ((v_t_laws * 3) + 1)) x2) (Int32.toNatClampNeg ((v_t_laws * 3) + 2)) x3)))] := hD
      refine lv_aload_n hx hb dX2_addLaw_57 rfl (lv_at hl 0 rfl) ?_
      refine lv_dup hx hb dX2_addLaw_58 rfl ?_
      refine va_get (D := D) (ci := 2) (v := .int v_t_laws) (C := RX2) (T := TX2) (N := 9) hx hb hts inX2 hown hK hP 0 rfl rfl 3 (by decide) (hts _ w_143) (fun _ h9 => h9) rfl dX2_addLaw_59 ?_
      refine lv_iconst (v := 1) hx hb dX2_addLaw_62 (by decide) ?_
      refine lv_iadd hx hb dX2_addLaw_63 ?_
      refine va_put (D := D) (ci := 2) (v := .int (v_t_laws + 1)) (ty := .int) (C := RX2) (T := TX2) (N := 9) hx hb hts inX2 tyX2 tyX2_ok nmX2 hown hK hP hD hS 0 rfl rfl 3 (by decide) (hts _ w_143) (fun _ h9 => h9) rfl (by decide +kernel) rfl rfl (Nat.le_of_ble_eq_true rfl) dX2_addLaw_64 (fun H locs hP hD hS => ?_)
      have hP : va_P D vwCl [(q_t, .inr (2, [.int v_t_columns, .int v_t_rows, .int v_t_fade, .int (v_t_laws + 1), .int v_t_nightHours, .int v_t_nightTimes, .ref q_t_ground, .ref q_t_windows, .ref q_t_lawParts])), (q_t_ground, .inl (cI, 36, .inl v_t_ground)), (q_t_windows, .inl (cI, 6, .inl v_t_windows)), (q_t_lawParts, .inl (cI, 18, .inl (upd (upd (upd v_t_lawParts (Int32.toNatClampNeg (v_t_laws * 3)) x1) (Int32.toNatClampNeg ((v_t_laws * 3) + 1)) x2) (Int32.toNatClampNeg ((v_t_laws * 3) + 2)) x3)))] H := hP
      have hD : va_D A [(q_t, .inr (2, [.int v_t_columns, .int v_t_rows, .int v_t_fade, .int (v_t_laws + 1), .int v_t_nightHours, .int v_t_nightTimes, .ref q_t_ground, .ref q_t_windows, .ref q_t_lawParts])), (q_t_ground, .inl (cI, 36, .inl v_t_ground)), (q_t_windows, .inl (cI, 6, .inl v_t_windows)), (q_t_lawParts, .inl (cI, 18, .inl (upd (upd (upd v_t_lawParts (Int32.toNatClampNeg (v_t_laws * 3)) x1) (Int32.toNatClampNeg ((v_t_laws * 3) + 1)) x2) (Int32.toNatClampNeg ((v_t_laws * 3) + 2)) x3)))] := hD
      have hf := Option.some.inj hf
      subst hf
      exact rt_v hx hb hr hlocks hK hP hS dX2_addLaw_67
    · have hf := (if_neg h_2).symm.trans hf
      have hf := Option.some.inj hf
      subst hf
      exact rt_v hx hb hr hlocks hK hP hS dX2_addLaw_16

def f_X2_setNight_L16 (v_t_nightTimes : Int32) (x2 : Int32) : Nat → (Int32) → (Int32) → (Int32) → Option (Int32 × Int32)
  | 0, _, _, _ => none
  | n + 1, x4, x5, v_t_nightHours => (if 24 ≤ x5 then (some (v_t_nightHours, v_t_nightTimes)) else (if x4 = x2 then (some (v_t_nightHours, v_t_nightTimes)) else (f_X2_setNight_L16 v_t_nightTimes x2 n ((x4 + 1) - (x4 + 1) / 24 * 24) (x5 + 1) (v_t_nightHours ||| (1 <<< (x4 &&& 31))))))
def f_X2_setNight (v_t_nightHours : Int32) (v_t_nightTimes : Int32) (x1 : Int32) (x2 : Int32) (x3 : Int32) : Option (Int32 × Int32) :=
  (f_X2_setNight_L16 x3 x2 FU x1 0 0)
theorem gv_X2_setNight {own : String} {idx : Nat} (h : Cond.methodLink own idx yX2_setNight ∈ lw_g) : GoodIn lw_g (wsV own idx RX2 yX2_setNight (Cond.code yX2_setNight cX2_setNight 6 none :: lw_g)) := gV h w_496 w_497 w_60 w_498
theorem hd_X2_setNight : yX2_setNight.cls = RX2 ∧ yX2_setNight.cls ≠ "java/lang/invoke/MethodHandle" ∧ yX2_setNight.cls ≠ "java/lang/invoke/VarHandle" ∧ (parseMethodDescriptor yX2_setNight.desc).map (fun d => d.parameters.length) = some 3 := by decide +kernel
set_option maxHeartbeats 4000000 in
set_option maxRecDepth 100000 in
theorem c_X2_setNight (l : Launch) (D : va_G) (cI cJ cZ : ClassId) (en : EnT) (q_t q_t_ground q_t_windows q_t_lawParts : Nat) (sz : Nat) (v_t_columns : Int32) (v_t_rows : Int32) (v_t_fade : Int32) (v_t_laws : Int32) (v_t_nightHours : Int32) (v_t_nightTimes : Int32) (v_t_ground : Nat → Int32) (v_t_windows : Nat → Int32) (v_t_lawParts : Nat → Int32) (x1 : Int32) (x2 : Int32) (x3 : Int32) {z : Int32 × Int32} (hf : f_X2_setNight v_t_nightHours v_t_nightTimes x1 x2 x3 = some z) : Met l yX2_setNight (Cond.code yX2_setNight cX2_setNight 6 none :: lw_g) ({ frames := 0, cells := 0, slots := 0, locals := 0 } : Room) (PC D cI cJ cZ en ([.ref q_t, .int x1, .int x2, .int x3] : List Value) [(q_t, .inr (2, [.int v_t_columns, .int v_t_rows, .int v_t_fade, .int v_t_laws, .int v_t_nightHours, .int v_t_nightTimes, .ref q_t_ground, .ref q_t_windows, .ref q_t_lawParts])), (q_t_ground, .inl (cI, 36, .inl v_t_ground)), (q_t_windows, .inl (cI, 6, .inl v_t_windows)), (q_t_lawParts, .inl (cI, 18, .inl v_t_lawParts))] sz) (QV D cI cJ cZ [(q_t, .inr (2, [.int v_t_columns, .int v_t_rows, .int v_t_fade, .int v_t_laws, .int z.1, .int z.2, .ref q_t_ground, .ref q_t_windows, .ref q_t_lawParts])), (q_t_ground, .inl (cI, 36, .inl v_t_ground)), (q_t_windows, .inl (cI, 6, .inl v_t_windows)), (q_t_lawParts, .inl (cI, 18, .inl v_t_lawParts))] (va_A [(q_t, .inr (2, [.int v_t_columns, .int v_t_rows, .int v_t_fade, .int v_t_laws, .int v_t_nightHours, .int v_t_nightTimes, .ref q_t_ground, .ref q_t_windows, .ref q_t_lawParts])), (q_t_ground, .inl (cI, 36, .inl v_t_ground)), (q_t_windows, .inl (cI, 6, .inl v_t_windows)), (q_t_lawParts, .inl (cI, 18, .inl v_t_lawParts))] sz)) 0 0 (va_A [(q_t, .inr (2, [.int v_t_columns, .int v_t_rows, .int v_t_fade, .int v_t_laws, .int v_t_nightHours, .int v_t_nightTimes, .ref q_t_ground, .ref q_t_windows, .ref q_t_lawParts])), (q_t_ground, .inl (cI, 36, .inl v_t_ground)), (q_t_windows, .inl (cI, 6, .inl v_t_windows)), (q_t_lawParts, .inl (cI, 18, .inl v_t_lawParts))] sz) := by
  refine mk_met (Qc := fun A => (QV D cI cJ cZ [(q_t, .inr (2, [.int v_t_columns, .int v_t_rows, .int v_t_fade, .int v_t_laws, .int z.1, .int z.2, .ref q_t_ground, .ref q_t_windows, .ref q_t_lawParts])), (q_t_ground, .inl (cI, 36, .inl v_t_ground)), (q_t_windows, .inl (cI, 6, .inl v_t_windows)), (q_t_lawParts, .inl (cI, 18, .inl v_t_lawParts))] A)) RX2 (by decide) rfl (Nat.le_of_ble_eq_true rfl) ?_
  intro p e s m below meth c ls A hx hb hr hml hown hts hlocks hA hK hE hl hD H locs hP hS
  have hl : lv_has ls 6 [(0, .ref q_t), (1, .int x1), (2, .int x2), (3, .int x3)] := hl
  unfold f_X2_setNight at hf
  refine lv_aload_n hx hb dX2_setNight_0 rfl (lv_at hl 0 rfl) ?_
  refine lv_iconst (v := 0) hx hb dX2_setNight_1 (by decide) ?_
  refine va_put (D := D) (ci := 2) (v := .int 0) (ty := .int) (C := RX2) (T := TX2) (N := 9) hx hb hts inX2 tyX2 tyX2_ok nmX2 hown hK hP hD hS 0 rfl rfl 4 (by decide) (hts _ w_146) (fun _ h9 => h9) rfl (by decide +kernel) rfl rfl (Nat.le_of_ble_eq_true rfl) dX2_setNight_2 (fun H locs hP hD hS => ?_)
  have hP : va_P D vwCl [(q_t, .inr (2, [.int v_t_columns, .int v_t_rows, .int v_t_fade, .int v_t_laws, .int 0, .int v_t_nightTimes, .ref q_t_ground, .ref q_t_windows, .ref q_t_lawParts])), (q_t_ground, .inl (cI, 36, .inl v_t_ground)), (q_t_windows, .inl (cI, 6, .inl v_t_windows)), (q_t_lawParts, .inl (cI, 18, .inl v_t_lawParts))] H := hP
  have hD : va_D A [(q_t, .inr (2, [.int v_t_columns, .int v_t_rows, .int v_t_fade, .int v_t_laws, .int 0, .int v_t_nightTimes, .ref q_t_ground, .ref q_t_windows, .ref q_t_lawParts])), (q_t_ground, .inl (cI, 36, .inl v_t_ground)), (q_t_windows, .inl (cI, 6, .inl v_t_windows)), (q_t_lawParts, .inl (cI, 18, .inl v_t_lawParts))] := hD
  refine lv_aload_n hx hb dX2_setNight_5 rfl (lv_at hl 0 rfl) ?_
  refine lv_iload_n hx hb dX2_setNight_6 rfl (lv_at hl 3 rfl) ?_
  refine va_put (D := D) (ci := 2) (v := .int x3) (ty := .int) (C := RX2) (T := TX2) (N := 9) hx hb hts inX2 tyX2 tyX2_ok nmX2 hown hK hP hD hS 0 rfl rfl 5 (by decide) (hts _ w_148) (fun _ h9 => h9) rfl (by decide +kernel) rfl rfl (Nat.le_of_ble_eq_true rfl) dX2_setNight_7 (fun H locs hP hD hS => ?_)
  have hP : va_P D vwCl [(q_t, .inr (2, [.int v_t_columns, .int v_t_rows, .int v_t_fade, .int v_t_laws, .int 0, .int x3, .ref q_t_ground, .ref q_t_windows, .ref q_t_lawParts])), (q_t_ground, .inl (cI, 36, .inl v_t_ground)), (q_t_windows, .inl (cI, 6, .inl v_t_windows)), (q_t_lawParts, .inl (cI, 18, .inl v_t_lawParts))] H := hP
  have hD : va_D A [(q_t, .inr (2, [.int v_t_columns, .int v_t_rows, .int v_t_fade, .int v_t_laws, .int 0, .int x3, .ref q_t_ground, .ref q_t_windows, .ref q_t_lawParts])), (q_t_ground, .inl (cI, 36, .inl v_t_ground)), (q_t_windows, .inl (cI, 6, .inl v_t_windows)), (q_t_lawParts, .inl (cI, 18, .inl v_t_lawParts))] := hD
  refine lv_iload_n hx hb dX2_setNight_10 rfl (lv_at hl 1 rfl) ?_
  refine lv_istore (lv' := [(4, .int x1), (0, .ref q_t), (1, .int x1), (2, .int x2), (3, .int x3)]) hx hb dX2_setNight_11 hl (by decide) rfl (fun ls hl => ?_)
  refine lv_iconst (v := 0) hx hb dX2_setNight_13 (by decide) ?_
  refine lv_istore (lv' := [(5, .int 0), (4, .int x1), (0, .ref q_t), (1, .int x1), (2, .int x2), (3, .int x3)]) hx hb dX2_setNight_14 hl (by decide) rfl (fun ls hl => ?_)
  have L16_4 : ∀ (n_6 : Nat) (x4_1 : Int32) (x5_2 : Int32) (v_t_nightHours_3 : Int32), f_X2_setNight_L16 x3 x2 n_6 x4_1 x5_2 v_t_nightHours_3 = some z → ∀ (H : Heap) (locs : List Loc) (ls : Array Slot), va_P D vwCl [(q_t, .inr (2, [.int v_t_columns, .int v_t_rows, .int v_t_fade, .int v_t_laws, .int v_t_nightHours_3, .int x3, .ref q_t_ground, .ref q_t_windows, .ref q_t_lawParts])), (q_t_ground, .inl (cI, 36, .inl v_t_ground)), (q_t_windows, .inl (cI, 6, .inl v_t_windows)), (q_t_lawParts, .inl (cI, 18, .inl v_t_lawParts))] H → va_D A [(q_t, .inr (2, [.int v_t_columns, .int v_t_rows, .int v_t_fade, .int v_t_laws, .int v_t_nightHours_3, .int x3, .ref q_t_ground, .ref q_t_windows, .ref q_t_lawParts])), (q_t_ground, .inl (cI, 36, .inl v_t_ground)), (q_t_windows, .inl (cI, 6, .inl v_t_windows)), (q_t_lawParts, .inl (cI, 18, .inl v_t_lawParts))] → va_S A s.heap H locs → lv_has ls 6 [(0, .ref q_t), (2, .int x2), (4, .int x4_1), (5, .int x5_2)] → W p l e ({ frames := 0, cells := 0, slots := 0, locals := 0 } : Room) s m ([.ref q_t, .int x1, .int x2, .int x3] : List Value).toArray below meth c H locs 0 0 (MQ below (QV D cI cJ cZ [(q_t, .inr (2, [.int v_t_columns, .int v_t_rows, .int v_t_fade, .int v_t_laws, .int z.1, .int z.2, .ref q_t_ground, .ref q_t_windows, .ref q_t_lawParts])), (q_t_ground, .inl (cI, 36, .inl v_t_ground)), (q_t_windows, .inl (cI, 6, .inl v_t_windows)), (q_t_lawParts, .inl (cI, 18, .inl v_t_lawParts))] A) ([.ref q_t, .int x1, .int x2, .int x3] : List Value).toArray s 0 0 A) (F0 m 16 ls []) := by
    intro n_6
    induction n_6 with
    | zero =>
      intro x4_1 x5_2 v_t_nightHours_3 hf
      cases hf
    | succ n_6 ih_5 =>
      intro x4_1 x5_2 v_t_nightHours_3 hf H locs ls hP hD hS hl
      rw [f_X2_setNight_L16] at hf
      refine lv_iload hx hb dX2_setNight_16 (lv_at hl 3 rfl) ?_
      refine lv_bipush (v := 24) hx hb dX2_setNight_18 (by decide) ?_
      refine lv_icmp_ge (tgt := 57) hx hb dX2_setNight_20 (by decide) (fun h_7 => ?_) (fun h_7 => ?_)
      · have hf := (if_pos h_7).symm.trans hf
        have hf := Option.some.inj hf
        subst hf
        exact rt_v hx hb hr hlocks hK hP hS dX2_setNight_57
      · have hf := (if_neg h_7).symm.trans hf
        refine lv_iload hx hb dX2_setNight_23 (lv_at hl 2 rfl) ?_
        refine lv_iload_n hx hb dX2_setNight_25 rfl (lv_at hl 1 rfl) ?_
        refine lv_icmp_eq (tgt := 57) hx hb dX2_setNight_26 (by decide) (fun h_8 => ?_) (fun h_8 => ?_)
        · have hf := (if_pos h_8).symm.trans hf
          have hf := Option.some.inj hf
          subst hf
          exact rt_v hx hb hr hlocks hK hP hS dX2_setNight_57
        · have hf := (if_neg h_8).symm.trans hf
          refine lv_aload_n hx hb dX2_setNight_29 rfl (lv_at hl 0 rfl) ?_
          refine lv_dup hx hb dX2_setNight_30 rfl ?_
          refine va_get (D := D) (ci := 2) (v := .int v_t_nightHours_3) (C := RX2) (T := TX2) (N := 9) hx hb hts inX2 hown hK hP 0 rfl rfl 4 (by decide) (hts _ w_146) (fun _ h9 => h9) rfl dX2_setNight_31 ?_
          refine lv_iconst (v := 1) hx hb dX2_setNight_34 (by decide) ?_
          refine lv_iload hx hb dX2_setNight_35 (lv_at hl 2 rfl) ?_
          refine lv_ishl hx hb dX2_setNight_37 ?_
          refine lv_ior hx hb dX2_setNight_38 ?_
          refine va_put (D := D) (ci := 2) (v := .int (v_t_nightHours_3 ||| (1 <<< (x4_1 &&& 31)))) (ty := .int) (C := RX2) (T := TX2) (N := 9) hx hb hts inX2 tyX2 tyX2_ok nmX2 hown hK hP hD hS 0 rfl rfl 4 (by decide) (hts _ w_146) (fun _ h9 => h9) rfl (by decide +kernel) rfl rfl (Nat.le_of_ble_eq_true rfl) dX2_setNight_39 (fun H locs hP hD hS => ?_)
          have hP : va_P D vwCl [(q_t, .inr (2, [.int v_t_columns, .int v_t_rows, .int v_t_fade, .int v_t_laws, .int (v_t_nightHours_3 ||| (1 <<< (x4_1 &&& 31))), .int x3, .ref q_t_ground, .ref q_t_windows, .ref q_t_lawParts])), (q_t_ground, .inl (cI, 36, .inl v_t_ground)), (q_t_windows, .inl (cI, 6, .inl v_t_windows)), (q_t_lawParts, .inl (cI, 18, .inl v_t_lawParts))] H := hP
          have hD : va_D A [(q_t, .inr (2, [.int v_t_columns, .int v_t_rows, .int v_t_fade, .int v_t_laws, .int (v_t_nightHours_3 ||| (1 <<< (x4_1 &&& 31))), .int x3, .ref q_t_ground, .ref q_t_windows, .ref q_t_lawParts])), (q_t_ground, .inl (cI, 36, .inl v_t_ground)), (q_t_windows, .inl (cI, 6, .inl v_t_windows)), (q_t_lawParts, .inl (cI, 18, .inl v_t_lawParts))] := hD
          refine lv_iload hx hb dX2_setNight_42 (lv_at hl 2 rfl) ?_
          refine lv_iconst (v := 1) hx hb dX2_setNight_44 (by decide) ?_
          refine lv_iadd hx hb dX2_setNight_45 ?_
          refine lv_bipush (v := 24) hx hb dX2_setNight_46 (by decide) ?_
          refine lv_irem hx hb dX2_setNight_48 (by decide) ?_
          refine lv_istore (lv' := [(4, .int ((x4_1 + 1) - (x4_1 + 1) / 24 * 24)), (0, .ref q_t), (2, .int x2), (5, .int x5_2)]) hx hb dX2_setNight_49 hl (by decide) rfl (fun ls hl => ?_)
          refine lv_iinc (v := (x5_2 + 1)) (lv' := [(5, .int (x5_2 + 1)), (4, .int ((x4_1 + 1) - (x4_1 + 1) / 24 * 24)), (0, .ref q_t), (2, .int x2)]) hx hb dX2_setNight_51 hl (k := 3) rfl rfl (by decide) rfl (fun ls hl => ?_)
          refine lv_goto (tgt := 16) hx hb dX2_setNight_54 (by decide) ?_
          exact ih_5 ((x4_1 + 1) - (x4_1 + 1) / 24 * 24) (x5_2 + 1) (v_t_nightHours_3 ||| (1 <<< (x4_1 &&& 31))) hf _ _ _ hP hD hS (lv_sub hl [2, 3, 1, 0] rfl)
  exact L16_4 FU x1 0 0 hf _ _ _ hP hD hS (lv_sub hl [2, 4, 1, 0] rfl)

def f_X2_ahead (v_t_columns : Int32) (v_t_rows : Int32) (x1 : Int32) (x2 : Int32) : Option (Int32) :=
  (f_X2_columnOf v_t_columns x1).bind (fun z3 => gd (ib (x2 &&& 7) 8) ((f_X2_rowOf v_t_columns x1).bind (fun z17 => gd (ib (x2 &&& 7) 8) ((f_X2_cellAt v_t_columns v_t_rows (z3 + (colF (Int32.toNatClampNeg (x2 &&& 7)))) (z17 + (rowF (Int32.toNatClampNeg (x2 &&& 7))))).bind (fun z29 => (some z29))))))
theorem gv_X2_ahead {own : String} {idx : Nat} (h : Cond.methodLink own idx yX2_ahead ∈ lw_g) : GoodIn lw_g (wsV own idx RX2 yX2_ahead (Cond.code yX2_ahead cX2_ahead 3 (some .int) :: lw_g)) := gV h w_594 w_595 w_60 w_596
theorem hd_X2_ahead : yX2_ahead.cls = RX2 ∧ yX2_ahead.cls ≠ "java/lang/invoke/MethodHandle" ∧ yX2_ahead.cls ≠ "java/lang/invoke/VarHandle" ∧ (parseMethodDescriptor yX2_ahead.desc).map (fun d => d.parameters.length) = some 2 := by decide +kernel
set_option maxHeartbeats 4000000 in
set_option maxRecDepth 100000 in
theorem c_X2_ahead (l : Launch) (D : va_G) (cI cJ cZ : ClassId) (en : EnT) (q_t q_t_ground q_t_windows q_t_lawParts : Nat) (sz : Nat) (v_t_columns : Int32) (v_t_rows : Int32) (v_t_fade : Int32) (v_t_laws : Int32) (v_t_nightHours : Int32) (v_t_nightTimes : Int32) (v_t_ground : Nat → Int32) (v_t_windows : Nat → Int32) (v_t_lawParts : Nat → Int32) (x1 : Int32) (x2 : Int32) {z : Int32} (hf : f_X2_ahead v_t_columns v_t_rows x1 x2 = some z) : Met l yX2_ahead (Cond.code yX2_ahead cX2_ahead 3 (some .int) :: lw_g) ({ frames := 1, cells := 0, slots := 0, locals := 22 } : Room) (PC D cI cJ cZ en ([.ref q_t, .int x1, .int x2] : List Value) [(q_t, .inr (2, [.int v_t_columns, .int v_t_rows, .int v_t_fade, .int v_t_laws, .int v_t_nightHours, .int v_t_nightTimes, .ref q_t_ground, .ref q_t_windows, .ref q_t_lawParts])), (q_t_ground, .inl (cI, 36, .inl v_t_ground)), (q_t_windows, .inl (cI, 6, .inl v_t_windows)), (q_t_lawParts, .inl (cI, 18, .inl v_t_lawParts))] sz) (QI D cI cJ cZ [(q_t, .inr (2, [.int v_t_columns, .int v_t_rows, .int v_t_fade, .int v_t_laws, .int v_t_nightHours, .int v_t_nightTimes, .ref q_t_ground, .ref q_t_windows, .ref q_t_lawParts])), (q_t_ground, .inl (cI, 36, .inl v_t_ground)), (q_t_windows, .inl (cI, 6, .inl v_t_windows)), (q_t_lawParts, .inl (cI, 18, .inl v_t_lawParts))] z (va_A [(q_t, .inr (2, [.int v_t_columns, .int v_t_rows, .int v_t_fade, .int v_t_laws, .int v_t_nightHours, .int v_t_nightTimes, .ref q_t_ground, .ref q_t_windows, .ref q_t_lawParts])), (q_t_ground, .inl (cI, 36, .inl v_t_ground)), (q_t_windows, .inl (cI, 6, .inl v_t_windows)), (q_t_lawParts, .inl (cI, 18, .inl v_t_lawParts))] sz)) 0 0 (va_A [(q_t, .inr (2, [.int v_t_columns, .int v_t_rows, .int v_t_fade, .int v_t_laws, .int v_t_nightHours, .int v_t_nightTimes, .ref q_t_ground, .ref q_t_windows, .ref q_t_lawParts])), (q_t_ground, .inl (cI, 36, .inl v_t_ground)), (q_t_windows, .inl (cI, 6, .inl v_t_windows)), (q_t_lawParts, .inl (cI, 18, .inl v_t_lawParts))] sz) := by
  refine mk_met (Qc := fun A => (QI D cI cJ cZ [(q_t, .inr (2, [.int v_t_columns, .int v_t_rows, .int v_t_fade, .int v_t_laws, .int v_t_nightHours, .int v_t_nightTimes, .ref q_t_ground, .ref q_t_windows, .ref q_t_lawParts])), (q_t_ground, .inl (cI, 36, .inl v_t_ground)), (q_t_windows, .inl (cI, 6, .inl v_t_windows)), (q_t_lawParts, .inl (cI, 18, .inl v_t_lawParts))] z A)) RX2 (by decide) rfl (Nat.le_of_ble_eq_true rfl) ?_
  intro p e s m below meth c ls A hx hb hr hml hown hts hlocks hA hK hE hl hD H locs hP hS
  have hl : lv_has ls 3 [(0, .ref q_t), (1, .int x1), (2, .int x2)] := hl
  unfold f_X2_ahead at hf
  refine lv_aload_n hx hb dX2_ahead_0 rfl (lv_at hl 0 rfl) ?_
  refine lv_aload_n hx hb dX2_ahead_1 rfl (lv_at hl 0 rfl) ?_
  refine lv_iload_n hx hb dX2_ahead_2 rfl (lv_at hl 1 rfl) ?_
  obtain ⟨z3_1, hz3_1, hf⟩ := bd_some hf
  refine cVi (rest := [.ref q_t]) ⟨hx, hb, hml, hown, hts⟩ hE hK hP hD hS hA (c_X2_columnOf l D cI cJ cZ en q_t q_t_ground q_t_windows q_t_lawParts H.size v_t_columns v_t_rows v_t_fade v_t_laws v_t_nightHours v_t_nightTimes v_t_ground v_t_windows v_t_lawParts x1 hz3_1) (gv_X2_columnOf w_597) hd_X2_columnOf ⟨rfl, rfl⟩ ⟨by decide, by decide⟩ [0, 1, 2, 3] (And.intro rfl (And.intro rfl (And.intro rfl (And.intro rfl trivial)))) rfl (And.intro rfl (And.intro rfl (And.intro rfl (And.intro rfl trivial)))) 2 rfl rfl 0 rfl  hl rfl (Nat.le_of_ble_eq_true rfl) ⟨Nat.zero_le _, Nat.zero_le _⟩ dX2_ahead_3 (fun H locs hP hD hS => ?_)
  have hP : va_P D vwCl [(q_t, .inr (2, [.int v_t_columns, .int v_t_rows, .int v_t_fade, .int v_t_laws, .int v_t_nightHours, .int v_t_nightTimes, .ref q_t_ground, .ref q_t_windows, .ref q_t_lawParts])), (q_t_ground, .inl (cI, 36, .inl v_t_ground)), (q_t_windows, .inl (cI, 6, .inl v_t_windows)), (q_t_lawParts, .inl (cI, 18, .inl v_t_lawParts))] H := hP
  have hD : va_D A [(q_t, .inr (2, [.int v_t_columns, .int v_t_rows, .int v_t_fade, .int v_t_laws, .int v_t_nightHours, .int v_t_nightTimes, .ref q_t_ground, .ref q_t_windows, .ref q_t_lawParts])), (q_t_ground, .inl (cI, 36, .inl v_t_ground)), (q_t_windows, .inl (cI, 6, .inl v_t_windows)), (q_t_lawParts, .inl (cI, 18, .inl v_t_lawParts))] := hD
  refine va_gets hx hb hE.2.2.1 hS hown (hts _ w_601) (fun _ h9 => h9) dX2_ahead_6 ?_
  refine lv_iload_n hx hb dX2_ahead_9 rfl (lv_at hl 2 rfl) ?_
  refine lv_bipush (v := 7) hx hb dX2_ahead_10 (by decide) ?_
  refine lv_iand hx hb dX2_ahead_12 ?_
  obtain ⟨hin, hf⟩ := gd_some hf
  refine va_ti hx hb hE.2.2.2.1 hS hin rfl dX2_ahead_13 ?_
  refine lv_iadd hx hb dX2_ahead_14 ?_
  refine lv_aload_n hx hb dX2_ahead_15 rfl (lv_at hl 0 rfl) ?_
  refine lv_iload_n hx hb dX2_ahead_16 rfl (lv_at hl 1 rfl) ?_
  obtain ⟨z17_2, hz17_2, hf⟩ := bd_some hf
  refine cVi (rest := [.int (z3_1 + (colF (Int32.toNatClampNeg (x2 &&& 7)))), .ref q_t]) ⟨hx, hb, hml, hown, hts⟩ hE hK hP hD hS hA (c_X2_rowOf l D cI cJ cZ en q_t q_t_ground q_t_windows q_t_lawParts H.size v_t_columns v_t_rows v_t_fade v_t_laws v_t_nightHours v_t_nightTimes v_t_ground v_t_windows v_t_lawParts x1 hz17_2) (gv_X2_rowOf w_603) hd_X2_rowOf ⟨rfl, rfl⟩ ⟨by decide, by decide⟩ [0, 1, 2, 3] (And.intro rfl (And.intro rfl (And.intro rfl (And.intro rfl trivial)))) rfl (And.intro rfl (And.intro rfl (And.intro rfl (And.intro rfl trivial)))) 2 rfl rfl 0 rfl  hl rfl (Nat.le_of_ble_eq_true rfl) ⟨Nat.zero_le _, Nat.zero_le _⟩ dX2_ahead_17 (fun H locs hP hD hS => ?_)
  have hP : va_P D vwCl [(q_t, .inr (2, [.int v_t_columns, .int v_t_rows, .int v_t_fade, .int v_t_laws, .int v_t_nightHours, .int v_t_nightTimes, .ref q_t_ground, .ref q_t_windows, .ref q_t_lawParts])), (q_t_ground, .inl (cI, 36, .inl v_t_ground)), (q_t_windows, .inl (cI, 6, .inl v_t_windows)), (q_t_lawParts, .inl (cI, 18, .inl v_t_lawParts))] H := hP
  have hD : va_D A [(q_t, .inr (2, [.int v_t_columns, .int v_t_rows, .int v_t_fade, .int v_t_laws, .int v_t_nightHours, .int v_t_nightTimes, .ref q_t_ground, .ref q_t_windows, .ref q_t_lawParts])), (q_t_ground, .inl (cI, 36, .inl v_t_ground)), (q_t_windows, .inl (cI, 6, .inl v_t_windows)), (q_t_lawParts, .inl (cI, 18, .inl v_t_lawParts))] := hD
  refine va_gets hx hb hE.2.2.2.2.1 hS hown (hts _ w_607) (fun _ h9 => h9) dX2_ahead_20 ?_
  refine lv_iload_n hx hb dX2_ahead_23 rfl (lv_at hl 2 rfl) ?_
  refine lv_bipush (v := 7) hx hb dX2_ahead_24 (by decide) ?_
  refine lv_iand hx hb dX2_ahead_26 ?_
  obtain ⟨hin, hf⟩ := gd_some hf
  refine va_ti hx hb hE.2.2.2.2.2.1 hS hin rfl dX2_ahead_27 ?_
  refine lv_iadd hx hb dX2_ahead_28 ?_
  obtain ⟨z29_3, hz29_3, hf⟩ := bd_some hf
  refine cVi (rest := []) ⟨hx, hb, hml, hown, hts⟩ hE hK hP hD hS hA (c_X2_cellAt l D cI cJ cZ en q_t q_t_ground q_t_windows q_t_lawParts H.size v_t_columns v_t_rows v_t_fade v_t_laws v_t_nightHours v_t_nightTimes v_t_ground v_t_windows v_t_lawParts (z3_1 + (colF (Int32.toNatClampNeg (x2 &&& 7)))) (z17_2 + (rowF (Int32.toNatClampNeg (x2 &&& 7)))) hz29_3) (gv_X2_cellAt w_609) hd_X2_cellAt ⟨rfl, rfl⟩ ⟨by decide, by decide⟩ [0, 1, 2, 3] (And.intro rfl (And.intro rfl (And.intro rfl (And.intro rfl trivial)))) rfl (And.intro rfl (And.intro rfl (And.intro rfl (And.intro rfl trivial)))) 2 rfl rfl 0 rfl  hl rfl (Nat.le_of_ble_eq_true rfl) ⟨Nat.zero_le _, Nat.zero_le _⟩ dX2_ahead_29 (fun H locs hP hD hS => ?_)
  have hP : va_P D vwCl [(q_t, .inr (2, [.int v_t_columns, .int v_t_rows, .int v_t_fade, .int v_t_laws, .int v_t_nightHours, .int v_t_nightTimes, .ref q_t_ground, .ref q_t_windows, .ref q_t_lawParts])), (q_t_ground, .inl (cI, 36, .inl v_t_ground)), (q_t_windows, .inl (cI, 6, .inl v_t_windows)), (q_t_lawParts, .inl (cI, 18, .inl v_t_lawParts))] H := hP
  have hD : va_D A [(q_t, .inr (2, [.int v_t_columns, .int v_t_rows, .int v_t_fade, .int v_t_laws, .int v_t_nightHours, .int v_t_nightTimes, .ref q_t_ground, .ref q_t_windows, .ref q_t_lawParts])), (q_t_ground, .inl (cI, 36, .inl v_t_ground)), (q_t_windows, .inl (cI, 6, .inl v_t_windows)), (q_t_lawParts, .inl (cI, 18, .inl v_t_lawParts))] := hD
  have hf := Option.some.inj hf
  subst hf
  exact rt_i hx hb hr hlocks hK hP hS dX2_ahead_32

def f_X2_loudThrownBack_J24 (x2 : Int32) (k0 : Int32) : Option (Int32) :=
  (some (x2 - ((x2 * k0) / 100)))
def f_X2_loudThrownBack (v_t_columns : Int32) (v_t_rows : Int32) (v_t_ground : Nat → Int32) (x1 : Int32) (x2 : Int32) (x3 : Int32) : Option (Int32) :=
  (if x3 = 0 then (f_X2_softOf v_t_columns v_t_rows v_t_ground x1).bind (fun z21 => (f_X2_loudThrownBack_J24 x2 z21)) else (f_X2_softOf v_t_columns v_t_rows v_t_ground x1).bind (fun z9 => (f_X2_loudThrownBack_J24 x2 (if (2 * z9) < 100 then (2 * z9) else 100))))
theorem gv_X2_loudThrownBack {own : String} {idx : Nat} (h : Cond.methodLink own idx yX2_loudThrownBack ∈ lw_g) : GoodIn lw_g (wsV own idx RX2 yX2_loudThrownBack (Cond.code yX2_loudThrownBack cX2_loudThrownBack 5 (some .int) :: lw_g)) := gV h w_612 w_613 w_60 w_614
theorem hd_X2_loudThrownBack : yX2_loudThrownBack.cls = RX2 ∧ yX2_loudThrownBack.cls ≠ "java/lang/invoke/MethodHandle" ∧ yX2_loudThrownBack.cls ≠ "java/lang/invoke/VarHandle" ∧ (parseMethodDescriptor yX2_loudThrownBack.desc).map (fun d => d.parameters.length) = some 3 := by decide +kernel
set_option maxHeartbeats 4000000 in
set_option maxRecDepth 100000 in
theorem c_X2_loudThrownBack (l : Launch) (D : va_G) (cI cJ cZ : ClassId) (en : EnT) (q_t q_t_ground q_t_windows q_t_lawParts : Nat) (sz : Nat) (v_t_columns : Int32) (v_t_rows : Int32) (v_t_fade : Int32) (v_t_laws : Int32) (v_t_nightHours : Int32) (v_t_nightTimes : Int32) (v_t_ground : Nat → Int32) (v_t_windows : Nat → Int32) (v_t_lawParts : Nat → Int32) (x1 : Int32) (x2 : Int32) (x3 : Int32) {z : Int32} (hf : f_X2_loudThrownBack v_t_columns v_t_rows v_t_ground x1 x2 x3 = some z) : Met l yX2_loudThrownBack (Cond.code yX2_loudThrownBack cX2_loudThrownBack 5 (some .int) :: lw_g) ({ frames := 2, cells := 0, slots := 0, locals := 42 } : Room) (PC D cI cJ cZ en ([.ref q_t, .int x1, .int x2, .int x3] : List Value) [(q_t, .inr (2, [.int v_t_columns, .int v_t_rows, .int v_t_fade, .int v_t_laws, .int v_t_nightHours, .int v_t_nightTimes, .ref q_t_ground, .ref q_t_windows, .ref q_t_lawParts])), (q_t_ground, .inl (cI, 36, .inl v_t_ground)), (q_t_windows, .inl (cI, 6, .inl v_t_windows)), (q_t_lawParts, .inl (cI, 18, .inl v_t_lawParts))] sz) (QI D cI cJ cZ [(q_t, .inr (2, [.int v_t_columns, .int v_t_rows, .int v_t_fade, .int v_t_laws, .int v_t_nightHours, .int v_t_nightTimes, .ref q_t_ground, .ref q_t_windows, .ref q_t_lawParts])), (q_t_ground, .inl (cI, 36, .inl v_t_ground)), (q_t_windows, .inl (cI, 6, .inl v_t_windows)), (q_t_lawParts, .inl (cI, 18, .inl v_t_lawParts))] z (va_A [(q_t, .inr (2, [.int v_t_columns, .int v_t_rows, .int v_t_fade, .int v_t_laws, .int v_t_nightHours, .int v_t_nightTimes, .ref q_t_ground, .ref q_t_windows, .ref q_t_lawParts])), (q_t_ground, .inl (cI, 36, .inl v_t_ground)), (q_t_windows, .inl (cI, 6, .inl v_t_windows)), (q_t_lawParts, .inl (cI, 18, .inl v_t_lawParts))] sz)) 0 0 (va_A [(q_t, .inr (2, [.int v_t_columns, .int v_t_rows, .int v_t_fade, .int v_t_laws, .int v_t_nightHours, .int v_t_nightTimes, .ref q_t_ground, .ref q_t_windows, .ref q_t_lawParts])), (q_t_ground, .inl (cI, 36, .inl v_t_ground)), (q_t_windows, .inl (cI, 6, .inl v_t_windows)), (q_t_lawParts, .inl (cI, 18, .inl v_t_lawParts))] sz) := by
  refine mk_met (Qc := fun A => (QI D cI cJ cZ [(q_t, .inr (2, [.int v_t_columns, .int v_t_rows, .int v_t_fade, .int v_t_laws, .int v_t_nightHours, .int v_t_nightTimes, .ref q_t_ground, .ref q_t_windows, .ref q_t_lawParts])), (q_t_ground, .inl (cI, 36, .inl v_t_ground)), (q_t_windows, .inl (cI, 6, .inl v_t_windows)), (q_t_lawParts, .inl (cI, 18, .inl v_t_lawParts))] z A)) RX2 (by decide) rfl (Nat.le_of_ble_eq_true rfl) ?_
  intro p e s m below meth c ls A hx hb hr hml hown hts hlocks hA hK hE hl hD H locs hP hS
  have hl : lv_has ls 5 [(0, .ref q_t), (1, .int x1), (2, .int x2), (3, .int x3)] := hl
  unfold f_X2_loudThrownBack at hf
  refine lv_iload_n hx hb dX2_loudThrownBack_0 rfl (lv_at hl 3 rfl) ?_
  have J24_2 : ∀ (k0_1 : Int32), f_X2_loudThrownBack_J24 x2 k0_1 = some z → ∀ (H : Heap) (locs : List Loc) (ls : Array Slot), va_P D vwCl [(q_t, .inr (2, [.int v_t_columns, .int v_t_rows, .int v_t_fade, .int v_t_laws, .int v_t_nightHours, .int v_t_nightTimes, .ref q_t_ground, .ref q_t_windows, .ref q_t_lawParts])), (q_t_ground, .inl (cI, 36, .inl v_t_ground)), (q_t_windows, .inl (cI, 6, .inl v_t_windows)), (q_t_lawParts, .inl (cI, 18, .inl v_t_lawParts))] H → va_D A [(q_t, .inr (2, [.int v_t_columns, .int v_t_rows, .int v_t_fade, .int v_t_laws, .int v_t_nightHours, .int v_t_nightTimes, .ref q_t_ground, .ref q_t_windows, .ref q_t_lawParts])), (q_t_ground, .inl (cI, 36, .inl v_t_ground)), (q_t_windows, .inl (cI, 6, .inl v_t_windows)), (q_t_lawParts, .inl (cI, 18, .inl v_t_lawParts))] → va_S A s.heap H locs → lv_has ls 5 [(2, .int x2)] → W p l e ({ frames := 2, cells := 0, slots := 0, locals := 42 } : Room) s m ([.ref q_t, .int x1, .int x2, .int x3] : List Value).toArray below meth c H locs 0 0 (MQ below (QI D cI cJ cZ [(q_t, .inr (2, [.int v_t_columns, .int v_t_rows, .int v_t_fade, .int v_t_laws, .int v_t_nightHours, .int v_t_nightTimes, .ref q_t_ground, .ref q_t_windows, .ref q_t_lawParts])), (q_t_ground, .inl (cI, 36, .inl v_t_ground)), (q_t_windows, .inl (cI, 6, .inl v_t_windows)), (q_t_lawParts, .inl (cI, 18, .inl v_t_lawParts))] z A) ([.ref q_t, .int x1, .int x2, .int x3] : List Value).toArray s 0 0 A) (F0 m 24 ls [.int k0_1]) := by
    intro k0_1 hf H locs ls hP hD hS hl
    unfold f_X2_loudThrownBack_J24 at hf
    refine lv_istore (lv' := [(4, .int k0_1), (2, .int x2)]) hx hb dX2_loudThrownBack_24 hl (by decide) rfl (fun ls hl => ?_)
    refine lv_iload_n hx hb dX2_loudThrownBack_26 rfl (lv_at hl 1 rfl) ?_
    refine lv_iload_n hx hb dX2_loudThrownBack_27 rfl (lv_at hl 1 rfl) ?_
    refine lv_iload hx hb dX2_loudThrownBack_28 (lv_at hl 0 rfl) ?_
    refine lv_imul hx hb dX2_loudThrownBack_30 ?_
    refine lv_bipush (v := 100) hx hb dX2_loudThrownBack_31 (by decide) ?_
    refine lv_idiv hx hb dX2_loudThrownBack_33 (by decide) ?_
    refine lv_isub hx hb dX2_loudThrownBack_34 ?_
    have hf := Option.some.inj hf
    subst hf
    exact rt_i hx hb hr hlocks hK hP hS dX2_loudThrownBack_35
  refine lv_if_eq (tgt := 19) hx hb dX2_loudThrownBack_1 (by decide) (fun h_3 => ?_) (fun h_3 => ?_)
  · have hf := (if_pos h_3).symm.trans hf
    refine lv_aload_n hx hb dX2_loudThrownBack_19 rfl (lv_at hl 0 rfl) ?_
    refine lv_iload_n hx hb dX2_loudThrownBack_20 rfl (lv_at hl 1 rfl) ?_
    obtain ⟨z21_4, hz21_4, hf⟩ := bd_some hf
    refine cVi (rest := []) ⟨hx, hb, hml, hown, hts⟩ hE hK hP hD hS hA (c_X2_softOf l D cI cJ cZ en q_t q_t_ground q_t_windows q_t_lawParts H.size v_t_columns v_t_rows v_t_fade v_t_laws v_t_nightHours v_t_nightTimes v_t_ground v_t_windows v_t_lawParts x1 hz21_4) (gv_X2_softOf w_615) hd_X2_softOf ⟨rfl, rfl⟩ ⟨by decide, by decide⟩ [0, 1, 2, 3] (And.intro rfl (And.intro rfl (And.intro rfl (And.intro rfl trivial)))) rfl (And.intro rfl (And.intro rfl (And.intro rfl (And.intro rfl trivial)))) 2 rfl rfl 0 rfl  hl rfl (Nat.le_of_ble_eq_true rfl) ⟨Nat.zero_le _, Nat.zero_le _⟩ dX2_loudThrownBack_21 (fun H locs hP hD hS => ?_)
    have hP : va_P D vwCl [(q_t, .inr (2, [.int v_t_columns, .int v_t_rows, .int v_t_fade, .int v_t_laws, .int v_t_nightHours, .int v_t_nightTimes, .ref q_t_ground, .ref q_t_windows, .ref q_t_lawParts])), (q_t_ground, .inl (cI, 36, .inl v_t_ground)), (q_t_windows, .inl (cI, 6, .inl v_t_windows)), (q_t_lawParts, .inl (cI, 18, .inl v_t_lawParts))] H := hP
    have hD : va_D A [(q_t, .inr (2, [.int v_t_columns, .int v_t_rows, .int v_t_fade, .int v_t_laws, .int v_t_nightHours, .int v_t_nightTimes, .ref q_t_ground, .ref q_t_windows, .ref q_t_lawParts])), (q_t_ground, .inl (cI, 36, .inl v_t_ground)), (q_t_windows, .inl (cI, 6, .inl v_t_windows)), (q_t_lawParts, .inl (cI, 18, .inl v_t_lawParts))] := hD
    exact J24_2 z21_4 hf _ _ _ hP hD hS (lv_sub hl [2] rfl)
  · have hf := (if_neg h_3).symm.trans hf
    refine lv_bipush (v := 100) hx hb dX2_loudThrownBack_4 (by decide) ?_
    refine lv_iconst (v := 2) hx hb dX2_loudThrownBack_6 (by decide) ?_
    refine lv_aload_n hx hb dX2_loudThrownBack_7 rfl (lv_at hl 0 rfl) ?_
    refine lv_iload_n hx hb dX2_loudThrownBack_8 rfl (lv_at hl 1 rfl) ?_
    obtain ⟨z9_5, hz9_5, hf⟩ := bd_some hf
    refine cVi (rest := [.int 2, .int 100]) ⟨hx, hb, hml, hown, hts⟩ hE hK hP hD hS hA (c_X2_softOf l D cI cJ cZ en q_t q_t_ground q_t_windows q_t_lawParts H.size v_t_columns v_t_rows v_t_fade v_t_laws v_t_nightHours v_t_nightTimes v_t_ground v_t_windows v_t_lawParts x1 hz9_5) (gv_X2_softOf w_615) hd_X2_softOf ⟨rfl, rfl⟩ ⟨by decide, by decide⟩ [0, 1, 2, 3] (And.intro rfl (And.intro rfl (And.intro rfl (And.intro rfl trivial)))) rfl (And.intro rfl (And.intro rfl (And.intro rfl (And.intro rfl trivial)))) 2 rfl rfl 0 rfl  hl rfl (Nat.le_of_ble_eq_true rfl) ⟨Nat.zero_le _, Nat.zero_le _⟩ dX2_loudThrownBack_9 (fun H locs hP hD hS => ?_)
    have hP : va_P D vwCl [(q_t, .inr (2, [.int v_t_columns, .int v_t_rows, .int v_t_fade, .int v_t_laws, .int v_t_nightHours, .int v_t_nightTimes, .ref q_t_ground, .ref q_t_windows, .ref q_t_lawParts])), (q_t_ground, .inl (cI, 36, .inl v_t_ground)), (q_t_windows, .inl (cI, 6, .inl v_t_windows)), (q_t_lawParts, .inl (cI, 18, .inl v_t_lawParts))] H := hP
    have hD : va_D A [(q_t, .inr (2, [.int v_t_columns, .int v_t_rows, .int v_t_fade, .int v_t_laws, .int v_t_nightHours, .int v_t_nightTimes, .ref q_t_ground, .ref q_t_windows, .ref q_t_lawParts])), (q_t_ground, .inl (cI, 36, .inl v_t_ground)), (q_t_windows, .inl (cI, 6, .inl v_t_windows)), (q_t_lawParts, .inl (cI, 18, .inl v_t_lawParts))] := hD
    refine lv_imul hx hb dX2_loudThrownBack_12 ?_
    refine va_mmin hx hb (hml.trans hl.1.symm) hown (hts _ w_616) (hts _ w_617) (hts _ w_73) (hts _ w_618) (by decide) (Nat.le_of_ble_eq_true rfl) (Nat.zero_le _) (Nat.zero_le _) dX2_loudThrownBack_13 ?_
    refine lv_goto (tgt := 24) hx hb dX2_loudThrownBack_16 (by decide) ?_
    exact J24_2 (if (2 * z9_5) < 100 then (2 * z9_5) else 100) hf _ _ _ hP hD hS (lv_sub hl [2] rfl)

def f_X2_lay (v_t_columns : Int32) (v_t_rows : Int32) (v_t_ground : Nat → Int32) (v_t_windows : Nat → Int32) (x1 : Int32) (x2 : Int32) : Option (Int32 × Int32 × (Nat → Int32) × (Nat → Int32)) :=
  (f_J7_fill_53178 36 v_t_ground (-1)).bind (fun z15 => (f_J7_fill_53178 6 v_t_windows (-1)).bind (fun z23 => (some (x1, x2, z15, z23))))
theorem gv_X2_lay {own : String} {idx : Nat} (h : Cond.methodLink own idx yX2_lay ∈ lw_g) : GoodIn lw_g (wsV own idx RX2 yX2_lay (Cond.code yX2_lay cX2_lay 3 none :: lw_g)) := gV h w_473 w_474 w_60 w_475
theorem hd_X2_lay : yX2_lay.cls = RX2 ∧ yX2_lay.cls ≠ "java/lang/invoke/MethodHandle" ∧ yX2_lay.cls ≠ "java/lang/invoke/VarHandle" ∧ (parseMethodDescriptor yX2_lay.desc).map (fun d => d.parameters.length) = some 2 := by decide +kernel
set_option maxHeartbeats 4000000 in
set_option maxRecDepth 100000 in
theorem c_X2_lay (l : Launch) (D : va_G) (cI cJ cZ : ClassId) (en : EnT) (q_t q_t_ground q_t_windows q_t_lawParts : Nat) (sz : Nat) (v_t_columns : Int32) (v_t_rows : Int32) (v_t_fade : Int32) (v_t_laws : Int32) (v_t_nightHours : Int32) (v_t_nightTimes : Int32) (v_t_ground : Nat → Int32) (v_t_windows : Nat → Int32) (v_t_lawParts : Nat → Int32) (x1 : Int32) (x2 : Int32) {z : Int32 × Int32 × (Nat → Int32) × (Nat → Int32)} (hf : f_X2_lay v_t_columns v_t_rows v_t_ground v_t_windows x1 x2 = some z) : Met l yX2_lay (Cond.code yX2_lay cX2_lay 3 none :: lw_g) ({ frames := 1, cells := 0, slots := 0, locals := 23 } : Room) (PC D cI cJ cZ en ([.ref q_t, .int x1, .int x2] : List Value) [(q_t, .inr (2, [.int v_t_columns, .int v_t_rows, .int v_t_fade, .int v_t_laws, .int v_t_nightHours, .int v_t_nightTimes, .ref q_t_ground, .ref q_t_windows, .ref q_t_lawParts])), (q_t_ground, .inl (cI, 36, .inl v_t_ground)), (q_t_windows, .inl (cI, 6, .inl v_t_windows)), (q_t_lawParts, .inl (cI, 18, .inl v_t_lawParts))] sz) (QV D cI cJ cZ [(q_t, .inr (2, [.int z.1, .int z.2.1, .int v_t_fade, .int v_t_laws, .int v_t_nightHours, .int v_t_nightTimes, .ref q_t_ground, .ref q_t_windows, .ref q_t_lawParts])), (q_t_ground, .inl (cI, 36, .inl z.2.2.1)), (q_t_windows, .inl (cI, 6, .inl z.2.2.2)), (q_t_lawParts, .inl (cI, 18, .inl v_t_lawParts))] (va_A [(q_t, .inr (2, [.int v_t_columns, .int v_t_rows, .int v_t_fade, .int v_t_laws, .int v_t_nightHours, .int v_t_nightTimes, .ref q_t_ground, .ref q_t_windows, .ref q_t_lawParts])), (q_t_ground, .inl (cI, 36, .inl v_t_ground)), (q_t_windows, .inl (cI, 6, .inl v_t_windows)), (q_t_lawParts, .inl (cI, 18, .inl v_t_lawParts))] sz)) 0 0 (va_A [(q_t, .inr (2, [.int v_t_columns, .int v_t_rows, .int v_t_fade, .int v_t_laws, .int v_t_nightHours, .int v_t_nightTimes, .ref q_t_ground, .ref q_t_windows, .ref q_t_lawParts])), (q_t_ground, .inl (cI, 36, .inl v_t_ground)), (q_t_windows, .inl (cI, 6, .inl v_t_windows)), (q_t_lawParts, .inl (cI, 18, .inl v_t_lawParts))] sz) := by
  refine mk_met (Qc := fun A => (QV D cI cJ cZ [(q_t, .inr (2, [.int z.1, .int z.2.1, .int v_t_fade, .int v_t_laws, .int v_t_nightHours, .int v_t_nightTimes, .ref q_t_ground, .ref q_t_windows, .ref q_t_lawParts])), (q_t_ground, .inl (cI, 36, .inl z.2.2.1)), (q_t_windows, .inl (cI, 6, .inl z.2.2.2)), (q_t_lawParts, .inl (cI, 18, .inl v_t_lawParts))] A)) RX2 (by decide) rfl (Nat.le_of_ble_eq_true rfl) ?_
  intro p e s m below meth c ls A hx hb hr hml hown hts hlocks hA hK hE hl hD H locs hP hS
  have hl : lv_has ls 3 [(0, .ref q_t), (1, .int x1), (2, .int x2)] := hl
  unfold f_X2_lay at hf
  refine lv_aload_n hx hb dX2_lay_0 rfl (lv_at hl 0 rfl) ?_
  refine lv_iload_n hx hb dX2_lay_1 rfl (lv_at hl 1 rfl) ?_
  refine va_put (D := D) (ci := 2) (v := .int x1) (ty := .int) (C := RX2) (T := TX2) (N := 9) hx hb hts inX2 tyX2 tyX2_ok nmX2 hown hK hP hD hS 0 rfl rfl 0 (by decide) (hts _ w_133) (fun _ h9 => h9) rfl (by decide +kernel) rfl rfl (Nat.le_of_ble_eq_true rfl) dX2_lay_2 (fun H locs hP hD hS => ?_)
  have hP : va_P D vwCl [(q_t, .inr (2, [.int x1, .int v_t_rows, .int v_t_fade, .int v_t_laws, .int v_t_nightHours, .int v_t_nightTimes, .ref q_t_ground, .ref q_t_windows, .ref q_t_lawParts])), (q_t_ground, .inl (cI, 36, .inl v_t_ground)), (q_t_windows, .inl (cI, 6, .inl v_t_windows)), (q_t_lawParts, .inl (cI, 18, .inl v_t_lawParts))] H := hP
  have hD : va_D A [(q_t, .inr (2, [.int x1, .int v_t_rows, .int v_t_fade, .int v_t_laws, .int v_t_nightHours, .int v_t_nightTimes, .ref q_t_ground, .ref q_t_windows, .ref q_t_lawParts])), (q_t_ground, .inl (cI, 36, .inl v_t_ground)), (q_t_windows, .inl (cI, 6, .inl v_t_windows)), (q_t_lawParts, .inl (cI, 18, .inl v_t_lawParts))] := hD
  refine lv_aload_n hx hb dX2_lay_5 rfl (lv_at hl 0 rfl) ?_
  refine lv_iload_n hx hb dX2_lay_6 rfl (lv_at hl 2 rfl) ?_
  refine va_put (D := D) (ci := 2) (v := .int x2) (ty := .int) (C := RX2) (T := TX2) (N := 9) hx hb hts inX2 tyX2 tyX2_ok nmX2 hown hK hP hD hS 0 rfl rfl 1 (by decide) (hts _ w_136) (fun _ h9 => h9) rfl (by decide +kernel) rfl rfl (Nat.le_of_ble_eq_true rfl) dX2_lay_7 (fun H locs hP hD hS => ?_)
  have hP : va_P D vwCl [(q_t, .inr (2, [.int x1, .int x2, .int v_t_fade, .int v_t_laws, .int v_t_nightHours, .int v_t_nightTimes, .ref q_t_ground, .ref q_t_windows, .ref q_t_lawParts])), (q_t_ground, .inl (cI, 36, .inl v_t_ground)), (q_t_windows, .inl (cI, 6, .inl v_t_windows)), (q_t_lawParts, .inl (cI, 18, .inl v_t_lawParts))] H := hP
  have hD : va_D A [(q_t, .inr (2, [.int x1, .int x2, .int v_t_fade, .int v_t_laws, .int v_t_nightHours, .int v_t_nightTimes, .ref q_t_ground, .ref q_t_windows, .ref q_t_lawParts])), (q_t_ground, .inl (cI, 36, .inl v_t_ground)), (q_t_windows, .inl (cI, 6, .inl v_t_windows)), (q_t_lawParts, .inl (cI, 18, .inl v_t_lawParts))] := hD
  refine lv_aload_n hx hb dX2_lay_10 rfl (lv_at hl 0 rfl) ?_
  refine va_get (D := D) (ci := 2) (v := .ref q_t_ground) (C := RX2) (T := TX2) (N := 9) hx hb hts inX2 hown hK hP 0 rfl rfl 6 (by decide) (hts _ w_150) (fun _ h9 => h9) rfl dX2_lay_11 ?_
  refine lv_iconst (v := (-1)) hx hb dX2_lay_14 (by decide) ?_
  obtain ⟨z15_1, hz15_1, hf⟩ := bd_some hf
  refine cSv (rest := []) ⟨hx, hb, hml, hown, hts⟩ hE hK hP hD hS hA (c_J7_fill_53178 l D cI cJ cZ en q_t_ground 36 H.size v_t_ground (-1) hz15_1) (gs_J7_fill_53178 w_130) hd_J7_fill_53178 ⟨rfl, rfl⟩ ⟨by decide, by decide⟩ [1] (And.intro rfl trivial) rfl (And.intro rfl trivial)  hl rfl (Nat.le_of_ble_eq_true rfl) ⟨Nat.zero_le _, Nat.zero_le _⟩ dX2_lay_15 (fun H locs hP hD hS => ?_)
  have hP : va_P D vwCl [(q_t, .inr (2, [.int x1, .int x2, .int v_t_fade, .int v_t_laws, .int v_t_nightHours, .int v_t_nightTimes, .ref q_t_ground, .ref q_t_windows, .ref q_t_lawParts])), (q_t_ground, .inl (cI, 36, .inl z15_1)), (q_t_windows, .inl (cI, 6, .inl v_t_windows)), (q_t_lawParts, .inl (cI, 18, .inl v_t_lawParts))] H := hP
  have hD : va_D A [(q_t, .inr (2, [.int x1, .int x2, .int v_t_fade, .int v_t_laws, .int v_t_nightHours, .int v_t_nightTimes, .ref q_t_ground, .ref q_t_windows, .ref q_t_lawParts])), (q_t_ground, .inl (cI, 36, .inl z15_1)), (q_t_windows, .inl (cI, 6, .inl v_t_windows)), (q_t_lawParts, .inl (cI, 18, .inl v_t_lawParts))] := hD
  refine lv_aload_n hx hb dX2_lay_18 rfl (lv_at hl 0 rfl) ?_
  refine va_get (D := D) (ci := 2) (v := .ref q_t_windows) (C := RX2) (T := TX2) (N := 9) hx hb hts inX2 hown hK hP 0 rfl rfl 7 (by decide) (hts _ w_151) (fun _ h9 => h9) rfl dX2_lay_19 ?_
  refine lv_iconst (v := (-1)) hx hb dX2_lay_22 (by decide) ?_
  obtain ⟨z23_2, hz23_2, hf⟩ := bd_some hf
  refine cSv (rest := []) ⟨hx, hb, hml, hown, hts⟩ hE hK hP hD hS hA (c_J7_fill_53178 l D cI cJ cZ en q_t_windows 6 H.size v_t_windows (-1) hz23_2) (gs_J7_fill_53178 w_130) hd_J7_fill_53178 ⟨rfl, rfl⟩ ⟨by decide, by decide⟩ [2] (And.intro rfl trivial) rfl (And.intro rfl trivial)  hl rfl (Nat.le_of_ble_eq_true rfl) ⟨Nat.zero_le _, Nat.zero_le _⟩ dX2_lay_23 (fun H locs hP hD hS => ?_)
  have hP : va_P D vwCl [(q_t, .inr (2, [.int x1, .int x2, .int v_t_fade, .int v_t_laws, .int v_t_nightHours, .int v_t_nightTimes, .ref q_t_ground, .ref q_t_windows, .ref q_t_lawParts])), (q_t_ground, .inl (cI, 36, .inl z15_1)), (q_t_windows, .inl (cI, 6, .inl z23_2)), (q_t_lawParts, .inl (cI, 18, .inl v_t_lawParts))] H := hP
  have hD : va_D A [(q_t, .inr (2, [.int x1, .int x2, .int v_t_fade, .int v_t_laws, .int v_t_nightHours, .int v_t_nightTimes, .ref q_t_ground, .ref q_t_windows, .ref q_t_lawParts])), (q_t_ground, .inl (cI, 36, .inl z15_1)), (q_t_windows, .inl (cI, 6, .inl z23_2)), (q_t_lawParts, .inl (cI, 18, .inl v_t_lawParts))] := hD
  have hf := Option.some.inj hf
  subst hf
  exact rt_v hx hb hr hlocks hK hP hS dX2_lay_26

def f_X2_wayBack (v_t_columns : Int32) (v_t_rows : Int32) (v_t_ground : Nat → Int32) (x1 : Int32) (x2 : Int32) : Option (Int32) :=
  (if (x2 &&& 1) = 0 then (some ((x2 + 4) &&& 7)) else (f_X2_columnOf v_t_columns x1).bind (fun z19 => gd (ib (x2 &&& 7) 8) ((f_X2_rowOf v_t_columns x1).bind (fun z33 => (f_X2_cellAt v_t_columns v_t_rows (z19 + (colF (Int32.toNatClampNeg (x2 &&& 7)))) z33).bind (fun z36 => (f_X2_isRock v_t_columns v_t_rows v_t_ground z36).bind (fun z39 => (f_X2_columnOf v_t_columns x1).bind (fun z48 => (f_X2_rowOf v_t_columns x1).bind (fun z53 => gd (ib (x2 &&& 7) 8) ((f_X2_cellAt v_t_columns v_t_rows z48 (z53 + (rowF (Int32.toNatClampNeg (x2 &&& 7))))).bind (fun z65 => (f_X2_isRock v_t_columns v_t_rows v_t_ground z65).bind (fun z68 => (if z39 = z68 then (some ((x2 + 4) &&& 7)) else (if z39 = 0 then (some ((12 - x2) &&& 7)) else (some ((8 - x2) &&& 7)))))))))))))))
theorem gv_X2_wayBack {own : String} {idx : Nat} (h : Cond.methodLink own idx yX2_wayBack ∈ lw_g) : GoodIn lw_g (wsV own idx RX2 yX2_wayBack (Cond.code yX2_wayBack cX2_wayBack 6 (some .int) :: lw_g)) := gV h w_620 w_621 w_60 w_622
theorem hd_X2_wayBack : yX2_wayBack.cls = RX2 ∧ yX2_wayBack.cls ≠ "java/lang/invoke/MethodHandle" ∧ yX2_wayBack.cls ≠ "java/lang/invoke/VarHandle" ∧ (parseMethodDescriptor yX2_wayBack.desc).map (fun d => d.parameters.length) = some 2 := by decide +kernel
set_option maxHeartbeats 4000000 in
set_option maxRecDepth 100000 in
theorem c_X2_wayBack (l : Launch) (D : va_G) (cI cJ cZ : ClassId) (en : EnT) (q_t q_t_ground q_t_windows q_t_lawParts : Nat) (sz : Nat) (v_t_columns : Int32) (v_t_rows : Int32) (v_t_fade : Int32) (v_t_laws : Int32) (v_t_nightHours : Int32) (v_t_nightTimes : Int32) (v_t_ground : Nat → Int32) (v_t_windows : Nat → Int32) (v_t_lawParts : Nat → Int32) (x1 : Int32) (x2 : Int32) {z : Int32} (hf : f_X2_wayBack v_t_columns v_t_rows v_t_ground x1 x2 = some z) : Met l yX2_wayBack (Cond.code yX2_wayBack cX2_wayBack 6 (some .int) :: lw_g) ({ frames := 2, cells := 0, slots := 0, locals := 42 } : Room) (PC D cI cJ cZ en ([.ref q_t, .int x1, .int x2] : List Value) [(q_t, .inr (2, [.int v_t_columns, .int v_t_rows, .int v_t_fade, .int v_t_laws, .int v_t_nightHours, .int v_t_nightTimes, .ref q_t_ground, .ref q_t_windows, .ref q_t_lawParts])), (q_t_ground, .inl (cI, 36, .inl v_t_ground)), (q_t_windows, .inl (cI, 6, .inl v_t_windows)), (q_t_lawParts, .inl (cI, 18, .inl v_t_lawParts))] sz) (QI D cI cJ cZ [(q_t, .inr (2, [.int v_t_columns, .int v_t_rows, .int v_t_fade, .int v_t_laws, .int v_t_nightHours, .int v_t_nightTimes, .ref q_t_ground, .ref q_t_windows, .ref q_t_lawParts])), (q_t_ground, .inl (cI, 36, .inl v_t_ground)), (q_t_windows, .inl (cI, 6, .inl v_t_windows)), (q_t_lawParts, .inl (cI, 18, .inl v_t_lawParts))] z (va_A [(q_t, .inr (2, [.int v_t_columns, .int v_t_rows, .int v_t_fade, .int v_t_laws, .int v_t_nightHours, .int v_t_nightTimes, .ref q_t_ground, .ref q_t_windows, .ref q_t_lawParts])), (q_t_ground, .inl (cI, 36, .inl v_t_ground)), (q_t_windows, .inl (cI, 6, .inl v_t_windows)), (q_t_lawParts, .inl (cI, 18, .inl v_t_lawParts))] sz)) 0 0 (va_A [(q_t, .inr (2, [.int v_t_columns, .int v_t_rows, .int v_t_fade, .int v_t_laws, .int v_t_nightHours, .int v_t_nightTimes, .ref q_t_ground, .ref q_t_windows, .ref q_t_lawParts])), (q_t_ground, .inl (cI, 36, .inl v_t_ground)), (q_t_windows, .inl (cI, 6, .inl v_t_windows)), (q_t_lawParts, .inl (cI, 18, .inl v_t_lawParts))] sz) := by
  refine mk_met (Qc := fun A => (QI D cI cJ cZ [(q_t, .inr (2, [.int v_t_columns, .int v_t_rows, .int v_t_fade, .int v_t_laws, .int v_t_nightHours, .int v_t_nightTimes, .ref q_t_ground, .ref q_t_windows, .ref q_t_lawParts])), (q_t_ground, .inl (cI, 36, .inl v_t_ground)), (q_t_windows, .inl (cI, 6, .inl v_t_windows)), (q_t_lawParts, .inl (cI, 18, .inl v_t_lawParts))] z A)) RX2 (by decide) rfl (Nat.le_of_ble_eq_true rfl) ?_
  intro p e s m below meth c ls A hx hb hr hml hown hts hlocks hA hK hE hl hD H locs hP hS
  have hl : lv_has ls 6 [(0, .ref q_t), (1, .int x1), (2, .int x2)] := hl
  unfold f_X2_wayBack at hf
  refine lv_iload_n hx hb dX2_wayBack_0 rfl (lv_at hl 2 rfl) ?_
  refine lv_iconst (v := 4) hx hb dX2_wayBack_1 (by decide) ?_
  refine lv_iadd hx hb dX2_wayBack_2 ?_
  refine lv_bipush (v := 7) hx hb dX2_wayBack_3 (by decide) ?_
  refine lv_iand hx hb dX2_wayBack_5 ?_
  refine lv_istore_n (lv' := [(3, .int ((x2 + 4) &&& 7)), (0, .ref q_t), (1, .int x1), (2, .int x2)]) hx hb dX2_wayBack_6 rfl hl (by decide) rfl (fun ls hl => ?_)
  refine lv_iload_n hx hb dX2_wayBack_7 rfl (lv_at hl 3 rfl) ?_
  refine lv_iconst (v := 1) hx hb dX2_wayBack_8 (by decide) ?_
  refine lv_iand hx hb dX2_wayBack_9 ?_
  refine lv_if_ne (tgt := 15) hx hb dX2_wayBack_10 (by decide) (fun h_1 => ?_) (fun h_1 => ?_)
  · have hf := (if_neg h_1).symm.trans hf
    refine lv_aload_n hx hb dX2_wayBack_15 rfl (lv_at hl 1 rfl) ?_
    refine lv_aload_n hx hb dX2_wayBack_16 rfl (lv_at hl 1 rfl) ?_
    refine lv_aload_n hx hb dX2_wayBack_17 rfl (lv_at hl 1 rfl) ?_
    refine lv_iload_n hx hb dX2_wayBack_18 rfl (lv_at hl 2 rfl) ?_
    obtain ⟨z19_2, hz19_2, hf⟩ := bd_some hf
    refine cVi (rest := [.ref q_t, .ref q_t]) ⟨hx, hb, hml, hown, hts⟩ hE hK hP hD hS hA (c_X2_columnOf l D cI cJ cZ en q_t q_t_ground q_t_windows q_t_lawParts H.size v_t_columns v_t_rows v_t_fade v_t_laws v_t_nightHours v_t_nightTimes v_t_ground v_t_windows v_t_lawParts x1 hz19_2) (gv_X2_columnOf w_597) hd_X2_columnOf ⟨rfl, rfl⟩ ⟨by decide, by decide⟩ [0, 1, 2, 3] (And.intro rfl (And.intro rfl (And.intro rfl (And.intro rfl trivial)))) rfl (And.intro rfl (And.intro rfl (And.intro rfl (And.intro rfl trivial)))) 2 rfl rfl 0 rfl  hl rfl (Nat.le_of_ble_eq_true rfl) ⟨Nat.zero_le _, Nat.zero_le _⟩ dX2_wayBack_19 (fun H locs hP hD hS => ?_)
    have hP : va_P D vwCl [(q_t, .inr (2, [.int v_t_columns, .int v_t_rows, .int v_t_fade, .int v_t_laws, .int v_t_nightHours, .int v_t_nightTimes, .ref q_t_ground, .ref q_t_windows, .ref q_t_lawParts])), (q_t_ground, .inl (cI, 36, .inl v_t_ground)), (q_t_windows, .inl (cI, 6, .inl v_t_windows)), (q_t_lawParts, .inl (cI, 18, .inl v_t_lawParts))] H := hP
    have hD : va_D A [(q_t, .inr (2, [.int v_t_columns, .int v_t_rows, .int v_t_fade, .int v_t_laws, .int v_t_nightHours, .int v_t_nightTimes, .ref q_t_ground, .ref q_t_windows, .ref q_t_lawParts])), (q_t_ground, .inl (cI, 36, .inl v_t_ground)), (q_t_windows, .inl (cI, 6, .inl v_t_windows)), (q_t_lawParts, .inl (cI, 18, .inl v_t_lawParts))] := hD
    refine va_gets hx hb hE.2.2.1 hS hown (hts _ w_601) (fun _ h9 => h9) dX2_wayBack_22 ?_
    refine lv_iload_n hx hb dX2_wayBack_25 rfl (lv_at hl 3 rfl) ?_
    refine lv_bipush (v := 7) hx hb dX2_wayBack_26 (by decide) ?_
    refine lv_iand hx hb dX2_wayBack_28 ?_
    obtain ⟨hin, hf⟩ := gd_some hf
    refine va_ti hx hb hE.2.2.2.1 hS hin rfl dX2_wayBack_29 ?_
    refine lv_iadd hx hb dX2_wayBack_30 ?_
    refine lv_aload_n hx hb dX2_wayBack_31 rfl (lv_at hl 1 rfl) ?_
    refine lv_iload_n hx hb dX2_wayBack_32 rfl (lv_at hl 2 rfl) ?_
    obtain ⟨z33_3, hz33_3, hf⟩ := bd_some hf
    refine cVi (rest := [.int (z19_2 + (colF (Int32.toNatClampNeg (x2 &&& 7)))), .ref q_t, .ref q_t]) ⟨hx, hb, hml, hown, hts⟩ hE hK hP hD hS hA (c_X2_rowOf l D cI cJ cZ en q_t q_t_ground q_t_windows q_t_lawParts H.size v_t_columns v_t_rows v_t_fade v_t_laws v_t_nightHours v_t_nightTimes v_t_ground v_t_windows v_t_lawParts x1 hz33_3) (gv_X2_rowOf w_603) hd_X2_rowOf ⟨rfl, rfl⟩ ⟨by decide, by decide⟩ [0, 1, 2, 3] (And.intro rfl (And.intro rfl (And.intro rfl (And.intro rfl trivial)))) rfl (And.intro rfl (And.intro rfl (And.intro rfl (And.intro rfl trivial)))) 2 rfl rfl 0 rfl  hl rfl (Nat.le_of_ble_eq_true rfl) ⟨Nat.zero_le _, Nat.zero_le _⟩ dX2_wayBack_33 (fun H locs hP hD hS => ?_)
    have hP : va_P D vwCl [(q_t, .inr (2, [.int v_t_columns, .int v_t_rows, .int v_t_fade, .int v_t_laws, .int v_t_nightHours, .int v_t_nightTimes, .ref q_t_ground, .ref q_t_windows, .ref q_t_lawParts])), (q_t_ground, .inl (cI, 36, .inl v_t_ground)), (q_t_windows, .inl (cI, 6, .inl v_t_windows)), (q_t_lawParts, .inl (cI, 18, .inl v_t_lawParts))] H := hP
    have hD : va_D A [(q_t, .inr (2, [.int v_t_columns, .int v_t_rows, .int v_t_fade, .int v_t_laws, .int v_t_nightHours, .int v_t_nightTimes, .ref q_t_ground, .ref q_t_windows, .ref q_t_lawParts])), (q_t_ground, .inl (cI, 36, .inl v_t_ground)), (q_t_windows, .inl (cI, 6, .inl v_t_windows)), (q_t_lawParts, .inl (cI, 18, .inl v_t_lawParts))] := hD
    obtain ⟨z36_4, hz36_4, hf⟩ := bd_some hf
    refine cVi (rest := [.ref q_t]) ⟨hx, hb, hml, hown, hts⟩ hE hK hP hD hS hA (c_X2_cellAt l D cI cJ cZ en q_t q_t_ground q_t_windows q_t_lawParts H.size v_t_columns v_t_rows v_t_fade v_t_laws v_t_nightHours v_t_nightTimes v_t_ground v_t_windows v_t_lawParts (z19_2 + (colF (Int32.toNatClampNeg (x2 &&& 7)))) z33_3 hz36_4) (gv_X2_cellAt w_609) hd_X2_cellAt ⟨rfl, rfl⟩ ⟨by decide, by decide⟩ [0, 1, 2, 3] (And.intro rfl (And.intro rfl (And.intro rfl (And.intro rfl trivial)))) rfl (And.intro rfl (And.intro rfl (And.intro rfl (And.intro rfl trivial)))) 2 rfl rfl 0 rfl  hl rfl (Nat.le_of_ble_eq_true rfl) ⟨Nat.zero_le _, Nat.zero_le _⟩ dX2_wayBack_36 (fun H locs hP hD hS => ?_)
    have hP : va_P D vwCl [(q_t, .inr (2, [.int v_t_columns, .int v_t_rows, .int v_t_fade, .int v_t_laws, .int v_t_nightHours, .int v_t_nightTimes, .ref q_t_ground, .ref q_t_windows, .ref q_t_lawParts])), (q_t_ground, .inl (cI, 36, .inl v_t_ground)), (q_t_windows, .inl (cI, 6, .inl v_t_windows)), (q_t_lawParts, .inl (cI, 18, .inl v_t_lawParts))] H := hP
    have hD : va_D A [(q_t, .inr (2, [.int v_t_columns, .int v_t_rows, .int v_t_fade, .int v_t_laws, .int v_t_nightHours, .int v_t_nightTimes, .ref q_t_ground, .ref q_t_windows, .ref q_t_lawParts])), (q_t_ground, .inl (cI, 36, .inl v_t_ground)), (q_t_windows, .inl (cI, 6, .inl v_t_windows)), (q_t_lawParts, .inl (cI, 18, .inl v_t_lawParts))] := hD
    obtain ⟨z39_5, hz39_5, hf⟩ := bd_some hf
    refine cVi (rest := []) ⟨hx, hb, hml, hown, hts⟩ hE hK hP hD hS hA (c_X2_isRock l D cI cJ cZ en q_t q_t_ground q_t_windows q_t_lawParts H.size v_t_columns v_t_rows v_t_fade v_t_laws v_t_nightHours v_t_nightTimes v_t_ground v_t_windows v_t_lawParts z36_4 hz39_5) (gv_X2_isRock w_623) hd_X2_isRock ⟨rfl, rfl⟩ ⟨by decide, by decide⟩ [0, 1, 2, 3] (And.intro rfl (And.intro rfl (And.intro rfl (And.intro rfl trivial)))) rfl (And.intro rfl (And.intro rfl (And.intro rfl (And.intro rfl trivial)))) 2 rfl rfl 0 rfl  hl rfl (Nat.le_of_ble_eq_true rfl) ⟨Nat.zero_le _, Nat.zero_le _⟩ dX2_wayBack_39 (fun H locs hP hD hS => ?_)
    have hP : va_P D vwCl [(q_t, .inr (2, [.int v_t_columns, .int v_t_rows, .int v_t_fade, .int v_t_laws, .int v_t_nightHours, .int v_t_nightTimes, .ref q_t_ground, .ref q_t_windows, .ref q_t_lawParts])), (q_t_ground, .inl (cI, 36, .inl v_t_ground)), (q_t_windows, .inl (cI, 6, .inl v_t_windows)), (q_t_lawParts, .inl (cI, 18, .inl v_t_lawParts))] H := hP
    have hD : va_D A [(q_t, .inr (2, [.int v_t_columns, .int v_t_rows, .int v_t_fade, .int v_t_laws, .int v_t_nightHours, .int v_t_nightTimes, .ref q_t_ground, .ref q_t_windows, .ref q_t_lawParts])), (q_t_ground, .inl (cI, 36, .inl v_t_ground)), (q_t_windows, .inl (cI, 6, .inl v_t_windows)), (q_t_lawParts, .inl (cI, 18, .inl v_t_lawParts))] := hD
    refine lv_istore (lv' := [(4, .int z39_5), (3, .int ((x2 + 4) &&& 7)), (0, .ref q_t), (1, .int x1), (2, .int x2)]) hx hb dX2_wayBack_42 hl (by decide) rfl (fun ls hl => ?_)
    refine lv_aload_n hx hb dX2_wayBack_44 rfl (lv_at hl 2 rfl) ?_
    refine lv_aload_n hx hb dX2_wayBack_45 rfl (lv_at hl 2 rfl) ?_
    refine lv_aload_n hx hb dX2_wayBack_46 rfl (lv_at hl 2 rfl) ?_
    refine lv_iload_n hx hb dX2_wayBack_47 rfl (lv_at hl 3 rfl) ?_
    obtain ⟨z48_6, hz48_6, hf⟩ := bd_some hf
    refine cVi (rest := [.ref q_t, .ref q_t]) ⟨hx, hb, hml, hown, hts⟩ hE hK hP hD hS hA (c_X2_columnOf l D cI cJ cZ en q_t q_t_ground q_t_windows q_t_lawParts H.size v_t_columns v_t_rows v_t_fade v_t_laws v_t_nightHours v_t_nightTimes v_t_ground v_t_windows v_t_lawParts x1 hz48_6) (gv_X2_columnOf w_597) hd_X2_columnOf ⟨rfl, rfl⟩ ⟨by decide, by decide⟩ [0, 1, 2, 3] (And.intro rfl (And.intro rfl (And.intro rfl (And.intro rfl trivial)))) rfl (And.intro rfl (And.intro rfl (And.intro rfl (And.intro rfl trivial)))) 2 rfl rfl 0 rfl  hl rfl (Nat.le_of_ble_eq_true rfl) ⟨Nat.zero_le _, Nat.zero_le _⟩ dX2_wayBack_48 (fun H locs hP hD hS => ?_)
    have hP : va_P D vwCl [(q_t, .inr (2, [.int v_t_columns, .int v_t_rows, .int v_t_fade, .int v_t_laws, .int v_t_nightHours, .int v_t_nightTimes, .ref q_t_ground, .ref q_t_windows, .ref q_t_lawParts])), (q_t_ground, .inl (cI, 36, .inl v_t_ground)), (q_t_windows, .inl (cI, 6, .inl v_t_windows)), (q_t_lawParts, .inl (cI, 18, .inl v_t_lawParts))] H := hP
    have hD : va_D A [(q_t, .inr (2, [.int v_t_columns, .int v_t_rows, .int v_t_fade, .int v_t_laws, .int v_t_nightHours, .int v_t_nightTimes, .ref q_t_ground, .ref q_t_windows, .ref q_t_lawParts])), (q_t_ground, .inl (cI, 36, .inl v_t_ground)), (q_t_windows, .inl (cI, 6, .inl v_t_windows)), (q_t_lawParts, .inl (cI, 18, .inl v_t_lawParts))] := hD
    refine lv_aload_n hx hb dX2_wayBack_51 rfl (lv_at hl 2 rfl) ?_
    refine lv_iload_n hx hb dX2_wayBack_52 rfl (lv_at hl 3 rfl) ?_
    obtain ⟨z53_7, hz53_7, hf⟩ := bd_some hf
    refine cVi (rest := [.int z48_6, .ref q_t, .ref q_t]) ⟨hx, hb, hml, hown, hts⟩ hE hK hP hD hS hA (c_X2_rowOf l D cI cJ cZ en q_t q_t_ground q_t_windows q_t_lawParts H.size v_t_columns v_t_rows v_t_fade v_t_laws v_t_nightHours v_t_nightTimes v_t_ground v_t_windows v_t_lawParts x1 hz53_7) (gv_X2_rowOf w_603) hd_X2_rowOf ⟨rfl, rfl⟩ ⟨by decide, by decide⟩ [0, 1, 2, 3] (And.intro rfl (And.intro rfl (And.intro rfl (And.intro rfl trivial)))) rfl (And.intro rfl (And.intro rfl (And.intro rfl (And.intro rfl trivial)))) 2 rfl rfl 0 rfl  hl rfl (Nat.le_of_ble_eq_true rfl) ⟨Nat.zero_le _, Nat.zero_le _⟩ dX2_wayBack_53 (fun H locs hP hD hS => ?_)
    have hP : va_P D vwCl [(q_t, .inr (2, [.int v_t_columns, .int v_t_rows, .int v_t_fade, .int v_t_laws, .int v_t_nightHours, .int v_t_nightTimes, .ref q_t_ground, .ref q_t_windows, .ref q_t_lawParts])), (q_t_ground, .inl (cI, 36, .inl v_t_ground)), (q_t_windows, .inl (cI, 6, .inl v_t_windows)), (q_t_lawParts, .inl (cI, 18, .inl v_t_lawParts))] H := hP
    have hD : va_D A [(q_t, .inr (2, [.int v_t_columns, .int v_t_rows, .int v_t_fade, .int v_t_laws, .int v_t_nightHours, .int v_t_nightTimes, .ref q_t_ground, .ref q_t_windows, .ref q_t_lawParts])), (q_t_ground, .inl (cI, 36, .inl v_t_ground)), (q_t_windows, .inl (cI, 6, .inl v_t_windows)), (q_t_lawParts, .inl (cI, 18, .inl v_t_lawParts))] := hD
    refine va_gets hx hb hE.2.2.2.2.1 hS hown (hts _ w_607) (fun _ h9 => h9) dX2_wayBack_56 ?_
    refine lv_iload_n hx hb dX2_wayBack_59 rfl (lv_at hl 4 rfl) ?_
    refine lv_bipush (v := 7) hx hb dX2_wayBack_60 (by decide) ?_
    refine lv_iand hx hb dX2_wayBack_62 ?_
    obtain ⟨hin, hf⟩ := gd_some hf
    refine va_ti hx hb hE.2.2.2.2.2.1 hS hin rfl dX2_wayBack_63 ?_
    refine lv_iadd hx hb dX2_wayBack_64 ?_
    obtain ⟨z65_8, hz65_8, hf⟩ := bd_some hf
    refine cVi (rest := [.ref q_t]) ⟨hx, hb, hml, hown, hts⟩ hE hK hP hD hS hA (c_X2_cellAt l D cI cJ cZ en q_t q_t_ground q_t_windows q_t_lawParts H.size v_t_columns v_t_rows v_t_fade v_t_laws v_t_nightHours v_t_nightTimes v_t_ground v_t_windows v_t_lawParts z48_6 (z53_7 + (rowF (Int32.toNatClampNeg (x2 &&& 7)))) hz65_8) (gv_X2_cellAt w_609) hd_X2_cellAt ⟨rfl, rfl⟩ ⟨by decide, by decide⟩ [0, 1, 2, 3] (And.intro rfl (And.intro rfl (And.intro rfl (And.intro rfl trivial)))) rfl (And.intro rfl (And.intro rfl (And.intro rfl (And.intro rfl trivial)))) 2 rfl rfl 0 rfl  hl rfl (Nat.le_of_ble_eq_true rfl) ⟨Nat.zero_le _, Nat.zero_le _⟩ dX2_wayBack_65 (fun H locs hP hD hS => ?_)
    have hP : va_P D vwCl [(q_t, .inr (2, [.int v_t_columns, .int v_t_rows, .int v_t_fade, .int v_t_laws, .int v_t_nightHours, .int v_t_nightTimes, .ref q_t_ground, .ref q_t_windows, .ref q_t_lawParts])), (q_t_ground, .inl (cI, 36, .inl v_t_ground)), (q_t_windows, .inl (cI, 6, .inl v_t_windows)), (q_t_lawParts, .inl (cI, 18, .inl v_t_lawParts))] H := hP
    have hD : va_D A [(q_t, .inr (2, [.int v_t_columns, .int v_t_rows, .int v_t_fade, .int v_t_laws, .int v_t_nightHours, .int v_t_nightTimes, .ref q_t_ground, .ref q_t_windows, .ref q_t_lawParts])), (q_t_ground, .inl (cI, 36, .inl v_t_ground)), (q_t_windows, .inl (cI, 6, .inl v_t_windows)), (q_t_lawParts, .inl (cI, 18, .inl v_t_lawParts))] := hD
    obtain ⟨z68_9, hz68_9, hf⟩ := bd_some hf
    refine cVi (rest := []) ⟨hx, hb, hml, hown, hts⟩ hE hK hP hD hS hA (c_X2_isRock l D cI cJ cZ en q_t q_t_ground q_t_windows q_t_lawParts H.size v_t_columns v_t_rows v_t_fade v_t_laws v_t_nightHours v_t_nightTimes v_t_ground v_t_windows v_t_lawParts z65_8 hz68_9) (gv_X2_isRock w_623) hd_X2_isRock ⟨rfl, rfl⟩ ⟨by decide, by decide⟩ [0, 1, 2, 3] (And.intro rfl (And.intro rfl (And.intro rfl (And.intro rfl trivial)))) rfl (And.intro rfl (And.intro rfl (And.intro rfl (And.intro rfl trivial)))) 2 rfl rfl 0 rfl  hl rfl (Nat.le_of_ble_eq_true rfl) ⟨Nat.zero_le _, Nat.zero_le _⟩ dX2_wayBack_68 (fun H locs hP hD hS => ?_)
    have hP : va_P D vwCl [(q_t, .inr (2, [.int v_t_columns, .int v_t_rows, .int v_t_fade, .int v_t_laws, .int v_t_nightHours, .int v_t_nightTimes, .ref q_t_ground, .ref q_t_windows, .ref q_t_lawParts])), (q_t_ground, .inl (cI, 36, .inl v_t_ground)), (q_t_windows, .inl (cI, 6, .inl v_t_windows)), (q_t_lawParts, .inl (cI, 18, .inl v_t_lawParts))] H := hP
    have hD : va_D A [(q_t, .inr (2, [.int v_t_columns, .int v_t_rows, .int v_t_fade, .int v_t_laws, .int v_t_nightHours, .int v_t_nightTimes, .ref q_t_ground, .ref q_t_windows, .ref q_t_lawParts])), (q_t_ground, .inl (cI, 36, .inl v_t_ground)), (q_t_windows, .inl (cI, 6, .inl v_t_windows)), (q_t_lawParts, .inl (cI, 18, .inl v_t_lawParts))] := hD
    refine lv_istore (lv' := [(5, .int z68_9), (4, .int z39_5), (3, .int ((x2 + 4) &&& 7)), (0, .ref q_t), (1, .int x1), (2, .int x2)]) hx hb dX2_wayBack_71 hl (by decide) rfl (fun ls hl => ?_)
    refine lv_iload hx hb dX2_wayBack_73 (lv_at hl 1 rfl) ?_
    refine lv_iload hx hb dX2_wayBack_75 (lv_at hl 0 rfl) ?_
    refine lv_icmp_ne (tgt := 82) hx hb dX2_wayBack_77 (by decide) (fun h_10 => ?_) (fun h_10 => ?_)
    · have hf := (if_neg h_10).symm.trans hf
      refine lv_iload hx hb dX2_wayBack_82 (lv_at hl 1 rfl) ?_
      refine lv_if_eq (tgt := 97) hx hb dX2_wayBack_84 (by decide) (fun h_11 => ?_) (fun h_11 => ?_)
      · have hf := (if_pos h_11).symm.trans hf
        refine lv_bipush (v := 12) hx hb dX2_wayBack_97 (by decide) ?_
        refine lv_iload_n hx hb dX2_wayBack_99 rfl (lv_at hl 5 rfl) ?_
        refine lv_isub hx hb dX2_wayBack_100 ?_
        refine lv_bipush (v := 7) hx hb dX2_wayBack_101 (by decide) ?_
        refine lv_iand hx hb dX2_wayBack_103 ?_
        have hf := Option.some.inj hf
        subst hf
        exact rt_i hx hb hr hlocks hK hP hS dX2_wayBack_104
      · have hf := (if_neg h_11).symm.trans hf
        refine lv_bipush (v := 8) hx hb dX2_wayBack_87 (by decide) ?_
        refine lv_iload_n hx hb dX2_wayBack_89 rfl (lv_at hl 5 rfl) ?_
        refine lv_isub hx hb dX2_wayBack_90 ?_
        refine lv_bipush (v := 7) hx hb dX2_wayBack_91 (by decide) ?_
        refine lv_iand hx hb dX2_wayBack_93 ?_
        refine lv_goto (tgt := 104) hx hb dX2_wayBack_94 (by decide) ?_
        have hf := Option.some.inj hf
        subst hf
        exact rt_i hx hb hr hlocks hK hP hS dX2_wayBack_104
    · have hf := (if_pos h_10).symm.trans hf
      refine lv_iload_n hx hb dX2_wayBack_80 rfl (lv_at hl 2 rfl) ?_
      have hf := Option.some.inj hf
      subst hf
      exact rt_i hx hb hr hlocks hK hP hS dX2_wayBack_81
  · have hf := (if_pos h_1).symm.trans hf
    refine lv_iload_n hx hb dX2_wayBack_13 rfl (lv_at hl 0 rfl) ?_
    have hf := Option.some.inj hf
    subst hf
    exact rt_i hx hb hr hlocks hK hP hS dX2_wayBack_14

def f_X2_copyFrom_L102 (v_t_columns : Int32) (v_t_rows : Int32) (v_t_fade : Int32) (v_t_laws : Int32) (v_t_nightHours : Int32) (v_t_nightTimes : Int32) (v_t_ground : Nat → Int32) (v_t_windows : Nat → Int32) (v_a1_lawParts : Nat → Int32) : Nat → (Int32) → (Nat → Int32) → Option (Int32 × Int32 × Int32 × Int32 × Int32 × Int32 × (Nat → Int32) × (Nat → Int32) × (Nat → Int32))
  | 0, _, _ => none
  | n + 1, x2, v_t_lawParts => (if 18 ≤ x2 then (some (v_t_columns, v_t_rows, v_t_fade, v_t_laws, v_t_nightHours, v_t_nightTimes, v_t_ground, v_t_windows, v_t_lawParts)) else gd (ib x2 18) (gd (ib x2 18) ((f_X2_copyFrom_L102 v_t_columns v_t_rows v_t_fade v_t_laws v_t_nightHours v_t_nightTimes v_t_ground v_t_windows v_a1_lawParts n (x2 + 1) (upd v_t_lawParts (Int32.toNatClampNeg x2) (v_a1_lawParts (Int32.toNatClampNeg x2)))))))
def f_X2_copyFrom_J100 (v_t_columns : Int32) (v_t_rows : Int32) (v_t_fade : Int32) (v_t_laws : Int32) (v_t_nightHours : Int32) (v_t_nightTimes : Int32) (v_t_ground : Nat → Int32) (v_t_windows : Nat → Int32) (v_t_lawParts : Nat → Int32) (v_a1_lawParts : Nat → Int32) : Option (Int32 × Int32 × Int32 × Int32 × Int32 × Int32 × (Nat → Int32) × (Nat → Int32) × (Nat → Int32)) :=
  (f_X2_copyFrom_L102 v_t_columns v_t_rows v_t_fade v_t_laws v_t_nightHours v_t_nightTimes v_t_ground v_t_windows v_a1_lawParts FU 0 v_t_lawParts)
def f_X2_copyFrom_L76 (v_t_columns : Int32) (v_t_rows : Int32) (v_t_fade : Int32) (v_t_laws : Int32) (v_t_nightHours : Int32) (v_t_nightTimes : Int32) (v_t_ground : Nat → Int32) (v_t_lawParts : Nat → Int32) (v_a1_windows : Nat → Int32) (v_a1_lawParts : Nat → Int32) : Nat → (Int32) → (Nat → Int32) → Option (Int32 × Int32 × Int32 × Int32 × Int32 × Int32 × (Nat → Int32) × (Nat → Int32) × (Nat → Int32))
  | 0, _, _ => none
  | n + 1, x2, v_t_windows => (if 6 ≤ x2 then (f_X2_copyFrom_J100 v_t_columns v_t_rows v_t_fade v_t_laws v_t_nightHours v_t_nightTimes v_t_ground v_t_windows v_t_lawParts v_a1_lawParts) else gd (ib x2 6) (gd (ib x2 6) ((f_X2_copyFrom_L76 v_t_columns v_t_rows v_t_fade v_t_laws v_t_nightHours v_t_nightTimes v_t_ground v_t_lawParts v_a1_windows v_a1_lawParts n (x2 + 1) (upd v_t_windows (Int32.toNatClampNeg x2) (v_a1_windows (Int32.toNatClampNeg x2)))))))
def f_X2_copyFrom_J74 (v_t_columns : Int32) (v_t_rows : Int32) (v_t_fade : Int32) (v_t_laws : Int32) (v_t_nightHours : Int32) (v_t_nightTimes : Int32) (v_t_ground : Nat → Int32) (v_t_windows : Nat → Int32) (v_t_lawParts : Nat → Int32) (v_a1_windows : Nat → Int32) (v_a1_lawParts : Nat → Int32) : Option (Int32 × Int32 × Int32 × Int32 × Int32 × Int32 × (Nat → Int32) × (Nat → Int32) × (Nat → Int32)) :=
  (f_X2_copyFrom_L76 v_t_columns v_t_rows v_t_fade v_t_laws v_t_nightHours v_t_nightTimes v_t_ground v_t_lawParts v_a1_windows v_a1_lawParts FU 0 v_t_windows)
def f_X2_copyFrom_L50 (v_t_columns : Int32) (v_t_rows : Int32) (v_t_fade : Int32) (v_t_laws : Int32) (v_t_nightHours : Int32) (v_t_nightTimes : Int32) (v_t_windows : Nat → Int32) (v_t_lawParts : Nat → Int32) (v_a1_ground : Nat → Int32) (v_a1_windows : Nat → Int32) (v_a1_lawParts : Nat → Int32) : Nat → (Int32) → (Nat → Int32) → Option (Int32 × Int32 × Int32 × Int32 × Int32 × Int32 × (Nat → Int32) × (Nat → Int32) × (Nat → Int32))
  | 0, _, _ => none
  | n + 1, x2, v_t_ground => (if 36 ≤ x2 then (f_X2_copyFrom_J74 v_t_columns v_t_rows v_t_fade v_t_laws v_t_nightHours v_t_nightTimes v_t_ground v_t_windows v_t_lawParts v_a1_windows v_a1_lawParts) else gd (ib x2 36) (gd (ib x2 36) ((f_X2_copyFrom_L50 v_t_columns v_t_rows v_t_fade v_t_laws v_t_nightHours v_t_nightTimes v_t_windows v_t_lawParts v_a1_ground v_a1_windows v_a1_lawParts n (x2 + 1) (upd v_t_ground (Int32.toNatClampNeg x2) (v_a1_ground (Int32.toNatClampNeg x2)))))))
def f_X2_copyFrom (v_t_columns : Int32) (v_t_rows : Int32) (v_t_fade : Int32) (v_t_laws : Int32) (v_t_nightHours : Int32) (v_t_nightTimes : Int32) (v_t_ground : Nat → Int32) (v_t_windows : Nat → Int32) (v_t_lawParts : Nat → Int32) (v_a1_columns : Int32) (v_a1_rows : Int32) (v_a1_fade : Int32) (v_a1_laws : Int32) (v_a1_nightHours : Int32) (v_a1_nightTimes : Int32) (v_a1_ground : Nat → Int32) (v_a1_windows : Nat → Int32) (v_a1_lawParts : Nat → Int32) : Option (Int32 × Int32 × Int32 × Int32 × Int32 × Int32 × (Nat → Int32) × (Nat → Int32) × (Nat → Int32)) :=
  (f_X2_copyFrom_L50 v_a1_columns v_a1_rows v_a1_fade v_a1_laws v_a1_nightHours v_a1_nightTimes v_t_windows v_t_lawParts v_a1_ground v_a1_windows v_a1_lawParts FU 0 v_t_ground)
theorem gv_X2_copyFrom {own : String} {idx : Nat} (h : Cond.methodLink own idx yX2_copyFrom ∈ lw_g) : GoodIn lw_g (wsV own idx RX2 yX2_copyFrom (Cond.code yX2_copyFrom cX2_copyFrom 3 none :: lw_g)) := gV h w_341 w_342 w_60 w_343
theorem hd_X2_copyFrom : yX2_copyFrom.cls = RX2 ∧ yX2_copyFrom.cls ≠ "java/lang/invoke/MethodHandle" ∧ yX2_copyFrom.cls ≠ "java/lang/invoke/VarHandle" ∧ (parseMethodDescriptor yX2_copyFrom.desc).map (fun d => d.parameters.length) = some 1 := by decide +kernel
set_option maxHeartbeats 4000000 in
set_option maxRecDepth 100000 in
theorem c_X2_copyFrom (l : Launch) (D : va_G) (cI cJ cZ : ClassId) (en : EnT) (q_t q_t_ground q_t_windows q_t_lawParts q_a1 q_a1_ground q_a1_windows q_a1_lawParts : Nat) (sz : Nat) (v_t_columns : Int32) (v_t_rows : Int32) (v_t_fade : Int32) (v_t_laws : Int32) (v_t_nightHours : Int32) (v_t_nightTimes : Int32) (v_t_ground : Nat → Int32) (v_t_windows : Nat → Int32) (v_t_lawParts : Nat → Int32) (v_a1_columns : Int32) (v_a1_rows : Int32) (v_a1_fade : Int32) (v_a1_laws : Int32) (v_a1_nightHours : Int32) (v_a1_nightTimes : Int32) (v_a1_ground : Nat → Int32) (v_a1_windows : Nat → Int32) (v_a1_lawParts : Nat → Int32) {z : Int32 × Int32 × Int32 × Int32 × Int32 × Int32 × (Nat → Int32) × (Nat → Int32) × (Nat → Int32)} (hf : f_X2_copyFrom v_t_columns v_t_rows v_t_fade v_t_laws v_t_nightHours v_t_nightTimes v_t_ground v_t_windows v_t_lawParts v_a1_columns v_a1_rows v_a1_fade v_a1_laws v_a1_nightHours v_a1_nightTimes v_a1_ground v_a1_windows v_a1_lawParts = some z) : Met l yX2_copyFrom (Cond.code yX2_copyFrom cX2_copyFrom 3 none :: lw_g) ({ frames := 0, cells := 0, slots := 0, locals := 0 } : Room) (PC D cI cJ cZ en ([.ref q_t, .ref q_a1] : List Value) [(q_t, .inr (2, [.int v_t_columns, .int v_t_rows, .int v_t_fade, .int v_t_laws, .int v_t_nightHours, .int v_t_nightTimes, .ref q_t_ground, .ref q_t_windows, .ref q_t_lawParts])), (q_t_ground, .inl (cI, 36, .inl v_t_ground)), (q_t_windows, .inl (cI, 6, .inl v_t_windows)), (q_t_lawParts, .inl (cI, 18, .inl v_t_lawParts)), (q_a1, .inr (2, [.int v_a1_columns, .int v_a1_rows, .int v_a1_fade, .int v_a1_laws, .int v_a1_nightHours, .int v_a1_nightTimes, .ref q_a1_ground, .ref q_a1_windows, .ref q_a1_lawParts])), (q_a1_ground, .inl (cI, 36, .inl v_a1_ground)), (q_a1_windows, .inl (cI, 6, .inl v_a1_windows)), (q_a1_lawParts, .inl (cI, 18, .inl v_a1_lawParts))] sz) (QV D cI cJ cZ [(q_t, .inr (2, [.int z.1, .int z.2.1, .int z.2.2.1, .int z.2.2.2.1, .int z.2.2.2.2.1, .int z.2.2.2.2.2.1, .ref q_t_ground, .ref q_t_windows, .ref q_t_lawParts])), (q_t_ground, .inl (cI, 36, .inl z.2.2.2.2.2.2.1)), (q_t_windows, .inl (cI, 6, .inl z.2.2.2.2.2.2.2.1)), (q_t_lawParts, .inl (cI, 18, .inl z.2.2.2.2.2.2.2.2)), (q_a1, .inr (2, [.int v_a1_columns, .int v_a1_rows, .int v_a1_fade, .int v_a1_laws, .int v_a1_nightHours, .int v_a1_nightTimes, .ref q_a1_ground, .ref q_a1_windows, .ref q_a1_lawParts])), (q_a1_ground, .inl (cI, 36, .inl v_a1_ground)), (q_a1_windows, .inl (cI, 6, .inl v_a1_windows)), (q_a1_lawParts, .inl (cI, 18, .inl v_a1_lawParts))] (va_A [(q_t, .inr (2, [.int v_t_columns, .int v_t_rows, .int v_t_fade, .int v_t_laws, .int v_t_nightHours, .int v_t_nightTimes, .ref q_t_ground, .ref q_t_windows, .ref q_t_lawParts])), (q_t_ground, .inl (cI, 36, .inl v_t_ground)), (q_t_windows, .inl (cI, 6, .inl v_t_windows)), (q_t_lawParts, .inl (cI, 18, .inl v_t_lawParts)), (q_a1, .inr (2, [.int v_a1_columns, .int v_a1_rows, .int v_a1_fade, .int v_a1_laws, .int v_a1_nightHours, .int v_a1_nightTimes, .ref q_a1_ground, .ref q_a1_windows, .ref q_a1_lawParts])), (q_a1_ground, .inl (cI, 36, .inl v_a1_ground)), (q_a1_windows, .inl (cI, 6, .inl v_a1_windows)), (q_a1_lawParts, .inl (cI, 18, .inl v_a1_lawParts))] sz)) 0 0 (va_A [(q_t, .inr (2, [.int v_t_columns, .int v_t_rows, .int v_t_fade, .int v_t_laws, .int v_t_nightHours, .int v_t_nightTimes, .ref q_t_ground, .ref q_t_windows, .ref q_t_lawParts])), (q_t_ground, .inl (cI, 36, .inl v_t_ground)), (q_t_windows, .inl (cI, 6, .inl v_t_windows)), (q_t_lawParts, .inl (cI, 18, .inl v_t_lawParts)), (q_a1, .inr (2, [.int v_a1_columns, .int v_a1_rows, .int v_a1_fade, .int v_a1_laws, .int v_a1_nightHours, .int v_a1_nightTimes, .ref q_a1_ground, .ref q_a1_windows, .ref q_a1_lawParts])), (q_a1_ground, .inl (cI, 36, .inl v_a1_ground)), (q_a1_windows, .inl (cI, 6, .inl v_a1_windows)), (q_a1_lawParts, .inl (cI, 18, .inl v_a1_lawParts))] sz) := by
  refine mk_met (Qc := fun A => (QV D cI cJ cZ [(q_t, .inr (2, [.int z.1, .int z.2.1, .int z.2.2.1, .int z.2.2.2.1, .int z.2.2.2.2.1, .int z.2.2.2.2.2.1, .ref q_t_ground, .ref q_t_windows, .ref q_t_lawParts])), (q_t_ground, .inl (cI, 36, .inl z.2.2.2.2.2.2.1)), (q_t_windows, .inl (cI, 6, .inl z.2.2.2.2.2.2.2.1)), (q_t_lawParts, .inl (cI, 18, .inl z.2.2.2.2.2.2.2.2)), (q_a1, .inr (2, [.int v_a1_columns, .int v_a1_rows, .int v_a1_fade, .int v_a1_laws, .int v_a1_nightHours, .int v_a1_nightTimes, .ref q_a1_ground, .ref q_a1_windows, .ref q_a1_lawParts])), (q_a1_ground, .inl (cI, 36, .inl v_a1_ground)), (q_a1_windows, .inl (cI, 6, .inl v_a1_windows)), (q_a1_lawParts, .inl (cI, 18, .inl v_a1_lawParts))] A)) RX2 (by decide) rfl (Nat.le_of_ble_eq_true rfl) ?_
  intro p e s m below meth c ls A hx hb hr hml hown hts hlocks hA hK hE hl hD H locs hP hS
  have hl : lv_has ls 3 [(0, .ref q_t), (1, .ref q_a1)] := hl
  unfold f_X2_copyFrom at hf
  refine lv_aload_n hx hb dX2_copyFrom_0 rfl (lv_at hl 0 rfl) ?_
  refine lv_aload_n hx hb dX2_copyFrom_1 rfl (lv_at hl 1 rfl) ?_
  refine va_get (D := D) (ci := 2) (v := .int v_a1_columns) (C := RX2) (T := TX2) (N := 9) hx hb hts inX2 hown hK hP 4 rfl rfl 0 (by decide) (hts _ w_133) (fun _ h9 => h9) rfl dX2_copyFrom_2 ?_
  refine va_put (D := D) (ci := 2) (v := .int v_a1_columns) (ty := .int) (C := RX2) (T := TX2) (N := 9) hx hb hts inX2 tyX2 tyX2_ok nmX2 hown hK hP hD hS 0 rfl rfl 0 (by decide) (hts _ w_133) (fun _ h9 => h9) rfl (by decide +kernel) rfl rfl (Nat.le_of_ble_eq_true rfl) dX2_copyFrom_5 (fun H locs hP hD hS => ?_)
  have hP : va_P D vwCl [(q_t, .inr (2, [.int v_a1_columns, .int v_t_rows, .int v_t_fade, .int v_t_laws, .int v_t_nightHours, .int v_t_nightTimes, .ref q_t_ground, .ref q_t_windows, .ref q_t_lawParts])), (q_t_ground, .inl (cI, 36, .inl v_t_ground)), (q_t_windows, .inl (cI, 6, .inl v_t_windows)), (q_t_lawParts, .inl (cI, 18, .inl v_t_lawParts)), (q_a1, .inr (2, [.int v_a1_columns, .int v_a1_rows, .int v_a1_fade, .int v_a1_laws, .int v_a1_nightHours, .int v_a1_nightTimes, .ref q_a1_ground, .ref q_a1_windows, .ref q_a1_lawParts])), (q_a1_ground, .inl (cI, 36, .inl v_a1_ground)), (q_a1_windows, .inl (cI, 6, .inl v_a1_windows)), (q_a1_lawParts, .inl (cI, 18, .inl v_a1_lawParts))] H := hP
  have hD : va_D A [(q_t, .inr (2, [.int v_a1_columns, .int v_t_rows, .int v_t_fade, .int v_t_laws, .int v_t_nightHours, .int v_t_nightTimes, .ref q_t_ground, .ref q_t_windows, .ref q_t_lawParts])), (q_t_ground, .inl (cI, 36, .inl v_t_ground)), (q_t_windows, .inl (cI, 6, .inl v_t_windows)), (q_t_lawParts, .inl (cI, 18, .inl v_t_lawParts)), (q_a1, .inr (2, [.int v_a1_columns, .int v_a1_rows, .int v_a1_fade, .int v_a1_laws, .int v_a1_nightHours, .int v_a1_nightTimes, .ref q_a1_ground, .ref q_a1_windows, .ref q_a1_lawParts])), (q_a1_ground, .inl (cI, 36, .inl v_a1_ground)), (q_a1_windows, .inl (cI, 6, .inl v_a1_windows)), (q_a1_lawParts, .inl (cI, 18, .inl v_a1_lawParts))] := hD
  refine lv_aload_n hx hb dX2_copyFrom_8 rfl (lv_at hl 0 rfl) ?_
  refine lv_aload_n hx hb dX2_copyFrom_9 rfl (lv_at hl 1 rfl) ?_
  refine va_get (D := D) (ci := 2) (v := .int v_a1_rows) (C := RX2) (T := TX2) (N := 9) hx hb hts inX2 hown hK hP 4 rfl rfl 1 (by decide) (hts _ w_136) (fun _ h9 => h9) rfl dX2_copyFrom_10 ?_
  refine va_put (D := D) (ci := 2) (v := .int v_a1_rows) (ty := .int) (C := RX2) (T := TX2) (N := 9) hx hb hts inX2 tyX2 tyX2_ok nmX2 hown hK hP hD hS 0 rfl rfl 1 (by decide) (hts _ w_136) (fun _ h9 => h9) rfl (by decide +kernel) rfl rfl (Nat.le_of_ble_eq_true rfl) dX2_copyFrom_13 (fun H locs hP hD hS => ?_)
  have hP : va_P D vwCl [(q_t, .inr (2, [.int v_a1_columns, .int v_a1_rows, .int v_t_fade, .int v_t_laws, .int v_t_nightHours, .int v_t_nightTimes, .ref q_t_ground, .ref q_t_windows, .ref q_t_lawParts])), (q_t_ground, .inl (cI, 36, .inl v_t_ground)), (q_t_windows, .inl (cI, 6, .inl v_t_windows)), (q_t_lawParts, .inl (cI, 18, .inl v_t_lawParts)), (q_a1, .inr (2, [.int v_a1_columns, .int v_a1_rows, .int v_a1_fade, .int v_a1_laws, .int v_a1_nightHours, .int v_a1_nightTimes, .ref q_a1_ground, .ref q_a1_windows, .ref q_a1_lawParts])), (q_a1_ground, .inl (cI, 36, .inl v_a1_ground)), (q_a1_windows, .inl (cI, 6, .inl v_a1_windows)), (q_a1_lawParts, .inl (cI, 18, .inl v_a1_lawParts))] H := hP
  have hD : va_D A [(q_t, .inr (2, [.int v_a1_columns, .int v_a1_rows, .int v_t_fade, .int v_t_laws, .int v_t_nightHours, .int v_t_nightTimes, .ref q_t_ground, .ref q_t_windows, .ref q_t_lawParts])), (q_t_ground, .inl (cI, 36, .inl v_t_ground)), (q_t_windows, .inl (cI, 6, .inl v_t_windows)), (q_t_lawParts, .inl (cI, 18, .inl v_t_lawParts)), (q_a1, .inr (2, [.int v_a1_columns, .int v_a1_rows, .int v_a1_fade, .int v_a1_laws, .int v_a1_nightHours, .int v_a1_nightTimes, .ref q_a1_ground, .ref q_a1_windows, .ref q_a1_lawParts])), (q_a1_ground, .inl (cI, 36, .inl v_a1_ground)), (q_a1_windows, .inl (cI, 6, .inl v_a1_windows)), (q_a1_lawParts, .inl (cI, 18, .inl v_a1_lawParts))] := hD
  refine lv_aload_n hx hb dX2_copyFrom_16 rfl (lv_at hl 0 rfl) ?_
  refine lv_aload_n hx hb dX2_copyFrom_17 rfl (lv_at hl 1 rfl) ?_
  refine va_get (D := D) (ci := 2) (v := .int v_a1_fade) (C := RX2) (T := TX2) (N := 9) hx hb hts inX2 hown hK hP 4 rfl rfl 2 (by decide) (hts _ w_139) (fun _ h9 => h9) rfl dX2_copyFrom_18 ?_
  refine va_put (D := D) (ci := 2) (v := .int v_a1_fade) (ty := .int) (C := RX2) (T := TX2) (N := 9) hx hb hts inX2 tyX2 tyX2_ok nmX2 hown hK hP hD hS 0 rfl rfl 2 (by decide) (hts _ w_139) (fun _ h9 => h9) rfl (by decide +kernel) rfl rfl (Nat.le_of_ble_eq_true rfl) dX2_copyFrom_21 (fun H locs hP hD hS => ?_)
  have hP : va_P D vwCl [(q_t, .inr (2, [.int v_a1_columns, .int v_a1_rows, .int v_a1_fade, .int v_t_laws, .int v_t_nightHours, .int v_t_nightTimes, .ref q_t_ground, .ref q_t_windows, .ref q_t_lawParts])), (q_t_ground, .inl (cI, 36, .inl v_t_ground)), (q_t_windows, .inl (cI, 6, .inl v_t_windows)), (q_t_lawParts, .inl (cI, 18, .inl v_t_lawParts)), (q_a1, .inr (2, [.int v_a1_columns, .int v_a1_rows, .int v_a1_fade, .int v_a1_laws, .int v_a1_nightHours, .int v_a1_nightTimes, .ref q_a1_ground, .ref q_a1_windows, .ref q_a1_lawParts])), (q_a1_ground, .inl (cI, 36, .inl v_a1_ground)), (q_a1_windows, .inl (cI, 6, .inl v_a1_windows)), (q_a1_lawParts, .inl (cI, 18, .inl v_a1_lawParts))] H := hP
  have hD : va_D A [(q_t, .inr (2, [.int v_a1_columns, .int v_a1_rows, .int v_a1_fade, .int v_t_laws, .int v_t_nightHours, .int v_t_nightTimes, .ref q_t_ground, .ref q_t_windows, .ref q_t_lawParts])), (q_t_ground, .inl (cI, 36, .inl v_t_ground)), (q_t_windows, .inl (cI, 6, .inl v_t_windows)), (q_t_lawParts, .inl (cI, 18, .inl v_t_lawParts)), (q_a1, .inr (2, [.int v_a1_columns, .int v_a1_rows, .int v_a1_fade, .int v_a1_laws, .int v_a1_nightHours, .int v_a1_nightTimes, .ref q_a1_ground, .ref q_a1_windows, .ref q_a1_lawParts])), (q_a1_ground, .inl (cI, 36, .inl v_a1_ground)), (q_a1_windows, .inl (cI, 6, .inl v_a1_windows)), (q_a1_lawParts, .inl (cI, 18, .inl v_a1_lawParts))] := hD
  refine lv_aload_n hx hb dX2_copyFrom_24 rfl (lv_at hl 0 rfl) ?_
  refine lv_aload_n hx hb dX2_copyFrom_25 rfl (lv_at hl 1 rfl) ?_
  refine va_get (D := D) (ci := 2) (v := .int v_a1_laws) (C := RX2) (T := TX2) (N := 9) hx hb hts inX2 hown hK hP 4 rfl rfl 3 (by decide) (hts _ w_143) (fun _ h9 => h9) rfl dX2_copyFrom_26 ?_
  refine va_put (D := D) (ci := 2) (v := .int v_a1_laws) (ty := .int) (C := RX2) (T := TX2) (N := 9) hx hb hts inX2 tyX2 tyX2_ok nmX2 hown hK hP hD hS 0 rfl rfl 3 (by decide) (hts _ w_143) (fun _ h9 => h9) rfl (by decide +kernel) rfl rfl (Nat.le_of_ble_eq_true rfl) dX2_copyFrom_29 (fun H locs hP hD hS => ?_)
  have hP : va_P D vwCl [(q_t, .inr (2, [.int v_a1_columns, .int v_a1_rows, .int v_a1_fade, .int v_a1_laws, .int v_t_nightHours, .int v_t_nightTimes, .ref q_t_ground, .ref q_t_windows, .ref q_t_lawParts])), (q_t_ground, .inl (cI, 36, .inl v_t_ground)), (q_t_windows, .inl (cI, 6, .inl v_t_windows)), (q_t_lawParts, .inl (cI, 18, .inl v_t_lawParts)), (q_a1, .inr (2, [.int v_a1_columns, .int v_a1_rows, .int v_a1_fade, .int v_a1_laws, .int v_a1_nightHours, .int v_a1_nightTimes, .ref q_a1_ground, .ref q_a1_windows, .ref q_a1_lawParts])), (q_a1_ground, .inl (cI, 36, .inl v_a1_ground)), (q_a1_windows, .inl (cI, 6, .inl v_a1_windows)), (q_a1_lawParts, .inl (cI, 18, .inl v_a1_lawParts))] H := hP
  have hD : va_D A [(q_t, .inr (2, [.int v_a1_columns, .int v_a1_rows, .int v_a1_fade, .int v_a1_laws, .int v_t_nightHours, .int v_t_nightTimes, .ref q_t_ground, .ref q_t_windows, .ref q_t_lawParts])), (q_t_ground, .inl (cI, 36, .inl v_t_ground)), (q_t_windows, .inl (cI, 6, .inl v_t_windows)), (q_t_lawParts, .inl (cI, 18, .inl v_t_lawParts)), (q_a1, .inr (2, [.int v_a1_columns, .int v_a1_rows, .int v_a1_fade, .int v_a1_laws, .int v_a1_nightHours, .int v_a1_nightTimes, .ref q_a1_ground, .ref q_a1_windows, .ref q_a1_lawParts])), (q_a1_ground, .inl (cI, 36, .inl v_a1_ground)), (q_a1_windows, .inl (cI, 6, .inl v_a1_windows)), (q_a1_lawParts, .inl (cI, 18, .inl v_a1_lawParts))] := hD
  refine lv_aload_n hx hb dX2_copyFrom_32 rfl (lv_at hl 0 rfl) ?_
  refine lv_aload_n hx hb dX2_copyFrom_33 rfl (lv_at hl 1 rfl) ?_
  refine va_get (D := D) (ci := 2) (v := .int v_a1_nightHours) (C := RX2) (T := TX2) (N := 9) hx hb hts inX2 hown hK hP 4 rfl rfl 4 (by decide) (hts _ w_146) (fun _ h9 => h9) rfl dX2_copyFrom_34 ?_
  refine va_put (D := D) (ci := 2) (v := .int v_a1_nightHours) (ty := .int) (C := RX2) (T := TX2) (N := 9) hx hb hts inX2 tyX2 tyX2_ok nmX2 hown hK hP hD hS 0 rfl rfl 4 (by decide) (hts _ w_146) (fun _ h9 => h9) rfl (by decide +kernel) rfl rfl (Nat.le_of_ble_eq_true rfl) dX2_copyFrom_37 (fun H locs hP hD hS => ?_)
  have hP : va_P D vwCl [(q_t, .inr (2, [.int v_a1_columns, .int v_a1_rows, .int v_a1_fade, .int v_a1_laws, .int v_a1_nightHours, .int v_t_nightTimes, .ref q_t_ground, .ref q_t_windows, .ref q_t_lawParts])), (q_t_ground, .inl (cI, 36, .inl v_t_ground)), (q_t_windows, .inl (cI, 6, .inl v_t_windows)), (q_t_lawParts, .inl (cI, 18, .inl v_t_lawParts)), (q_a1, .inr (2, [.int v_a1_columns, .int v_a1_rows, .int v_a1_fade, .int v_a1_laws, .int v_a1_nightHours, .int v_a1_nightTimes, .ref q_a1_ground, .ref q_a1_windows, .ref q_a1_lawParts])), (q_a1_ground, .inl (cI, 36, .inl v_a1_ground)), (q_a1_windows, .inl (cI, 6, .inl v_a1_windows)), (q_a1_lawParts, .inl (cI, 18, .inl v_a1_lawParts))] H := hP
  have hD : va_D A [(q_t, .inr (2, [.int v_a1_columns, .int v_a1_rows, .int v_a1_fade, .int v_a1_laws, .int v_a1_nightHours, .int v_t_nightTimes, .ref q_t_ground, .ref q_t_windows, .ref q_t_lawParts])), (q_t_ground, .inl (cI, 36, .inl v_t_ground)), (q_t_windows, .inl (cI, 6, .inl v_t_windows)), (q_t_lawParts, .inl (cI, 18, .inl v_t_lawParts)), (q_a1, .inr (2, [.int v_a1_columns, .int v_a1_rows, .int v_a1_fade, .int v_a1_laws, .int v_a1_nightHours, .int v_a1_nightTimes, .ref q_a1_ground, .ref q_a1_windows, .ref q_a1_lawParts])), (q_a1_ground, .inl (cI, 36, .inl v_a1_ground)), (q_a1_windows, .inl (cI, 6, .inl v_a1_windows)), (q_a1_lawParts, .inl (cI, 18, .inl v_a1_lawParts))] := hD
  refine lv_aload_n hx hb dX2_copyFrom_40 rfl (lv_at hl 0 rfl) ?_
  refine lv_aload_n hx hb dX2_copyFrom_41 rfl (lv_at hl 1 rfl) ?_
  refine va_get (D := D) (ci := 2) (v := .int v_a1_nightTimes) (C := RX2) (T := TX2) (N := 9) hx hb hts inX2 hown hK hP 4 rfl rfl 5 (by decide) (hts _ w_148) (fun _ h9 => h9) rfl dX2_copyFrom_42 ?_
  refine va_put (D := D) (ci := 2) (v := .int v_a1_nightTimes) (ty := .int) (C := RX2) (T := TX2) (N := 9) hx hb hts inX2 tyX2 tyX2_ok nmX2 hown hK hP hD hS 0 rfl rfl 5 (by decide) (hts _ w_148) (fun _ h9 => h9) rfl (by decide +kernel) rfl rfl (Nat.le_of_ble_eq_true rfl) dX2_copyFrom_45 (fun H locs hP hD hS => ?_)
  have hP : va_P D vwCl [(q_t, .inr (2, [.int v_a1_columns, .int v_a1_rows, .int v_a1_fade, .int v_a1_laws, .int v_a1_nightHours, .int v_a1_nightTimes, .ref q_t_ground, .ref q_t_windows, .ref q_t_lawParts])), (q_t_ground, .inl (cI, 36, .inl v_t_ground)), (q_t_windows, .inl (cI, 6, .inl v_t_windows)), (q_t_lawParts, .inl (cI, 18, .inl v_t_lawParts)), (q_a1, .inr (2, [.int v_a1_columns, .int v_a1_rows, .int v_a1_fade, .int v_a1_laws, .int v_a1_nightHours, .int v_a1_nightTimes, .ref q_a1_ground, .ref q_a1_windows, .ref q_a1_lawParts])), (q_a1_ground, .inl (cI, 36, .inl v_a1_ground)), (q_a1_windows, .inl (cI, 6, .inl v_a1_windows)), (q_a1_lawParts, .inl (cI, 18, .inl v_a1_lawParts))] H := hP
  have hD : va_D A [(q_t, .inr (2, [.int v_a1_columns, .int v_a1_rows, .int v_a1_fade, .int v_a1_laws, .int v_a1_nightHours, .int v_a1_nightTimes, .ref q_t_ground, .ref q_t_windows, .ref q_t_lawParts])), (q_t_ground, .inl (cI, 36, .inl v_t_ground)), (q_t_windows, .inl (cI, 6, .inl v_t_windows)), (q_t_lawParts, .inl (cI, 18, .inl v_t_lawParts)), (q_a1, .inr (2, [.int v_a1_columns, .int v_a1_rows, .int v_a1_fade, .int v_a1_laws, .int v_a1_nightHours, .int v_a1_nightTimes, .ref q_a1_ground, .ref q_a1_windows, .ref q_a1_lawParts])), (q_a1_ground, .inl (cI, 36, .inl v_a1_ground)), (q_a1_windows, .inl (cI, 6, .inl v_a1_windows)), (q_a1_lawParts, .inl (cI, 18, .inl v_a1_lawParts))] := hD
  refine lv_iconst (v := 0) hx hb dX2_copyFrom_48 (by decide) ?_
  refine lv_istore_n (lv' := [(2, .int 0), (0, .ref q_t), (1, .ref q_a1)]) hx hb dX2_copyFrom_49 rfl hl (by decide) rfl (fun ls hl => ?_)
  have L50_3 : ∀ (n_5 : Nat) (x2_1 : Int32) (v_t_ground_2 : Nat → Int32), f_X2_copyFrom_L50 v_a1_columns v_a1_rows v_a1_fade v_a1_laws v_a1_nightHours v_a1_nightTimes v_t_windows v_t_lawParts v_a1_ground v_a1_windows v_a1_lawParts n_5 x2_1 v_t_ground_2 = some z → ∀ (H : Heap) (locs : List Loc) (ls : Array Slot), va_P D vwCl [(q_t, .inr (2, [.int v_a1_columns, .int v_a1_rows, .int v_a1_fade, .int v_a1_laws, .int v_a1_nightHours, .int v_a1_nightTimes, .ref q_t_ground, .ref q_t_windows, .ref q_t_lawParts])), (q_t_ground, .inl (cI, 36, .inl v_t_ground_2)), (q_t_windows, .inl (cI, 6, .inl v_t_windows)), (q_t_lawParts, .inl (cI, 18, .inl v_t_lawParts)), (q_a1, .inr (2, [.int v_a1_columns, .int v_a1_rows, .int v_a1_fade, .int v_a1_laws, .int v_a1_nightHours, .int v_a1_nightTimes, .ref q_a1_ground, .ref q_a1_windows, .ref q_a1_lawParts])), (q_a1_ground, .inl (cI, 36, .inl v_a1_ground)), (q_a1_windows, .inl (cI, 6, .inl v_a1_windows)), (q_a1_lawParts, .inl (cI, 18, .inl v_a1_lawParts))] H → va_D A [(q_t, .inr (2, [.int v_a1_columns, .int v_a1_rows, .int v_a1_fade, .int v_a1_laws, .int v_a1_nightHours, .int v_a1_nightTimes, .ref q_t_ground, .ref q_t_windows, .ref q_t_lawParts])), (q_t_ground, .inl (cI, 36, .inl v_t_ground_2)), (q_t_windows, .inl (cI, 6, .inl v_t_windows)), (q_t_lawParts, .inl (cI, 18, .inl v_t_lawParts)), (q_a1, .inr (2, [.int v_a1_columns, .int v_a1_rows, .int v_a1_fade, .int v_a1_laws, .int v_a1_nightHours, .int v_a1_nightTimes, .ref q_a1_ground, .ref q_a1_windows, .ref q_a1_lawParts])), (q_a1_ground, .inl (cI, 36, .inl v_a1_ground)), (q_a1_windows, .inl (cI, 6, .inl v_a1_windows)), (q_a1_lawParts, .inl (cI, 18, .inl v_a1_lawParts))] → va_S A s.heap H locs → lv_has ls 3 [(0, .ref q_t), (1, .ref q_a1), (2, .int x2_1)] → W p l e ({ frames := 0, cells := 0, slots := 0, locals := 0 } : Room) s m ([.ref q_t, .ref q_a1] : List Value).toArray below meth c H locs 0 0 (MQ below (QV D cI cJ cZ [(q_t, .inr (2, [.int z.1, .int z.2.1, .int z.2.2.1, .int z.2.2.2.1, .int z.2.2.2.2.1, .int z.2.2.2.2.2.1, .ref q_t_ground, .ref q_t_windows, .ref q_t_lawParts])), (q_t_ground, .inl (cI, 36, .inl z.2.2.2.2.2.2.1)), (q_t_windows, .inl (cI, 6, .inl z.2.2.2.2.2.2.2.1)), (q_t_lawParts, .inl (cI, 18, .inl z.2.2.2.2.2.2.2.2)), (q_a1, .inr (2, [.int v_a1_columns, .int v_a1_rows, .int v_a1_fade, .int v_a1_laws, .int v_a1_nightHours, .int v_a1_nightTimes, .ref q_a1_ground, .ref q_a1_windows, .ref q_a1_lawParts])), (q_a1_ground, .inl (cI, 36, .inl v_a1_ground)), (q_a1_windows, .inl (cI, 6, .inl v_a1_windows)), (q_a1_lawParts, .inl (cI, 18, .inl v_a1_lawParts))] A) ([.ref q_t, .ref q_a1] : List Value).toArray s 0 0 A) (F0 m 50 ls []) := by
    intro n_5
    induction n_5 with
    | zero =>
      intro x2_1 v_t_ground_2 hf
      cases hf
    | succ n_5 ih_4 =>
      intro x2_1 v_t_ground_2 hf H locs ls hP hD hS hl
      rw [f_X2_copyFrom_L50] at hf
      refine lv_iload_n hx hb dX2_copyFrom_50 rfl (lv_at hl 2 rfl) ?_
      refine lv_bipush (v := 36) hx hb dX2_copyFrom_51 (by decide) ?_
      refine lv_icmp_ge (tgt := 74) hx hb dX2_copyFrom_53 (by decide) (fun h_6 => ?_) (fun h_6 => ?_)
      · have hf := (if_pos h_6).symm.trans hf
        unfold f_X2_copyFrom_J74 at hf
        refine lv_iconst (v := 0) hx hb dX2_copyFrom_74 (by decide) ?_
        refine lv_istore_n (lv' := [(2, .int 0), (0, .ref q_t), (1, .ref q_a1)]) hx hb dX2_copyFrom_75 rfl hl (by decide) rfl (fun ls hl => ?_)
        have L76_9 : ∀ (n_11 : Nat) (x2_7 : Int32) (v_t_windows_8 : Nat → Int32), f_X2_copyFrom_L76 v_a1_columns v_a1_rows v_a1_fade v_a1_laws v_a1_nightHours v_a1_nightTimes v_t_ground_2 v_t_lawParts v_a1_windows v_a1_lawParts n_11 x2_7 v_t_windows_8 = some z → ∀ (H : Heap) (locs : List Loc) (ls : Array Slot), va_P D vwCl [(q_t, .inr (2, [.int v_a1_columns, .int v_a1_rows, .int v_a1_fade, .int v_a1_laws, .int v_a1_nightHours, .int v_a1_nightTimes, .ref q_t_ground, .ref q_t_windows, .ref q_t_lawParts])), (q_t_ground, .inl (cI, 36, .inl v_t_ground_2)), (q_t_windows, .inl (cI, 6, .inl v_t_windows_8)), (q_t_lawParts, .inl (cI, 18, .inl v_t_lawParts)), (q_a1, .inr (2, [.int v_a1_columns, .int v_a1_rows, .int v_a1_fade, .int v_a1_laws, .int v_a1_nightHours, .int v_a1_nightTimes, .ref q_a1_ground, .ref q_a1_windows, .ref q_a1_lawParts])), (q_a1_ground, .inl (cI, 36, .inl v_a1_ground)), (q_a1_windows, .inl (cI, 6, .inl v_a1_windows)), (q_a1_lawParts, .inl (cI, 18, .inl v_a1_lawParts))] H → va_D A [(q_t, .inr (2, [.int v_a1_columns, .int v_a1_rows, .int v_a1_fade, .int v_a1_laws, .int v_a1_nightHours, .int v_a1_nightTimes, .ref q_t_ground, .ref q_t_windows, .ref q_t_lawParts])), (q_t_ground, .inl (cI, 36, .inl v_t_ground_2)), (q_t_windows, .inl (cI, 6, .inl v_t_windows_8)), (q_t_lawParts, .inl (cI, 18, .inl v_t_lawParts)), (q_a1, .inr (2, [.int v_a1_columns, .int v_a1_rows, .int v_a1_fade, .int v_a1_laws, .int v_a1_nightHours, .int v_a1_nightTimes, .ref q_a1_ground, .ref q_a1_windows, .ref q_a1_lawParts])), (q_a1_ground, .inl (cI, 36, .inl v_a1_ground)), (q_a1_windows, .inl (cI, 6, .inl v_a1_windows)), (q_a1_lawParts, .inl (cI, 18, .inl v_a1_lawParts))] → va_S A s.heap H locs → lv_has ls 3 [(0, .ref q_t), (1, .ref q_a1), (2, .int x2_7)] → W p l e ({ frames := 0, cells := 0, slots := 0, locals := 0 } : Room) s m ([.ref q_t, .ref q_a1] : List Value).toArray below meth c H locs 0 0 (MQ below (QV D cI cJ cZ [(q_t, .inr (2, [.int z.1, .int z.2.1, .int z.2.2.1, .int z.2.2.2.1, .int z.2.2.2.2.1, .int z.2.2.2.2.2.1, .ref q_t_ground, .ref q_t_windows, .ref q_t_lawParts])), (q_t_ground, .inl (cI, 36, .inl z.2.2.2.2.2.2.1)), (q_t_windows, .inl (cI, 6, .inl z.2.2.2.2.2.2.2.1)), (q_t_lawParts, .inl (cI, 18, .inl z.2.2.2.2.2.2.2.2)), (q_a1, .inr (2, [.int v_a1_columns, .int v_a1_rows, .int v_a1_fade, .int v_a1_laws, .int v_a1_nightHours, .int v_a1_nightTimes, .ref q_a1_ground, .ref q_a1_windows, .ref q_a1_lawParts])), (q_a1_ground, .inl (cI, 36, .inl v_a1_ground)), (q_a1_windows, .inl (cI, 6, .inl v_a1_windows)), (q_a1_lawParts, .inl (cI, 18, .inl v_a1_lawParts))] A) ([.ref q_t, .ref q_a1] : List Value).toArray s 0 0 A) (F0 m 76 ls []) := by
          intro n_11
          induction n_11 with
          | zero =>
            intro x2_7 v_t_windows_8 hf
            cases hf
          | succ n_11 ih_10 =>
            intro x2_7 v_t_windows_8 hf H locs ls hP hD hS hl
            rw [f_X2_copyFrom_L76] at hf
            refine lv_iload_n hx hb dX2_copyFrom_76 rfl (lv_at hl 2 rfl) ?_
            refine lv_bipush (v := 6) hx hb dX2_copyFrom_77 (by decide) ?_
            refine lv_icmp_ge (tgt := 100) hx hb dX2_copyFrom_79 (by decide) (fun h_12 => ?_) (fun h_12 => ?_)
            · have hf := (if_pos h_12).symm.trans hf
              unfold f_X2_copyFrom_J100 at hf
              refine lv_iconst (v := 0) hx hb dX2_copyFrom_100 (by decide) ?_
              refine lv_istore_n (lv' := [(2, .int 0), (0, .ref q_t), (1, .ref q_a1)]) hx hb dX2_copyFrom_101 rfl hl (by decide) rfl (fun ls hl => ?_)
              have L102_15 : ∀ (n_17 : Nat) (x2_13 : Int32) (v_t_lawParts_14 : Nat → Int32), f_X2_copyFrom_L102 v_a1_columns v_a1_rows v_a1_fade v_a1_laws v_a1_nightHours v_a1_nightTimes v_t_ground_2 v_t_windows_8 v_a1_lawParts n_17 x2_13 v_t_lawParts_14 = some z → ∀ (H : Heap) (locs : List Loc) (ls : Array Slot), va_P D vwCl [(q_t, .inr (2, [.int v_a1_columns, .int v_a1_rows, .int v_a1_fade, .int v_a1_laws, .int v_a1_nightHours, .int v_a1_nightTimes, .ref q_t_ground, .ref q_t_windows, .ref q_t_lawParts])), (q_t_ground, .inl (cI, 36, .inl v_t_ground_2)), (q_t_windows, .inl (cI, 6, .inl v_t_windows_8)), (q_t_lawParts, .inl (cI, 18, .inl v_t_lawParts_14)), (q_a1, .inr (2, [.int v_a1_columns, .int v_a1_rows, .int v_a1_fade, .int v_a1_laws, .int v_a1_nightHours, .int v_a1_nightTimes, .ref q_a1_ground, .ref q_a1_windows, .ref q_a1_lawParts])), (q_a1_ground, .inl (cI, 36, .inl v_a1_ground)), (q_a1_windows, .inl (cI, 6, .inl v_a1_windows)), (q_a1_lawParts, .inl (cI, 18, .inl v_a1_lawParts))] H → va_D A [(q_t, .inr (2, [.int v_a1_columns, .int v_a1_rows, .int v_a1_fade, .int v_a1_laws, .int v_a1_nightHours, .int v_a1_nightTimes, .ref q_t_ground, .ref q_t_windows, .ref q_t_lawParts])), (q_t_ground, .inl (cI, 36, .inl v_t_ground_2)), (q_t_windows, .inl (cI, 6, .inl v_t_windows_8)), (q_t_lawParts, .inl (cI, 18, .inl v_t_lawParts_14)), (q_a1, .inr (2, [.int v_a1_columns, .int v_a1_rows, .int v_a1_fade, .int v_a1_laws, .int v_a1_nightHours, .int v_a1_nightTimes, .ref q_a1_ground, .ref q_a1_windows, .ref q_a1_lawParts])), (q_a1_ground, .inl (cI, 36, .inl v_a1_ground)), (q_a1_windows, .inl (cI, 6, .inl v_a1_windows)), (q_a1_lawParts, .inl (cI, 18, .inl v_a1_lawParts))] → va_S A s.heap H locs → lv_has ls 3 [(0, .ref q_t), (1, .ref q_a1), (2, .int x2_13)] → W p l e ({ frames := 0, cells := 0, slots := 0, locals := 0 } : Room) s m ([.ref q_t, .ref q_a1] : List Value).toArray below meth c H locs 0 0 (MQ below (QV D cI cJ cZ [(q_t, .inr (2, [.int z.1, .int z.2.1, .int z.2.2.1, .int z.2.2.2.1, .int z.2.2.2.2.1, .int z.2.2.2.2.2.1, .ref q_t_ground, .ref q_t_windows, .ref q_t_lawParts])), (q_t_ground, .inl (cI, 36, .inl z.2.2.2.2.2.2.1)), (q_t_windows, .inl (cI, 6, .inl z.2.2.2.2.2.2.2.1)), (q_t_lawParts, .inl (cI, 18, .inl z.2.2.2.2.2.2.2.2)), (q_a1, .inr (2, [.int v_a1_columns, .int v_a1_rows, .int v_a1_fade, .int v_a1_laws, .int v_a1_nightHours, .int v_a1_nightTimes, .ref q_a1_ground, .ref q_a1_windows, .ref q_a1_lawParts])), (q_a1_ground, .inl (cI, 36, .inl v_a1_ground)), (q_a1_windows, .inl (cI, 6, .inl v_a1_windows)), (q_a1_lawParts, .inl (cI, 18, .inl v_a1_lawParts))] A) ([.ref q_t, .ref q_a1] : List Value).toArray s 0 0 A) (F0 m 102 ls []) := by
                intro n_17
                induction n_17 with
                | zero =>
                  intro x2_13 v_t_lawParts_14 hf
                  cases hf
                | succ n_17 ih_16 =>
                  intro x2_13 v_t_lawParts_14 hf H locs ls hP hD hS hl
                  rw [f_X2_copyFrom_L102] at hf
                  refine lv_iload_n hx hb dX2_copyFrom_102 rfl (lv_at hl 2 rfl) ?_
                  refine lv_bipush (v := 18) hx hb dX2_copyFrom_103 (by decide) ?_
                  refine lv_icmp_ge (tgt := 126) hx hb dX2_copyFrom_105 (by decide) (fun h_18 => ?_) (fun h_18 => ?_)
                  · have hf := (if_pos h_18).symm.trans hf
                    have hf := Option.some.inj hf
                    subst hf
                    exact rt_v hx hb hr hlocks hK hP hS dX2_copyFrom_126
                  · have hf := (if_neg h_18).symm.trans hf
                    refine lv_aload_n hx hb dX2_copyFrom_108 rfl (lv_at hl 0 rfl) ?_
                    refine va_get (D := D) (ci := 2) (v := .ref q_t_lawParts) (C := RX2) (T := TX2) (N := 9) hx hb hts inX2 hown hK hP 0 rfl rfl 8 (by decide) (hts _ w_152) (fun _ h9 => h9) rfl dX2_copyFrom_109 ?_
                    refine lv_iload_n hx hb dX2_copyFrom_112 rfl (lv_at hl 2 rfl) ?_
                    refine lv_aload_n hx hb dX2_copyFrom_113 rfl (lv_at hl 1 rfl) ?_
                    refine va_get (D := D) (ci := 2) (v := .ref q_a1_lawParts) (C := RX2) (T := TX2) (N := 9) hx hb hts inX2 hown hK hP 4 rfl rfl 8 (by decide) (hts _ w_152) (fun _ h9 => h9) rfl dX2_copyFrom_114 ?_
                    refine lv_iload_n hx hb dX2_copyFrom_117 rfl (lv_at hl 2 rfl) ?_
                    obtain ⟨hin, hf⟩ := gd_some hf
                    refine va_iald hx hb hK hP 7 0 rfl rfl hin dX2_copyFrom_118 ?_
                    obtain ⟨hin, hf⟩ := gd_some hf
                    refine va_iast hx hb hK hP hD hS 3 0 rfl rfl hin dX2_copyFrom_119 (fun H locs hP hD hS => ?_)
                    have hP : va_P D vwCl [(q_t, .inr (2, [.int v_a1_columns, .int v_a1_rows, .int v_a1_fade, .int v_a1_laws, .int v_a1_nightHours, .int v_a1_nightTimes, .ref q_t_ground, .ref q_t_windows, .ref q_t_lawParts])), (q_t_ground, .inl (cI, 36, .inl v_t_ground_2)), (q_t_windows, .inl (cI, 6, .inl v_t_windows_8)), (q_t_lawParts, .inl (cI, 18, .inl (upd v_t_lawParts_14 (Int32.toNatClampNeg x2_13) (v_a1_lawParts (Int32.toNatClampNeg x2_13))))), (q_a1, .inr (2, [.int v_a1_columns, .int v_a1_rows, .int v_a1_fade, .int v_a1_laws, .int v_a1_nightHours, .int v_a1_nightTimes, .ref q_a1_ground, .ref q_a1_windows, .ref q_a1_lawParts])), (q_a1_ground, .inl (cI, 36, .inl v_a1_ground)), (q_a1_windows, .inl (cI, 6, .inl v_a1_windows)), (q_a1_lawParts, .inl (cI, 18, .inl v_a1_lawParts))] H := hP
                    have hD : va_D A [(q_t, .inr (2, [.int v_a1_columns, .int v_a1_rows, .int v_a1_fade, .int v_a1_laws, .int v_a1_nightHours, .int v_a1_nightTimes, .ref q_t_ground, .ref q_t_windows, .ref q_t_lawParts])), (q_t_ground, .inl (cI, 36, .inl v_t_ground_2)), (q_t_windows, .inl (cI, 6, .inl v_t_windows_8)), (q_t_lawParts, .inl (cI, 18, .inl (upd v_t_lawParts_14 (Int32.toNatClampNeg x2_13) (v_a1_lawParts (Int32.toNatClampNeg x2_13))))), (q_a1, .inr (2, [.int v_a1_columns, .int v_a1_rows, .int v_a1_fade, .int v_a1_laws, .int v_a1_nightHours, .int v_a1_nightTimes, .ref q_a1_ground, .ref q_a1_windows, .ref q_a1_lawParts])), (q_a1_ground, .inl (cI, 36, .inl v_a1_ground)), (q_a1_windows, .inl (cI, 6, .inl v_a1_windows)), (q_a1_lawParts, .inl (cI, 18, .inl v_a1_lawParts))] := hD
                    refine lv_iinc (v := (x2_13 + 1)) (lv' := [(2, .int (x2_13 + 1)), (0, .ref q_t), (1, .ref q_a1)]) hx hb dX2_copyFrom_120 hl (k := 2) rfl rfl (by decide) rfl (fun ls hl => ?_)
                    refine lv_goto (tgt := 102) hx hb dX2_copyFrom_123 (by decide) ?_
                    exact ih_16 (x2_13 + 1) (upd v_t_lawParts_14 (Int32.toNatClampNeg x2_13) (v_a1_lawParts (Int32.toNatClampNeg x2_13))) hf _ _ _ hP hD hS (lv_sub hl [1, 2, 0] rfl)
              exact L102_15 FU 0 v_t_lawParts hf _ _ _ hP hD hS (lv_sub hl [1, 2, 0] rfl)
            · have hf := (if_neg h_12).symm.trans hf
              refine lv_aload_n hx hb dX2_copyFrom_82 rfl (lv_at hl 0 rfl) ?_
              refine va_get (D := D) (ci := 2) (v := .ref q_t_windows) (C := RX2) (T := TX2) (N := 9) hx hb hts inX2 hown hK hP 0 rfl rfl 7 (by decide) (hts _ w_151) (fun _ h9 => h9) rfl dX2_copyFrom_83 ?_
              refine lv_iload_n hx hb dX2_copyFrom_86 rfl (lv_at hl 2 rfl) ?_
              refine lv_aload_n hx hb dX2_copyFrom_87 rfl (lv_at hl 1 rfl) ?_
              refine va_get (D := D) (ci := 2) (v := .ref q_a1_windows) (C := RX2) (T := TX2) (N := 9) hx hb hts inX2 hown hK hP 4 rfl rfl 7 (by decide) (hts _ w_151) (fun _ h9 => h9) rfl dX2_copyFrom_88 ?_
              refine lv_iload_n hx hb dX2_copyFrom_91 rfl (lv_at hl 2 rfl) ?_
              obtain ⟨hin, hf⟩ := gd_some hf
              refine va_iald hx hb hK hP 6 0 rfl rfl hin dX2_copyFrom_92 ?_
              obtain ⟨hin, hf⟩ := gd_some hf
              refine va_iast hx hb hK hP hD hS 2 0 rfl rfl hin dX2_copyFrom_93 (fun H locs hP hD hS => ?_)
              have hP : va_P D vwCl [(q_t, .inr (2, [.int v_a1_columns, .int v_a1_rows, .int v_a1_fade, .int v_a1_laws, .int v_a1_nightHours, .int v_a1_nightTimes, .ref q_t_ground, .ref q_t_windows, .ref q_t_lawParts])), (q_t_ground, .inl (cI, 36, .inl v_t_ground_2)), (q_t_windows, .inl (cI, 6, .inl (upd v_t_windows_8 (Int32.toNatClampNeg x2_7) (v_a1_windows (Int32.toNatClampNeg x2_7))))), (q_t_lawParts, .inl (cI, 18, .inl v_t_lawParts)), (q_a1, .inr (2, [.int v_a1_columns, .int v_a1_rows, .int v_a1_fade, .int v_a1_laws, .int v_a1_nightHours, .int v_a1_nightTimes, .ref q_a1_ground, .ref q_a1_windows, .ref q_a1_lawParts])), (q_a1_ground, .inl (cI, 36, .inl v_a1_ground)), (q_a1_windows, .inl (cI, 6, .inl v_a1_windows)), (q_a1_lawParts, .inl (cI, 18, .inl v_a1_lawParts))] H := hP
              have hD : va_D A [(q_t, .inr (2, [.int v_a1_columns, .int v_a1_rows, .int v_a1_fade, .int v_a1_laws, .int v_a1_nightHours, .int v_a1_nightTimes, .ref q_t_ground, .ref q_t_windows, .ref q_t_lawParts])), (q_t_ground, .inl (cI, 36, .inl v_t_ground_2)), (q_t_windows, .inl (cI, 6, .inl (upd v_t_windows_8 (Int32.toNatClampNeg x2_7) (v_a1_windows (Int32.toNatClampNeg x2_7))))), (q_t_lawParts, .inl (cI, 18, .inl v_t_lawParts)), (q_a1, .inr (2, [.int v_a1_columns, .int v_a1_rows, .int v_a1_fade, .int v_a1_laws, .int v_a1_nightHours, .int v_a1_nightTimes, .ref q_a1_ground, .ref q_a1_windows, .ref q_a1_lawParts])), (q_a1_ground, .inl (cI, 36, .inl v_a1_ground)), (q_a1_windows, .inl (cI, 6, .inl v_a1_windows)), (q_a1_lawParts, .inl (cI, 18, .inl v_a1_lawParts))] := hD
              refine lv_iinc (v := (x2_7 + 1)) (lv' := [(2, .int (x2_7 + 1)), (0, .ref q_t), (1, .ref q_a1)]) hx hb dX2_copyFrom_94 hl (k := 2) rfl rfl (by decide) rfl (fun ls hl => ?_)
              refine lv_goto (tgt := 76) hx hb dX2_copyFrom_97 (by decide) ?_
              exact ih_10 (x2_7 + 1) (upd v_t_windows_8 (Int32.toNatClampNeg x2_7) (v_a1_windows (Int32.toNatClampNeg x2_7))) hf _ _ _ hP hD hS (lv_sub hl [1, 2, 0] rfl)
        exact L76_9 FU 0 v_t_windows hf _ _ _ hP hD hS (lv_sub hl [1, 2, 0] rfl)
      · have hf := (if_neg h_6).symm.trans hf
        refine lv_aload_n hx hb dX2_copyFrom_56 rfl (lv_at hl 0 rfl) ?_
        refine va_get (D := D) (ci := 2) (v := .ref q_t_ground) (C := RX2) (T := TX2) (N := 9) hx hb hts inX2 hown hK hP 0 rfl rfl 6 (by decide) (hts _ w_150) (fun _ h9 => h9) rfl dX2_copyFrom_57 ?_
        refine lv_iload_n hx hb dX2_copyFrom_60 rfl (lv_at hl 2 rfl) ?_
        refine lv_aload_n hx hb dX2_copyFrom_61 rfl (lv_at hl 1 rfl) ?_
        refine va_get (D := D) (ci := 2) (v := .ref q_a1_ground) (C := RX2) (T := TX2) (N := 9) hx hb hts inX2 hown hK hP 4 rfl rfl 6 (by decide) (hts _ w_150) (fun _ h9 => h9) rfl dX2_copyFrom_62 ?_
        refine lv_iload_n hx hb dX2_copyFrom_65 rfl (lv_at hl 2 rfl) ?_
        obtain ⟨hin, hf⟩ := gd_some hf
        refine va_iald hx hb hK hP 5 0 rfl rfl hin dX2_copyFrom_66 ?_
        obtain ⟨hin, hf⟩ := gd_some hf
        refine va_iast hx hb hK hP hD hS 1 0 rfl rfl hin dX2_copyFrom_67 (fun H locs hP hD hS => ?_)
        have hP : va_P D vwCl [(q_t, .inr (2, [.int v_a1_columns, .int v_a1_rows, .int v_a1_fade, .int v_a1_laws, .int v_a1_nightHours, .int v_a1_nightTimes, .ref q_t_ground, .ref q_t_windows, .ref q_t_lawParts])), (q_t_ground, .inl (cI, 36, .inl (upd v_t_ground_2 (Int32.toNatClampNeg x2_1) (v_a1_ground (Int32.toNatClampNeg x2_1))))), (q_t_windows, .inl (cI, 6, .inl v_t_windows)), (q_t_lawParts, .inl (cI, 18, .inl v_t_lawParts)), (q_a1, .inr (2, [.int v_a1_columns, .int v_a1_rows, .int v_a1_fade, .int v_a1_laws, .int v_a1_nightHours, .int v_a1_nightTimes, .ref q_a1_ground, .ref q_a1_windows, .ref q_a1_lawParts])), (q_a1_ground, .inl (cI, 36, .inl v_a1_ground)), (q_a1_windows, .inl (cI, 6, .inl v_a1_windows)), (q_a1_lawParts, .inl (cI, 18, .inl v_a1_lawParts))] H := hP
        have hD : va_D A [(q_t, .inr (2, [.int v_a1_columns, .int v_a1_rows, .int v_a1_fade, .int v_a1_laws, .int v_a1_nightHours, .int v_a1_nightTimes, .ref q_t_ground, .ref q_t_windows, .ref q_t_lawParts])), (q_t_ground, .inl (cI, 36, .inl (upd v_t_ground_2 (Int32.toNatClampNeg x2_1) (v_a1_ground (Int32.toNatClampNeg x2_1))))), (q_t_windows, .inl (cI, 6, .inl v_t_windows)), (q_t_lawParts, .inl (cI, 18, .inl v_t_lawParts)), (q_a1, .inr (2, [.int v_a1_columns, .int v_a1_rows, .int v_a1_fade, .int v_a1_laws, .int v_a1_nightHours, .int v_a1_nightTimes, .ref q_a1_ground, .ref q_a1_windows, .ref q_a1_lawParts])), (q_a1_ground, .inl (cI, 36, .inl v_a1_ground)), (q_a1_windows, .inl (cI, 6, .inl v_a1_windows)), (q_a1_lawParts, .inl (cI, 18, .inl v_a1_lawParts))] := hD
        refine lv_iinc (v := (x2_1 + 1)) (lv' := [(2, .int (x2_1 + 1)), (0, .ref q_t), (1, .ref q_a1)]) hx hb dX2_copyFrom_68 hl (k := 2) rfl rfl (by decide) rfl (fun ls hl => ?_)
        refine lv_goto (tgt := 50) hx hb dX2_copyFrom_71 (by decide) ?_
        exact ih_4 (x2_1 + 1) (upd v_t_ground_2 (Int32.toNatClampNeg x2_1) (v_a1_ground (Int32.toNatClampNeg x2_1))) hf _ _ _ hP hD hS (lv_sub hl [1, 2, 0] rfl)
  exact L50_3 FU 0 v_t_ground hf _ _ _ hP hD hS (lv_sub hl [1, 2, 0] rfl)
