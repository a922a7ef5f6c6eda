def f_X8_spread_L3 (v_a1_columns : Int32) (v_a1_rows : Int32) (v_a1_fade : Int32) (v_a1_ground : Nat → Int32) (x2 : Int32) (x3 : Int32) (x4 : Int32) : Nat → (Int32) → (Nat → Int32) → (Nat → Int32) → Option ((Nat → Int32) × (Nat → Int32))
  | 0, _, _, _ => none
  | n + 1, x5, v_t_marks, v_t_lasting => (if 8 ≤ x5 then (some (v_t_marks, v_t_lasting)) else (f_X8_follow v_t_marks v_a1_columns v_a1_rows v_a1_fade v_a1_ground x5 x2 x3 x4).bind (fun z24 => gd (ib x5 8) ((f_X8_spread_L3 v_a1_columns v_a1_rows v_a1_fade v_a1_ground x2 x3 x4 n (x5 + 1) z24.2 (upd v_t_lasting (Int32.toNatClampNeg x5) z24.1)))))
def f_X8_spread (v_t_marks : Nat → Int32) (v_t_lasting : Nat → Int32) (v_a1_columns : Int32) (v_a1_rows : Int32) (v_a1_fade : Int32) (v_a1_ground : Nat → Int32) (x2 : Int32) (x3 : Int32) (x4 : Int32) : Option ((Nat → Int32) × (Nat → Int32)) :=
  (f_X8_spread_L3 v_a1_columns v_a1_rows v_a1_fade v_a1_ground x2 x3 x4 FU 0 v_t_marks v_t_lasting)
theorem gv_X8_spread {own : String} {idx : Nat} (h : Cond.methodLink own idx yX8_spread ∈ lw_g) : GoodIn lw_g (wsV own idx RX8 yX8_spread (Cond.code yX8_spread cX8_spread 6 none :: lw_g)) := gV h w_586 w_587 w_64 w_588
theorem hd_X8_spread : yX8_spread.cls = RX8 ∧ yX8_spread.cls ≠ "java/lang/invoke/MethodHandle" ∧ yX8_spread.cls ≠ "java/lang/invoke/VarHandle" ∧ (parseMethodDescriptor yX8_spread.desc).map (fun d => d.parameters.length) = some 4 := by decide +kernel
set_option maxHeartbeats 4000000 in
set_option maxRecDepth 100000 in
theorem c_X8_spread (l : Launch) (D : va_G) (cI cJ cZ : ClassId) (en : EnT) (q_t q_t_marks q_t_lasting q_a1 q_a1_ground q_a1_windows q_a1_lawParts : Nat) (sz : Nat) (v_t_marks : Nat → Int32) (v_t_lasting : Nat → Int32) (v_a1_columns : Int32) (v_a1_rows : Int32) (v_a1_fade : Int32) (v_a1_laws : Int32) (v_a1_nightHours : Int32) (v_a1_nightTimes : Int32) (v_a1_ground : Nat → Int32) (v_a1_windows : Nat → Int32) (v_a1_lawParts : Nat → Int32) (x2 : Int32) (x3 : Int32) (x4 : Int32) {z : (Nat → Int32) × (Nat → Int32)} (hf : f_X8_spread v_t_marks v_t_lasting v_a1_columns v_a1_rows v_a1_fade v_a1_ground x2 x3 x4 = some z) : Met l yX8_spread (Cond.code yX8_spread cX8_spread 6 none :: lw_g) ({ frames := 4, cells := 0, slots := 0, locals := 99 } : Room) (PC D cI cJ cZ en ([.ref q_t, .ref q_a1, .int x2, .int x3, .int x4] : List Value) [(q_t, .inr (8, [.ref q_t_marks, .ref q_t_lasting])), (q_t_marks, .inl (cI, 480, .inl v_t_marks)), (q_t_lasting, .inl (cI, 8, .inl v_t_lasting)), (q_a1, .inr (2, [.int v_a1_columns, .int v_a1_rows, .int v_a1_fade, .int v_a1_laws, .int v_a1_nightHours, .int v_a1_nightTimes, .ref q_a1_ground, .ref q_a1_windows, .ref q_a1_lawParts])), (q_a1_ground, .inl (cI, 36, .inl v_a1_ground)), (q_a1_windows, .inl (cI, 6, .inl v_a1_windows)), (q_a1_lawParts, .inl (cI, 18, .inl v_a1_lawParts))] sz) (QV D cI cJ cZ [(q_t, .inr (8, [.ref q_t_marks, .ref q_t_lasting])), (q_t_marks, .inl (cI, 480, .inl z.1)), (q_t_lasting, .inl (cI, 8, .inl z.2)), (q_a1, .inr (2, [.int v_a1_columns, .int v_a1_rows, .int v_a1_fade, .int v_a1_laws, .int v_a1_nightHours, .int v_a1_nightTimes, .ref q_a1_ground, .ref q_a1_windows, .ref q_a1_lawParts])), (q_a1_ground, .inl (cI, 36, .inl v_a1_ground)), (q_a1_windows, .inl (cI, 6, .inl v_a1_windows)), (q_a1_lawParts, .inl (cI, 18, .inl v_a1_lawParts))] (va_A [(q_t, .inr (8, [.ref q_t_marks, .ref q_t_lasting])), (q_t_marks, .inl (cI, 480, .inl v_t_marks)), (q_t_lasting, .inl (cI, 8, .inl v_t_lasting)), (q_a1, .inr (2, [.int v_a1_columns, .int v_a1_rows, .int v_a1_fade, .int v_a1_laws, .int v_a1_nightHours, .int v_a1_nightTimes, .ref q_a1_ground, .ref q_a1_windows, .ref q_a1_lawParts])), (q_a1_ground, .inl (cI, 36, .inl v_a1_ground)), (q_a1_windows, .inl (cI, 6, .inl v_a1_windows)), (q_a1_lawParts, .inl (cI, 18, .inl v_a1_lawParts))] sz)) 0 0 (va_A [(q_t, .inr (8, [.ref q_t_marks, .ref q_t_lasting])), (q_t_marks, .inl (cI, 480, .inl v_t_marks)), (q_t_lasting, .inl (cI, 8, .inl v_t_lasting)), (q_a1, .inr (2, [.int v_a1_columns, .int v_a1_rows, .int v_a1_fade, .int v_a1_laws, .int v_a1_nightHours, .int v_a1_nightTimes, .ref q_a1_ground, .ref q_a1_windows, .ref q_a1_lawParts])), (q_a1_ground, .inl (cI, 36, .inl v_a1_ground)), (q_a1_windows, .inl (cI, 6, .inl v_a1_windows)), (q_a1_lawParts, .inl (cI, 18, .inl v_a1_lawParts))] sz) := by
  refine mk_met (Qc := fun A => (QV D cI cJ cZ [(q_t, .inr (8, [.ref q_t_marks, .ref q_t_lasting])), (q_t_marks, .inl (cI, 480, .inl z.1)), (q_t_lasting, .inl (cI, 8, .inl z.2)), (q_a1, .inr (2, [.int v_a1_columns, .int v_a1_rows, .int v_a1_fade, .int v_a1_laws, .int v_a1_nightHours, .int v_a1_nightTimes, .ref q_a1_ground, .ref q_a1_windows, .ref q_a1_lawParts])), (q_a1_ground, .inl (cI, 36, .inl v_a1_ground)), (q_a1_windows, .inl (cI, 6, .inl v_a1_windows)), (q_a1_lawParts, .inl (cI, 18, .inl v_a1_lawParts))] A)) RX8 (by decide) rfl (Nat.le_of_ble_eq_true rfl) ?_
  intro p e s m below meth c ls A hx hb hr hml hown hts hlocks hA hK hE hl hD H locs hP hS
  have hl : lv_has ls 6 [(0, .ref q_t), (1, .ref q_a1), (2, .int x2), (3, .int x3), (4, .int x4)] := hl
  unfold f_X8_spread at hf
  refine lv_iconst (v := 0) hx hb dX8_spread_0 (by decide) ?_
  refine lv_istore (lv' := [(5, .int 0), (0, .ref q_t), (1, .ref q_a1), (2, .int x2), (3, .int x3), (4, .int x4)]) hx hb dX8_spread_1 hl (by decide) rfl (fun ls hl => ?_)
  have L3_4 : ∀ (n_6 : Nat) (x5_1 : Int32) (v_t_marks_2 : Nat → Int32) (v_t_lasting_3 : Nat → Int32), f_X8_spread_L3 v_a1_columns v_a1_rows v_a1_fade v_a1_ground x2 x3 x4 n_6 x5_1 v_t_marks_2 v_t_lasting_3 = some z → ∀ (H : Heap) (locs : List Loc) (ls : Array Slot), va_P D vwCl [(q_t, .inr (8, [.ref q_t_marks, .ref q_t_lasting])), (q_t_marks, .inl (cI, 480, .inl v_t_marks_2)), (q_t_lasting, .inl (cI, 8, .inl v_t_lasting_3)), (q_a1, .inr (2, [.int v_a1_columns, .int v_a1_rows, .int v_a1_fade, .int v_a1_laws, .int v_a1_nightHours, .int v_a1_nightTimes, .ref q_a1_ground, .ref q_a1_windows, .ref q_a1_lawParts])), (q_a1_ground, .inl (cI, 36, .inl v_a1_ground)), (q_a1_windows, .inl (cI, 6, .inl v_a1_windows)), (q_a1_lawParts, .inl (cI, 18, .inl v_a1_lawParts))] H → va_D A [(q_t, .inr (8, [.ref q_t_marks, .ref q_t_lasting])), (q_t_marks, .inl (cI, 480, .inl v_t_marks_2)), (q_t_lasting, .inl (cI, 8, .inl v_t_lasting_3)), (q_a1, .inr (2, [.int v_a1_columns, .int v_a1_rows, .int v_a1_fade, .int v_a1_laws, .int v_a1_nightHours, .int v_a1_nightTimes, .ref q_a1_ground, .ref q_a1_windows, .ref q_a1_lawParts])), (q_a1_ground, .inl (cI, 36, .inl v_a1_ground)), (q_a1_windows, .inl (cI, 6, .inl v_a1_windows)), (q_a1_lawParts, .inl (cI, 18, .inl v_a1_lawParts))] → va_S A s.heap H locs → lv_has ls 6 [(0, .ref q_t), (1, .ref q_a1), (2, .int x2), (3, .int x3), (4, .int x4), (5, .int x5_1)] → W p l e ({ frames := 4, cells := 0, slots := 0, locals := 99 } : Room) s m ([.ref q_t, .ref q_a1, .int x2, .int x3, .int x4] : List Value).toArray below meth c H locs 0 0 (MQ below (QV D cI cJ cZ [(q_t, .inr (8, [.ref q_t_marks, .ref q_t_lasting])), (q_t_marks, .inl (cI, 480, .inl z.1)), (q_t_lasting, .inl (cI, 8, .inl z.2)), (q_a1, .inr (2, [.int v_a1_columns, .int v_a1_rows, .int v_a1_fade, .int v_a1_laws, .int v_a1_nightHours, .int v_a1_nightTimes, .ref q_a1_ground, .ref q_a1_windows, .ref q_a1_lawParts])), (q_a1_ground, .inl (cI, 36, .inl v_a1_ground)), (q_a1_windows, .inl (cI, 6, .inl v_a1_windows)), (q_a1_lawParts, .inl (cI, 18, .inl v_a1_lawParts))] A) ([.ref q_t, .ref q_a1, .int x2, .int x3, .int x4] : List Value).toArray s 0 0 A) (F0 m 3 ls []) := by
    intro n_6
    induction n_6 with
    | zero =>
      intro x5_1 v_t_marks_2 v_t_lasting_3 hf
      cases hf
    | succ n_6 ih_5 =>
      intro x5_1 v_t_marks_2 v_t_lasting_3 hf H locs ls hP hD hS hl
      rw [f_X8_spread_L3] at hf
      refine lv_iload hx hb dX8_spread_3 (lv_at hl 5 rfl) ?_
      refine lv_bipush (v := 8) hx hb dX8_spread_5 (by decide) ?_
      refine lv_icmp_ge (tgt := 34) hx hb dX8_spread_7 (by decide) (fun h_7 => ?_) (fun h_7 => ?_)
      · have hf := (if_pos h_7).symm.trans hf
        cases hf
        exact rt_v hx hb hr hlocks hK hP hS dX8_spread_34
      · have hf := (if_neg h_7).symm.trans hf
        refine lv_aload_n hx hb dX8_spread_10 rfl (lv_at hl 0 rfl) ?_
        refine va_get (D := D) (ci := 8) (v := .ref q_t_lasting) (C := RX8) (T := TX8) (N := 2) hx hb hts inX8 hown hK hP 0 rfl rfl 1 (by decide) (hts _ w_240) (fun _ h9 => h9) rfl dX8_spread_11 ?_
        refine lv_iload hx hb dX8_spread_14 (lv_at hl 5 rfl) ?_
        refine lv_aload_n hx hb dX8_spread_16 rfl (lv_at hl 0 rfl) ?_
        refine lv_aload_n hx hb dX8_spread_17 rfl (lv_at hl 1 rfl) ?_
        refine lv_iload hx hb dX8_spread_18 (lv_at hl 5 rfl) ?_
        refine lv_iload_n hx hb dX8_spread_20 rfl (lv_at hl 2 rfl) ?_
        refine lv_iload_n hx hb dX8_spread_21 rfl (lv_at hl 3 rfl) ?_
        refine lv_iload hx hb dX8_spread_22 (lv_at hl 4 rfl) ?_
        obtain ⟨z24_8, hz24_8, hf⟩ := bd_some hf
        refine cVi (rest := [.int x5_1, .ref q_t_lasting]) ⟨hx, hb, hml, hown, hts⟩ hE hK hP hD hS hA (c_X8_follow l D cI cJ cZ en q_t q_t_marks q_t_lasting q_a1 q_a1_ground q_a1_windows q_a1_lawParts H.size v_t_marks_2 v_t_lasting_3 v_a1_columns v_a1_rows v_a1_fade v_a1_laws v_a1_nightHours v_a1_nightTimes v_a1_ground v_a1_windows v_a1_lawParts x5_1 x2 x3 x4 hz24_8) (gv_X8_follow w_589) hd_X8_follow ⟨rfl, rfl⟩ ⟨by decide, by decide⟩ [0, 1, 2, 3, 4, 5, 6] rfl rfl rfl 8 rfl rfl 0 rfl  hl rfl (Nat.le_of_ble_eq_true rfl) ⟨Nat.zero_le _, Nat.zero_le _⟩ dX8_spread_24 (fun H locs hP hD hS => ?_)
        have hP : va_P D vwCl [(q_t, .inr (8, [.ref q_t_marks, .ref q_t_lasting])), (q_t_marks, .inl (cI, 480, .inl z24_8.2)), (q_t_lasting, .inl (cI, 8, .inl v_t_lasting_3)), (q_a1, .inr (2, [.int v_a1_columns, .int v_a1_rows, .int v_a1_fade, .int v_a1_laws, .int v_a1_nightHours, .int v_a1_nightTimes, .ref q_a1_ground, .ref q_a1_windows, .ref q_a1_lawParts])), (q_a1_ground, .inl (cI, 36, .inl v_a1_ground)), (q_a1_windows, .inl (cI, 6, .inl v_a1_windows)), (q_a1_lawParts, .inl (cI, 18, .inl v_a1_lawParts))] H := hP
        have hD : va_D A [(q_t, .inr (8, [.ref q_t_marks, .ref q_t_lasting])), (q_t_marks, .inl (cI, 480, .inl z24_8.2)), (q_t_lasting, .inl (cI, 8, .inl v_t_lasting_3)), (q_a1, .inr (2, [.int v_a1_columns, .int v_a1_rows, .int v_a1_fade, .int v_a1_laws, .int v_a1_nightHours, .int v_a1_nightTimes, .ref q_a1_ground, .ref q_a1_windows, .ref q_a1_lawParts])), (q_a1_ground, .inl (cI, 36, .inl v_a1_ground)), (q_a1_windows, .inl (cI, 6, .inl v_a1_windows)), (q_a1_lawParts, .inl (cI, 18, .inl v_a1_lawParts))] := hD
        obtain ⟨hin, hf⟩ := gd_some hf
        refine va_iast hx hb hK hP hD hS 2 0 rfl rfl hin dX8_spread_27 (fun H locs hP hD hS => ?_)
        have hP : va_P D vwCl [(q_t, .inr (8, [.ref q_t_marks, .ref q_t_lasting])), (q_t_marks, .inl (cI, 480, .inl z24_8.2)), (q_t_lasting, .inl (cI, 8, .inl (upd v_t_lasting_3 (Int32.toNatClampNeg x5_1) z24_8.1))), (q_a1, .inr (2, [.int v_a1_columns, .int v_a1_rows, .int v_a1_fade, .int v_a1_laws, .int v_a1_nightHours, .int v_a1_nightTimes, .ref q_a1_ground, .ref q_a1_windows, .ref q_a1_lawParts])), (q_a1_ground, .inl (cI, 36, .inl v_a1_ground)), (q_a1_windows, .inl (cI, 6, .inl v_a1_windows)), (q_a1_lawParts, .inl (cI, 18, .inl v_a1_lawParts))] H := hP
        have hD : va_D A [(q_t, .inr (8, [.ref q_t_marks, .ref q_t_lasting])), (q_t_marks, .inl (cI, 480, .inl z24_8.2)), (q_t_lasting, .inl (cI, 8, .inl (upd v_t_lasting_3 (Int32.toNatClampNeg x5_1) z24_8.1))), (q_a1, .inr (2, [.int v_a1_columns, .int v_a1_rows, .int v_a1_fade, .int v_a1_laws, .int v_a1_nightHours, .int v_a1_nightTimes, .ref q_a1_ground, .ref q_a1_windows, .ref q_a1_lawParts])), (q_a1_ground, .inl (cI, 36, .inl v_a1_ground)), (q_a1_windows, .inl (cI, 6, .inl v_a1_windows)), (q_a1_lawParts, .inl (cI, 18, .inl v_a1_lawParts))] := hD
        refine lv_iinc (v := (x5_1 + 1)) (lv' := [(5, .int (x5_1 + 1)), (0, .ref q_t), (1, .ref q_a1), (2, .int x2), (3, .int x3), (4, .int x4)]) hx hb dX8_spread_28 hl (k := 5) rfl rfl (by decide) rfl (fun ls hl => ?_)
        refine lv_goto (tgt := 3) hx hb dX8_spread_31 (by decide) ?_
        exact ih_5 (x5_1 + 1) z24_8.2 (upd v_t_lasting_3 (Int32.toNatClampNeg x5_1) z24_8.1) hf _ _ _ hP hD hS (lv_sub hl [1, 2, 3, 4, 5, 0] rfl)
  exact L3_4 FU 0 v_t_marks v_t_lasting hf _ _ _ hP hD hS (lv_sub hl [1, 2, 3, 4, 5, 0] rfl)

def f_X8_firstTickAt_J37 (rc2 : (Int32) → Option (Int32)) (x2 : Int32) : Option (Int32) :=
  (rc2 (x2 + 1))
def f_X8_firstTickAt_L10 (rc2 : (Int32) → Option (Int32)) (v_t_marks : Nat → Int32) (v_t_lasting : Nat → Int32) (x1 : Int32) (x2 : Int32) : Nat → (Int32) → Option (Int32)
  | 0, _ => none
  | n + 1, x3 => (if 8 ≤ x3 then (f_X8_firstTickAt_J37 rc2 x2) else (f_X8_soundOf v_t_marks v_t_lasting x3 x2).bind (fun z19 => (f_X8_cellOf z19).bind (fun z22 => (if z22 = x1 then (some x2) else (f_X8_firstTickAt_L10 rc2 v_t_marks v_t_lasting x1 x2 n (x3 + 1))))))
def f_X8_firstTickAt_L2 (v_t_marks : Nat → Int32) (v_t_lasting : Nat → Int32) (x1 : Int32) : Nat → (Int32) → Option (Int32)
  | 0, _ => none
  | n + 1, x2 => (if 60 < x2 then (some (-1)) else (f_X8_firstTickAt_L10 (f_X8_firstTickAt_L2 v_t_marks v_t_lasting x1 n) v_t_marks v_t_lasting x1 x2 FU 0))
def f_X8_firstTickAt (v_t_marks : Nat → Int32) (v_t_lasting : Nat → Int32) (x1 : Int32) : Option (Int32) :=
  (f_X8_firstTickAt_L2 v_t_marks v_t_lasting x1 FU 1)
theorem gv_X8_firstTickAt {own : String} {idx : Nat} (h : Cond.methodLink own idx yX8_firstTickAt ∈ lw_g) : GoodIn lw_g (wsV own idx RX8 yX8_firstTickAt (Cond.code yX8_firstTickAt cX8_firstTickAt 4 (some .int) :: lw_g)) := gV h w_686 w_687 w_64 w_688
theorem hd_X8_firstTickAt : yX8_firstTickAt.cls = RX8 ∧ yX8_firstTickAt.cls ≠ "java/lang/invoke/MethodHandle" ∧ yX8_firstTickAt.cls ≠ "java/lang/invoke/VarHandle" ∧ (parseMethodDescriptor yX8_firstTickAt.desc).map (fun d => d.parameters.length) = some 1 := by decide +kernel
set_option maxHeartbeats 4000000 in
set_option maxRecDepth 100000 in
theorem c_X8_firstTickAt (l : Launch) (D : va_G) (cI cJ cZ : ClassId) (en : EnT) (q_t q_t_marks q_t_lasting : Nat) (sz : Nat) (v_t_marks : Nat → Int32) (v_t_lasting : Nat → Int32) (x1 : Int32) {z : Int32} (hf : f_X8_firstTickAt v_t_marks v_t_lasting x1 = some z) : Met l yX8_firstTickAt (Cond.code yX8_firstTickAt cX8_firstTickAt 4 (some .int) :: lw_g) ({ frames := 1, cells := 0, slots := 0, locals := 22 } : Room) (PC D cI cJ cZ en ([.ref q_t, .int x1] : List Value) [(q_t, .inr (8, [.ref q_t_marks, .ref q_t_lasting])), (q_t_marks, .inl (cI, 480, .inl v_t_marks)), (q_t_lasting, .inl (cI, 8, .inl v_t_lasting))] sz) (QI D cI cJ cZ [(q_t, .inr (8, [.ref q_t_marks, .ref q_t_lasting])), (q_t_marks, .inl (cI, 480, .inl v_t_marks)), (q_t_lasting, .inl (cI, 8, .inl v_t_lasting))] z (va_A [(q_t, .inr (8, [.ref q_t_marks, .ref q_t_lasting])), (q_t_marks, .inl (cI, 480, .inl v_t_marks)), (q_t_lasting, .inl (cI, 8, .inl v_t_lasting))] sz)) 0 0 (va_A [(q_t, .inr (8, [.ref q_t_marks, .ref q_t_lasting])), (q_t_marks, .inl (cI, 480, .inl v_t_marks)), (q_t_lasting, .inl (cI, 8, .inl v_t_lasting))] sz) := by
  refine mk_met (Qc := fun A => (QI D cI cJ cZ [(q_t, .inr (8, [.ref q_t_marks, .ref q_t_lasting])), (q_t_marks, .inl (cI, 480, .inl v_t_marks)), (q_t_lasting, .inl (cI, 8, .inl v_t_lasting))] z A)) RX8 (by decide) rfl (Nat.le_of_ble_eq_true rfl) ?_
  intro p e s m below meth c ls A hx hb hr hml hown hts hlocks hA hK hE hl hD H locs hP hS
  have hl : lv_has ls 4 [(0, .ref q_t), (1, .int x1)] := hl
  unfold f_X8_firstTickAt at hf
  refine lv_iconst (v := 1) hx hb dX8_firstTickAt_0 (by decide) ?_
  refine lv_istore_n (lv' := [(2, .int 1), (0, .ref q_t), (1, .int x1)]) hx hb dX8_firstTickAt_1 rfl hl (by decide) rfl (fun ls hl => ?_)
  have L2_2 : ∀ (n_4 : Nat) (x2_1 : Int32), f_X8_firstTickAt_L2 v_t_marks v_t_lasting x1 n_4 x2_1 = some z → ∀ (H : Heap) (locs : List Loc) (ls : Array Slot), va_P D vwCl [(q_t, .inr (8, [.ref q_t_marks, .ref q_t_lasting])), (q_t_marks, .inl (cI, 480, .inl v_t_marks)), (q_t_lasting, .inl (cI, 8, .inl v_t_lasting))] H → va_D A [(q_t, .inr (8, [.ref q_t_marks, .ref q_t_lasting])), (q_t_marks, .inl (cI, 480, .inl v_t_marks)), (q_t_lasting, .inl (cI, 8, .inl v_t_lasting))] → va_S A s.heap H locs → lv_has ls 4 [(0, .ref q_t), (1, .int x1), (2, .int x2_1)] → W p l e ({ frames := 1, cells := 0, slots := 0, locals := 22 } : Room) s m ([.ref q_t, .int x1] : List Value).toArray below meth c H locs 0 0 (MQ below (QI D cI cJ cZ [(q_t, .inr (8, [.ref q_t_marks, .ref q_t_lasting])), (q_t_marks, .inl (cI, 480, .inl v_t_marks)), (q_t_lasting, .inl (cI, 8, .inl v_t_lasting))] z A) ([.ref q_t, .int x1] : List Value).toArray s 0 0 A) (F0 m 2 ls []) := by
    intro n_4
    induction n_4 with
    | zero =>
      intro x2_1 hf
      cases hf
    | succ n_4 ih_3 =>
      intro x2_1 hf H locs ls hP hD hS hl
      rw [f_X8_firstTickAt_L2] at hf
      refine lv_iload_n hx hb dX8_firstTickAt_2 rfl (lv_at hl 2 rfl) ?_
      refine lv_bipush (v := 60) hx hb dX8_firstTickAt_3 (by decide) ?_
      refine lv_icmp_gt (tgt := 43) hx hb dX8_firstTickAt_5 (by decide) (fun h_5 => ?_) (fun h_5 => ?_)
      · have hf := (if_pos h_5).symm.trans hf
        refine lv_iconst (v := (-1)) hx hb dX8_firstTickAt_43 (by decide) ?_
        cases hf
        exact rt_i hx hb hr hlocks hK hP hS dX8_firstTickAt_44
      · have hf := (if_neg h_5).symm.trans hf
        refine lv_iconst (v := 0) hx hb dX8_firstTickAt_8 (by decide) ?_
        refine lv_istore_n (lv' := [(3, .int 0), (0, .ref q_t), (1, .int x1), (2, .int x2_1)]) hx hb dX8_firstTickAt_9 rfl hl (by decide) rfl (fun ls hl => ?_)
        have L10_7 : ∀ (n_9 : Nat) (x3_6 : Int32), f_X8_firstTickAt_L10 (f_X8_firstTickAt_L2 v_t_marks v_t_lasting x1 n_4) v_t_marks v_t_lasting x1 x2_1 n_9 x3_6 = some z → ∀ (H : Heap) (locs : List Loc) (ls : Array Slot), va_P D vwCl [(q_t, .inr (8, [.ref q_t_marks, .ref q_t_lasting])), (q_t_marks, .inl (cI, 480, .inl v_t_marks)), (q_t_lasting, .inl (cI, 8, .inl v_t_lasting))] H → va_D A [(q_t, .inr (8, [.ref q_t_marks, .ref q_t_lasting])), (q_t_marks, .inl (cI, 480, .inl v_t_marks)), (q_t_lasting, .inl (cI, 8, .inl v_t_lasting))] → va_S A s.heap H locs → lv_has ls 4 [(0, .ref q_t), (1, .int x1), (2, .int x2_1), (3, .int x3_6)] → W p l e ({ frames := 1, cells := 0, slots := 0, locals := 22 } : Room) s m ([.ref q_t, .int x1] : List Value).toArray below meth c H locs 0 0 (MQ below (QI D cI cJ cZ [(q_t, .inr (8, [.ref q_t_marks, .ref q_t_lasting])), (q_t_marks, .inl (cI, 480, .inl v_t_marks)), (q_t_lasting, .inl (cI, 8, .inl v_t_lasting))] z A) ([.ref q_t, .int x1] : List Value).toArray s 0 0 A) (F0 m 10 ls []) := by
          intro n_9
          induction n_9 with
          | zero =>
            intro x3_6 hf
            cases hf
          | succ n_9 ih_8 =>
            intro x3_6 hf H locs ls hP hD hS hl
            rw [f_X8_firstTickAt_L10] at hf
            refine lv_iload_n hx hb dX8_firstTickAt_10 rfl (lv_at hl 3 rfl) ?_
            refine lv_bipush (v := 8) hx hb dX8_firstTickAt_11 (by decide) ?_
            refine lv_icmp_ge (tgt := 37) hx hb dX8_firstTickAt_13 (by decide) (fun h_10 => ?_) (fun h_10 => ?_)
            · have hf := (if_pos h_10).symm.trans hf
              unfold f_X8_firstTickAt_J37 at hf
              refine lv_iinc (v := (x2_1 + 1)) (lv' := [(2, .int (x2_1 + 1)), (0, .ref q_t), (1, .int x1), (3, .int x3_6)]) hx hb dX8_firstTickAt_37 hl (k := 2) rfl rfl (by decide) rfl (fun ls hl => ?_)
              refine lv_goto (tgt := 2) hx hb dX8_firstTickAt_40 (by decide) ?_
              exact ih_3 (x2_1 + 1) hf _ _ _ hP hD hS (lv_sub hl [1, 2, 0] rfl)
            · have hf := (if_neg h_10).symm.trans hf
              refine lv_aload_n hx hb dX8_firstTickAt_16 rfl (lv_at hl 0 rfl) ?_
              refine lv_iload_n hx hb dX8_firstTickAt_17 rfl (lv_at hl 3 rfl) ?_
              refine lv_iload_n hx hb dX8_firstTickAt_18 rfl (lv_at hl 2 rfl) ?_
              obtain ⟨z19_11, hz19_11, hf⟩ := bd_some hf
              refine cVi (rest := []) ⟨hx, hb, hml, hown, hts⟩ hE hK hP hD hS hA (c_X8_soundOf l D cI cJ cZ en q_t q_t_marks q_t_lasting H.size v_t_marks v_t_lasting x3_6 x2_1 hz19_11) (gv_X8_soundOf w_682) hd_X8_soundOf ⟨rfl, rfl⟩ ⟨by decide, by decide⟩ [0, 1, 2] rfl rfl rfl 8 rfl rfl 0 rfl  hl rfl (Nat.le_of_ble_eq_true rfl) ⟨Nat.zero_le _, Nat.zero_le _⟩ dX8_firstTickAt_19 (fun H locs hP hD hS => ?_)
              have hP : va_P D vwCl [(q_t, .inr (8, [.ref q_t_marks, .ref q_t_lasting])), (q_t_marks, .inl (cI, 480, .inl v_t_marks)), (q_t_lasting, .inl (cI, 8, .inl v_t_lasting))] H := hP
              have hD : va_D A [(q_t, .inr (8, [.ref q_t_marks, .ref q_t_lasting])), (q_t_marks, .inl (cI, 480, .inl v_t_marks)), (q_t_lasting, .inl (cI, 8, .inl v_t_lasting))] := hD
              obtain ⟨z22_12, hz22_12, hf⟩ := bd_some hf
              refine cSi (rest := []) ⟨hx, hb, hml, hown, hts⟩ hE hK hP hD hS hA (c_X8_cellOf l D cI cJ cZ en  H.size z19_11 hz22_12) (gs_X8_cellOf w_683) hd_X8_cellOf ⟨rfl, rfl⟩ ⟨by decide, by decide⟩ [] rfl rfl rfl  hl rfl (Nat.le_of_ble_eq_true rfl) ⟨Nat.zero_le _, Nat.zero_le _⟩ dX8_firstTickAt_22 (fun H locs hP hD hS => ?_)
              have hP : va_P D vwCl [(q_t, .inr (8, [.ref q_t_marks, .ref q_t_lasting])), (q_t_marks, .inl (cI, 480, .inl v_t_marks)), (q_t_lasting, .inl (cI, 8, .inl v_t_lasting))] H := hP
              have hD : va_D A [(q_t, .inr (8, [.ref q_t_marks, .ref q_t_lasting])), (q_t_marks, .inl (cI, 480, .inl v_t_marks)), (q_t_lasting, .inl (cI, 8, .inl v_t_lasting))] := hD
              refine lv_iload_n hx hb dX8_firstTickAt_25 rfl (lv_at hl 1 rfl) ?_
              refine lv_icmp_ne (tgt := 31) hx hb dX8_firstTickAt_26 (by decide) (fun h_13 => ?_) (fun h_13 => ?_)
              · have hf := (if_neg h_13).symm.trans hf
                refine lv_iinc (v := (x3_6 + 1)) (lv' := [(3, .int (x3_6 + 1)), (0, .ref q_t), (1, .int x1), (2, .int x2_1)]) hx hb dX8_firstTickAt_31 hl (k := 3) rfl rfl (by decide) rfl (fun ls hl => ?_)
                refine lv_goto (tgt := 10) hx hb dX8_firstTickAt_34 (by decide) ?_
                exact ih_8 (x3_6 + 1) hf _ _ _ hP hD hS (lv_sub hl [1, 2, 3, 0] rfl)
              · have hf := (if_pos h_13).symm.trans hf
                refine lv_iload_n hx hb dX8_firstTickAt_29 rfl (lv_at hl 2 rfl) ?_
                cases hf
                exact rt_i hx hb hr hlocks hK hP hS dX8_firstTickAt_30
        exact L10_7 FU 0 hf _ _ _ hP hD hS (lv_sub hl [1, 2, 3, 0] rfl)
  exact L2_2 FU 1 hf _ _ _ hP hD hS (lv_sub hl [1, 2, 0] rfl)

def f_X8_howOften_J26 (rc5 : (Int32) → (Int32) → Option (Int32)) (x3 : Int32) (x4 : Int32) : Option (Int32) :=
  (rc5 x3 (x4 + 1))
def f_X8_howOften_L5 (v_t_marks : Nat → Int32) (v_t_lasting : Nat → Int32) (x1 : Int32) (x2 : Int32) : Nat → (Int32) → (Int32) → Option (Int32)
  | 0, _, _ => none
  | n + 1, x3, x4 => (if 8 ≤ x4 then (some x3) else (f_X8_soundOf v_t_marks v_t_lasting x4 x2).bind (fun z16 => (if z16 = x1 then (f_X8_howOften_J26 (f_X8_howOften_L5 v_t_marks v_t_lasting x1 x2 n) (x3 + 1) x4) else (f_X8_howOften_J26 (f_X8_howOften_L5 v_t_marks v_t_lasting x1 x2 n) x3 x4))))
def f_X8_howOften (v_t_marks : Nat → Int32) (v_t_lasting : Nat → Int32) (x1 : Int32) (x2 : Int32) : Option (Int32) :=
  (f_X8_howOften_L5 v_t_marks v_t_lasting x1 x2 FU 0 0)
theorem gv_X8_howOften {own : String} {idx : Nat} (h : Cond.methodLink own idx yX8_howOften ∈ lw_g) : GoodIn lw_g (wsV own idx RX8 yX8_howOften (Cond.code yX8_howOften cX8_howOften 5 (some .int) :: lw_g)) := gV h w_777 w_17 w_64 w_778
theorem hd_X8_howOften : yX8_howOften.cls = RX8 ∧ yX8_howOften.cls ≠ "java/lang/invoke/MethodHandle" ∧ yX8_howOften.cls ≠ "java/lang/invoke/VarHandle" ∧ (parseMethodDescriptor yX8_howOften.desc).map (fun d => d.parameters.length) = some 2 := by decide +kernel
set_option maxHeartbeats 4000000 in
set_option maxRecDepth 100000 in
theorem c_X8_howOften (l : Launch) (D : va_G) (cI cJ cZ : ClassId) (en : EnT) (q_t q_t_marks q_t_lasting : Nat) (sz : Nat) (v_t_marks : Nat → Int32) (v_t_lasting : Nat → Int32) (x1 : Int32) (x2 : Int32) {z : Int32} (hf : f_X8_howOften v_t_marks v_t_lasting x1 x2 = some z) : Met l yX8_howOften (Cond.code yX8_howOften cX8_howOften 5 (some .int) :: lw_g) ({ frames := 1, cells := 0, slots := 0, locals := 22 } : Room) (PC D cI cJ cZ en ([.ref q_t, .int x1, .int x2] : List Value) [(q_t, .inr (8, [.ref q_t_marks, .ref q_t_lasting])), (q_t_marks, .inl (cI, 480, .inl v_t_marks)), (q_t_lasting, .inl (cI, 8, .inl v_t_lasting))] sz) (QI D cI cJ cZ [(q_t, .inr (8, [.ref q_t_marks, .ref q_t_lasting])), (q_t_marks, .inl (cI, 480, .inl v_t_marks)), (q_t_lasting, .inl (cI, 8, .inl v_t_lasting))] z (va_A [(q_t, .inr (8, [.ref q_t_marks, .ref q_t_lasting])), (q_t_marks, .inl (cI, 480, .inl v_t_marks)), (q_t_lasting, .inl (cI, 8, .inl v_t_lasting))] sz)) 0 0 (va_A [(q_t, .inr (8, [.ref q_t_marks, .ref q_t_lasting])), (q_t_marks, .inl (cI, 480, .inl v_t_marks)), (q_t_lasting, .inl (cI, 8, .inl v_t_lasting))] sz) := by
  refine mk_met (Qc := fun A => (QI D cI cJ cZ [(q_t, .inr (8, [.ref q_t_marks, .ref q_t_lasting])), (q_t_marks, .inl (cI, 480, .inl v_t_marks)), (q_t_lasting, .inl (cI, 8, .inl v_t_lasting))] z A)) RX8 (by decide) rfl (Nat.le_of_ble_eq_true rfl) ?_
  intro p e s m below meth c ls A hx hb hr hml hown hts hlocks hA hK hE hl hD H locs hP hS
  have hl : lv_has ls 5 [(0, .ref q_t), (1, .int x1), (2, .int x2)] := hl
  unfold f_X8_howOften at hf
  refine lv_iconst (v := 0) hx hb dX8_howOften_0 (by decide) ?_
  refine lv_istore_n (lv' := [(3, .int 0), (0, .ref q_t), (1, .int x1), (2, .int x2)]) hx hb dX8_howOften_1 rfl hl (by decide) rfl (fun ls hl => ?_)
  refine lv_iconst (v := 0) hx hb dX8_howOften_2 (by decide) ?_
  refine lv_istore (lv' := [(4, .int 0), (3, .int 0), (0, .ref q_t), (1, .int x1), (2, .int x2)]) hx hb dX8_howOften_3 hl (by decide) rfl (fun ls hl => ?_)
  have L5_3 : ∀ (n_5 : Nat) (x3_1 : Int32) (x4_2 : Int32), f_X8_howOften_L5 v_t_marks v_t_lasting x1 x2 n_5 x3_1 x4_2 = some z → ∀ (H : Heap) (locs : List Loc) (ls : Array Slot), va_P D vwCl [(q_t, .inr (8, [.ref q_t_marks, .ref q_t_lasting])), (q_t_marks, .inl (cI, 480, .inl v_t_marks)), (q_t_lasting, .inl (cI, 8, .inl v_t_lasting))] H → va_D A [(q_t, .inr (8, [.ref q_t_marks, .ref q_t_lasting])), (q_t_marks, .inl (cI, 480, .inl v_t_marks)), (q_t_lasting, .inl (cI, 8, .inl v_t_lasting))] → va_S A s.heap H locs → lv_has ls 5 [(0, .ref q_t), (1, .int x1), (2, .int x2), (3, .int x3_1), (4, .int x4_2)] → W p l e ({ frames := 1, cells := 0, slots := 0, locals := 22 } : Room) s m ([.ref q_t, .int x1, .int x2] : List Value).toArray below meth c H locs 0 0 (MQ below (QI D cI cJ cZ [(q_t, .inr (8, [.ref q_t_marks, .ref q_t_lasting])), (q_t_marks, .inl (cI, 480, .inl v_t_marks)), (q_t_lasting, .inl (cI, 8, .inl v_t_lasting))] z A) ([.ref q_t, .int x1, .int x2] : List Value).toArray s 0 0 A) (F0 m 5 ls []) := by
    intro n_5
    induction n_5 with
    | zero =>
      intro x3_1 x4_2 hf
      cases hf
    | succ n_5 ih_4 =>
      intro x3_1 x4_2 hf H locs ls hP hD hS hl
      rw [f_X8_howOften_L5] at hf
      refine lv_iload hx hb dX8_howOften_5 (lv_at hl 4 rfl) ?_
      refine lv_bipush (v := 8) hx hb dX8_howOften_7 (by decide) ?_
      refine lv_icmp_ge (tgt := 32) hx hb dX8_howOften_9 (by decide) (fun h_6 => ?_) (fun h_6 => ?_)
      · have hf := (if_pos h_6).symm.trans hf
        refine lv_iload_n hx hb dX8_howOften_32 rfl (lv_at hl 3 rfl) ?_
        cases hf
        exact rt_i hx hb hr hlocks hK hP hS dX8_howOften_33
      · have hf := (if_neg h_6).symm.trans hf
        refine lv_aload_n hx hb dX8_howOften_12 rfl (lv_at hl 0 rfl) ?_
        refine lv_iload hx hb dX8_howOften_13 (lv_at hl 4 rfl) ?_
        refine lv_iload_n hx hb dX8_howOften_15 rfl (lv_at hl 2 rfl) ?_
        obtain ⟨z16_7, hz16_7, hf⟩ := bd_some hf
        refine cVi (rest := []) ⟨hx, hb, hml, hown, hts⟩ hE hK hP hD hS hA (c_X8_soundOf l D cI cJ cZ en q_t q_t_marks q_t_lasting H.size v_t_marks v_t_lasting x4_2 x2 hz16_7) (gv_X8_soundOf w_682) hd_X8_soundOf ⟨rfl, rfl⟩ ⟨by decide, by decide⟩ [0, 1, 2] rfl rfl rfl 8 rfl rfl 0 rfl  hl rfl (Nat.le_of_ble_eq_true rfl) ⟨Nat.zero_le _, Nat.zero_le _⟩ dX8_howOften_16 (fun H locs hP hD hS => ?_)
        have hP : va_P D vwCl [(q_t, .inr (8, [.ref q_t_marks, .ref q_t_lasting])), (q_t_marks, .inl (cI, 480, .inl v_t_marks)), (q_t_lasting, .inl (cI, 8, .inl v_t_lasting))] H := hP
        have hD : va_D A [(q_t, .inr (8, [.ref q_t_marks, .ref q_t_lasting])), (q_t_marks, .inl (cI, 480, .inl v_t_marks)), (q_t_lasting, .inl (cI, 8, .inl v_t_lasting))] := hD
        refine lv_iload_n hx hb dX8_howOften_19 rfl (lv_at hl 1 rfl) ?_
        have J26_9 : ∀ (x3_8 : Int32), f_X8_howOften_J26 (f_X8_howOften_L5 v_t_marks v_t_lasting x1 x2 n_5) x3_8 x4_2 = some z → ∀ (H : Heap) (locs : List Loc) (ls : Array Slot), va_P D vwCl [(q_t, .inr (8, [.ref q_t_marks, .ref q_t_lasting])), (q_t_marks, .inl (cI, 480, .inl v_t_marks)), (q_t_lasting, .inl (cI, 8, .inl v_t_lasting))] H → va_D A [(q_t, .inr (8, [.ref q_t_marks, .ref q_t_lasting])), (q_t_marks, .inl (cI, 480, .inl v_t_marks)), (q_t_lasting, .inl (cI, 8, .inl v_t_lasting))] → va_S A s.heap H locs → lv_has ls 5 [(0, .ref q_t), (1, .int x1), (2, .int x2), (3, .int x3_8), (4, .int x4_2)] → W p l e ({ frames := 1, cells := 0, slots := 0, locals := 22 } : Room) s m ([.ref q_t, .int x1, .int x2] : List Value).toArray below meth c H locs 0 0 (MQ below (QI D cI cJ cZ [(q_t, .inr (8, [.ref q_t_marks, .ref q_t_lasting])), (q_t_marks, .inl (cI, 480, .inl v_t_marks)), (q_t_lasting, .inl (cI, 8, .inl v_t_lasting))] z A) ([.ref q_t, .int x1, .int x2] : List Value).toArray s 0 0 A) (F0 m 26 ls []) := by
          intro x3_8 hf H locs ls hP hD hS hl
          unfold f_X8_howOften_J26 at hf
          refine lv_iinc (v := (x4_2 + 1)) (lv' := [(4, .int (x4_2 + 1)), (0, .ref q_t), (1, .int x1), (2, .int x2), (3, .int x3_8)]) hx hb dX8_howOften_26 hl (k := 4) rfl rfl (by decide) rfl (fun ls hl => ?_)
          refine lv_goto (tgt := 5) hx hb dX8_howOften_29 (by decide) ?_
          exact ih_4 x3_8 (x4_2 + 1) hf _ _ _ hP hD hS (lv_sub hl [1, 2, 3, 4, 0] rfl)
        refine lv_icmp_ne (tgt := 26) hx hb dX8_howOften_20 (by decide) (fun h_10 => ?_) (fun h_10 => ?_)
        · have hf := (if_neg h_10).symm.trans hf
          exact J26_9 x3_1 hf _ _ _ hP hD hS (lv_sub hl [0, 1, 2, 3, 4] rfl)
        · have hf := (if_pos h_10).symm.trans hf
          refine lv_iinc (v := (x3_1 + 1)) (lv' := [(3, .int (x3_1 + 1)), (0, .ref q_t), (1, .int x1), (2, .int x2), (4, .int x4_2)]) hx hb dX8_howOften_23 hl (k := 3) rfl rfl (by decide) rfl (fun ls hl => ?_)
          exact J26_9 (x3_1 + 1) hf _ _ _ hP hD hS (lv_sub hl [1, 2, 3, 0, 4] rfl)
  exact L5_3 FU 0 0 hf _ _ _ hP hD hS (lv_sub hl [2, 3, 4, 1, 0] rfl)

def f_X8_asOften (v_t_marks : Nat → Int32) (v_t_lasting : Nat → Int32) (v_a4_marks : Nat → Int32) (v_a4_lasting : Nat → Int32) (x1 : Int32) (x2 : Int32) (x3 : Int32) : Option (Int32) :=
  (f_X8_cellOf x1).bind (fun z1 => (if z1 = x2 then (f_X8_howOften v_t_marks v_t_lasting x1 x3).bind (fun z13 => (f_X8_howOften v_a4_marks v_a4_lasting x1 x3).bind (fun z20 => (if z13 = z20 then (some 1) else (some 0)))) else (some 1)))
theorem gv_X8_asOften {own : String} {idx : Nat} (h : Cond.methodLink own idx yX8_asOften ∈ lw_g) : GoodIn lw_g (wsV own idx RX8 yX8_asOften (Cond.code yX8_asOften cX8_asOften 5 (some .boolean) :: lw_g)) := gV h w_773 w_16 w_64 w_774
theorem hd_X8_asOften : yX8_asOften.cls = RX8 ∧ yX8_asOften.cls ≠ "java/lang/invoke/MethodHandle" ∧ yX8_asOften.cls ≠ "java/lang/invoke/VarHandle" ∧ (parseMethodDescriptor yX8_asOften.desc).map (fun d => d.parameters.length) = some 4 := by decide +kernel
set_option maxHeartbeats 4000000 in
set_option maxRecDepth 100000 in
theorem c_X8_asOften (l : Launch) (D : va_G) (cI cJ cZ : ClassId) (en : EnT) (q_t q_t_marks q_t_lasting q_a4 q_a4_marks q_a4_lasting : Nat) (sz : Nat) (v_t_marks : Nat → Int32) (v_t_lasting : Nat → Int32) (v_a4_marks : Nat → Int32) (v_a4_lasting : Nat → Int32) (x1 : Int32) (x2 : Int32) (x3 : Int32) {z : Int32} (hf : f_X8_asOften v_t_marks v_t_lasting v_a4_marks v_a4_lasting x1 x2 x3 = some z) : Met l yX8_asOften (Cond.code yX8_asOften cX8_asOften 5 (some .boolean) :: lw_g) ({ frames := 2, cells := 0, slots := 0, locals := 46 } : Room) (PC D cI cJ cZ en ([.ref q_t, .int x1, .int x2, .int x3, .ref q_a4] : List Value) [(q_t, .inr (8, [.ref q_t_marks, .ref q_t_lasting])), (q_t_marks, .inl (cI, 480, .inl v_t_marks)), (q_t_lasting, .inl (cI, 8, .inl v_t_lasting)), (q_a4, .inr (8, [.ref q_a4_marks, .ref q_a4_lasting])), (q_a4_marks, .inl (cI, 480, .inl v_a4_marks)), (q_a4_lasting, .inl (cI, 8, .inl v_a4_lasting))] sz) (QI D cI cJ cZ [(q_t, .inr (8, [.ref q_t_marks, .ref q_t_lasting])), (q_t_marks, .inl (cI, 480, .inl v_t_marks)), (q_t_lasting, .inl (cI, 8, .inl v_t_lasting)), (q_a4, .inr (8, [.ref q_a4_marks, .ref q_a4_lasting])), (q_a4_marks, .inl (cI, 480, .inl v_a4_marks)), (q_a4_lasting, .inl (cI, 8, .inl v_a4_lasting))] z (va_A [(q_t, .inr (8, [.ref q_t_marks, .ref q_t_lasting])), (q_t_marks, .inl (cI, 480, .inl v_t_marks)), (q_t_lasting, .inl (cI, 8, .inl v_t_lasting)), (q_a4, .inr (8, [.ref q_a4_marks, .ref q_a4_lasting])), (q_a4_marks, .inl (cI, 480, .inl v_a4_marks)), (q_a4_lasting, .inl (cI, 8, .inl v_a4_lasting))] sz)) 0 0 (va_A [(q_t, .inr (8, [.ref q_t_marks, .ref q_t_lasting])), (q_t_marks, .inl (cI, 480, .inl v_t_marks)), (q_t_lasting, .inl (cI, 8, .inl v_t_lasting)), (q_a4, .inr (8, [.ref q_a4_marks, .ref q_a4_lasting])), (q_a4_marks, .inl (cI, 480, .inl v_a4_marks)), (q_a4_lasting, .inl (cI, 8, .inl v_a4_lasting))] sz) := by
  refine mk_met (Qc := fun A => (QI D cI cJ cZ [(q_t, .inr (8, [.ref q_t_marks, .ref q_t_lasting])), (q_t_marks, .inl (cI, 480, .inl v_t_marks)), (q_t_lasting, .inl (cI, 8, .inl v_t_lasting)), (q_a4, .inr (8, [.ref q_a4_marks, .ref q_a4_lasting])), (q_a4_marks, .inl (cI, 480, .inl v_a4_marks)), (q_a4_lasting, .inl (cI, 8, .inl v_a4_lasting))] z A)) RX8 (by decide) rfl (Nat.le_of_ble_eq_true rfl) ?_
  intro p e s m below meth c ls A hx hb hr hml hown hts hlocks hA hK hE hl hD H locs hP hS
  have hl : lv_has ls 5 [(0, .ref q_t), (1, .int x1), (2, .int x2), (3, .int x3), (4, .ref q_a4)] := hl
  unfold f_X8_asOften at hf
  refine lv_iload_n hx hb dX8_asOften_0 rfl (lv_at hl 1 rfl) ?_
  obtain ⟨z1_1, hz1_1, hf⟩ := bd_some hf
  refine cSi (rest := []) ⟨hx, hb, hml, hown, hts⟩ hE hK hP hD hS hA (c_X8_cellOf l D cI cJ cZ en  H.size x1 hz1_1) (gs_X8_cellOf w_683) hd_X8_cellOf ⟨rfl, rfl⟩ ⟨by decide, by decide⟩ [] rfl rfl rfl  hl rfl (Nat.le_of_ble_eq_true rfl) ⟨Nat.zero_le _, Nat.zero_le _⟩ dX8_asOften_1 (fun H locs hP hD hS => ?_)
  have hP : va_P D vwCl [(q_t, .inr (8, [.ref q_t_marks, .ref q_t_lasting])), (q_t_marks, .inl (cI, 480, .inl v_t_marks)), (q_t_lasting, .inl (cI, 8, .inl v_t_lasting)), (q_a4, .inr (8, [.ref q_a4_marks, .ref q_a4_lasting])), (q_a4_marks, .inl (cI, 480, .inl v_a4_marks)), (q_a4_lasting, .inl (cI, 8, .inl v_a4_lasting))] H := hP
  have hD : va_D A [(q_t, .inr (8, [.ref q_t_marks, .ref q_t_lasting])), (q_t_marks, .inl (cI, 480, .inl v_t_marks)), (q_t_lasting, .inl (cI, 8, .inl v_t_lasting)), (q_a4, .inr (8, [.ref q_a4_marks, .ref q_a4_lasting])), (q_a4_marks, .inl (cI, 480, .inl v_a4_marks)), (q_a4_lasting, .inl (cI, 8, .inl v_a4_lasting))] := hD
  refine lv_iload_n hx hb dX8_asOften_4 rfl (lv_at hl 2 rfl) ?_
  refine lv_icmp_eq (tgt := 10) hx hb dX8_asOften_5 (by decide) (fun h_2 => ?_) (fun h_2 => ?_)
  · have hf := (if_pos h_2).symm.trans hf
    refine lv_aload_n hx hb dX8_asOften_10 rfl (lv_at hl 0 rfl) ?_
    refine lv_iload_n hx hb dX8_asOften_11 rfl (lv_at hl 1 rfl) ?_
    refine lv_iload_n hx hb dX8_asOften_12 rfl (lv_at hl 3 rfl) ?_
    obtain ⟨z13_3, hz13_3, hf⟩ := bd_some hf
    refine cVi (rest := []) ⟨hx, hb, hml, hown, hts⟩ hE hK hP hD hS hA (c_X8_howOften l D cI cJ cZ en q_t q_t_marks q_t_lasting H.size v_t_marks v_t_lasting x1 x3 hz13_3) (gv_X8_howOften w_775) hd_X8_howOften ⟨rfl, rfl⟩ ⟨by decide, by decide⟩ [0, 1, 2] rfl rfl rfl 8 rfl rfl 0 rfl  hl rfl (Nat.le_of_ble_eq_true rfl) ⟨Nat.zero_le _, Nat.zero_le _⟩ dX8_asOften_13 (fun H locs hP hD hS => ?_)
    have hP : va_P D vwCl [(q_t, .inr (8, [.ref q_t_marks, .ref q_t_lasting])), (q_t_marks, .inl (cI, 480, .inl v_t_marks)), (q_t_lasting, .inl (cI, 8, .inl v_t_lasting)), (q_a4, .inr (8, [.ref q_a4_marks, .ref q_a4_lasting])), (q_a4_marks, .inl (cI, 480, .inl v_a4_marks)), (q_a4_lasting, .inl (cI, 8, .inl v_a4_lasting))] H := hP
    have hD : va_D A [(q_t, .inr (8, [.ref q_t_marks, .ref q_t_lasting])), (q_t_marks, .inl (cI, 480, .inl v_t_marks)), (q_t_lasting, .inl (cI, 8, .inl v_t_lasting)), (q_a4, .inr (8, [.ref q_a4_marks, .ref q_a4_lasting])), (q_a4_marks, .inl (cI, 480, .inl v_a4_marks)), (q_a4_lasting, .inl (cI, 8, .inl v_a4_lasting))] := hD
    refine lv_aload hx hb dX8_asOften_16 (lv_at hl 4 rfl) ?_
    refine lv_iload_n hx hb dX8_asOften_18 rfl (lv_at hl 1 rfl) ?_
    refine lv_iload_n hx hb dX8_asOften_19 rfl (lv_at hl 3 rfl) ?_
    obtain ⟨z20_4, hz20_4, hf⟩ := bd_some hf
    refine cVi (rest := [.int z13_3]) ⟨hx, hb, hml, hown, hts⟩ hE hK hP hD hS hA (c_X8_howOften l D cI cJ cZ en q_a4 q_a4_marks q_a4_lasting H.size v_a4_marks v_a4_lasting x1 x3 hz20_4) (gv_X8_howOften w_775) hd_X8_howOften ⟨rfl, rfl⟩ ⟨by decide, by decide⟩ [3, 4, 5] rfl rfl rfl 8 rfl rfl 3 rfl  hl rfl (Nat.le_of_ble_eq_true rfl) ⟨Nat.zero_le _, Nat.zero_le _⟩ dX8_asOften_20 (fun H locs hP hD hS => ?_)
    have hP : va_P D vwCl [(q_t, .inr (8, [.ref q_t_marks, .ref q_t_lasting])), (q_t_marks, .inl (cI, 480, .inl v_t_marks)), (q_t_lasting, .inl (cI, 8, .inl v_t_lasting)), (q_a4, .inr (8, [.ref q_a4_marks, .ref q_a4_lasting])), (q_a4_marks, .inl (cI, 480, .inl v_a4_marks)), (q_a4_lasting, .inl (cI, 8, .inl v_a4_lasting))] H := hP
    have hD : va_D A [(q_t, .inr (8, [.ref q_t_marks, .ref q_t_lasting])), (q_t_marks, .inl (cI, 480, .inl v_t_marks)), (q_t_lasting, .inl (cI, 8, .inl v_t_lasting)), (q_a4, .inr (8, [.ref q_a4_marks, .ref q_a4_lasting])), (q_a4_marks, .inl (cI, 480, .inl v_a4_marks)), (q_a4_lasting, .inl (cI, 8, .inl v_a4_lasting))] := hD
    refine lv_icmp_ne (tgt := 30) hx hb dX8_asOften_23 (by decide) (fun h_5 => ?_) (fun h_5 => ?_)
    · have hf := (if_neg h_5).symm.trans hf
      refine lv_iconst (v := 0) hx hb dX8_asOften_30 (by decide) ?_
      cases hf
      exact rt_z hx hb hr hlocks hK hP hS (Or.inl rfl) dX8_asOften_31
    · have hf := (if_pos h_5).symm.trans hf
      refine lv_iconst (v := 1) hx hb dX8_asOften_26 (by decide) ?_
      refine lv_goto (tgt := 31) hx hb dX8_asOften_27 (by decide) ?_
      cases hf
      exact rt_z hx hb hr hlocks hK hP hS (Or.inr rfl) dX8_asOften_31
  · have hf := (if_neg h_2).symm.trans hf
    refine lv_iconst (v := 1) hx hb dX8_asOften_8 (by decide) ?_
    cases hf
    exact rt_z hx hb hr hlocks hK hP hS (Or.inr rfl) dX8_asOften_9
