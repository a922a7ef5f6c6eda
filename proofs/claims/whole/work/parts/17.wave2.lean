def f_X8_comingTo_J64 (rc5 : (Int32) → (Int32) → Option (Int32)) (x3 : Int32) (x4 : Int32) : Option (Int32) :=
  (rc5 x3 (x4 + 1))
def f_X8_comingTo_J58 (rc15 : (Int32) → (Int32) → Option (Int32)) (x3 : Int32) (x5 : Int32) : Option (Int32) :=
  (rc15 x3 (x5 + 1))
def f_X8_comingTo_L15 (rc5 : (Int32) → (Int32) → Option (Int32)) (v_t_marks : Nat → Int32) (v_t_lasting : Nat → Int32) (x1 : Int32) (x2 : Int32) (x4 : Int32) : Nat → (Int32) → (Int32) → Option (Int32)
  | 0, _, _ => none
  | n + 1, x3, x5 => gd (ib x4 8) ((if (v_t_lasting (Int32.toNatClampNeg x4)) < x5 then (f_X8_comingTo_J64 rc5 x3 x4) else (f_X8_soundOf v_t_marks v_t_lasting x4 x5).bind (fun z32 => (f_X8_cellOf z32).bind (fun z39 => (if z39 = x1 then (f_X8_thrownOf z32).bind (fun z48 => (if z48 < x2 then (f_X8_comingTo_J58 (f_X8_comingTo_L15 rc5 v_t_marks v_t_lasting x1 x2 x4 n) x3 x5) else (f_X8_comingTo_J58 (f_X8_comingTo_L15 rc5 v_t_marks v_t_lasting x1 x2 x4 n) (x3 + 1) x5))) else (f_X8_comingTo_J58 (f_X8_comingTo_L15 rc5 v_t_marks v_t_lasting x1 x2 x4 n) x3 x5))))))
def f_X8_comingTo_L5 (v_t_marks : Nat → Int32) (v_t_lasting : Nat → Int32) (x1 : Int32) (x2 : Int32) : Nat → (Int32) → (Int32) → Option (Int32)
  | 0, _, _ => none
  | n + 1, x3, x4 => (if 8 ≤ x4 then (some x3) else (f_X8_comingTo_L15 (f_X8_comingTo_L5 v_t_marks v_t_lasting x1 x2 n) v_t_marks v_t_lasting x1 x2 x4 FU x3 1))
def f_X8_comingTo (v_t_marks : Nat → Int32) (v_t_lasting : Nat → Int32) (x1 : Int32) (x2 : Int32) : Option (Int32) :=
  (f_X8_comingTo_L5 v_t_marks v_t_lasting x1 x2 FU 0 0)
theorem gv_X8_comingTo {own : String} {idx : Nat} (h : Cond.methodLink own idx yX8_comingTo ∈ lw_g) : GoodIn lw_g (wsV own idx RX8 yX8_comingTo (Cond.code yX8_comingTo cX8_comingTo 7 (some .int) :: lw_g)) := gV h w_679 w_680 w_64 w_681
theorem hd_X8_comingTo : yX8_comingTo.cls = RX8 ∧ yX8_comingTo.cls ≠ "java/lang/invoke/MethodHandle" ∧ yX8_comingTo.cls ≠ "java/lang/invoke/VarHandle" ∧ (parseMethodDescriptor yX8_comingTo.desc).map (fun d => d.parameters.length) = some 2 := by decide +kernel
set_option maxHeartbeats 4000000 in
set_option maxRecDepth 100000 in
theorem c_X8_comingTo (l : Launch) (D : va_G) (cI cJ cZ : ClassId) (en : EnT) (q_t q_t_marks q_t_lasting : Nat) (sz : Nat) (v_t_marks : Nat → Int32) (v_t_lasting : Nat → Int32) (x1 : Int32) (x2 : Int32) {z : Int32} (hf : f_X8_comingTo v_t_marks v_t_lasting x1 x2 = some z) : Met l yX8_comingTo (Cond.code yX8_comingTo cX8_comingTo 7 (some .int) :: lw_g) ({ frames := 1, cells := 0, slots := 0, locals := 22 } : Room) (PC D cI cJ cZ en ([.ref q_t, .int x1, .int x2] : List Value) [(q_t, .inr (8, [.ref q_t_marks, .ref q_t_lasting])), (q_t_marks, .inl (cI, 480, .inl v_t_marks)), (q_t_lasting, .inl (cI, 8, .inl v_t_lasting))] sz) (QI D cI cJ cZ [(q_t, .inr (8, [.ref q_t_marks, .ref q_t_lasting])), (q_t_marks, .inl (cI, 480, .inl v_t_marks)), (q_t_lasting, .inl (cI, 8, .inl v_t_lasting))] z (va_A [(q_t, .inr (8, [.ref q_t_marks, .ref q_t_lasting])), (q_t_marks, .inl (cI, 480, .inl v_t_marks)), (q_t_lasting, .inl (cI, 8, .inl v_t_lasting))] sz)) 0 0 (va_A [(q_t, .inr (8, [.ref q_t_marks, .ref q_t_lasting])), (q_t_marks, .inl (cI, 480, .inl v_t_marks)), (q_t_lasting, .inl (cI, 8, .inl v_t_lasting))] sz) := by
  refine mk_met (Qc := fun A => (QI D cI cJ cZ [(q_t, .inr (8, [.ref q_t_marks, .ref q_t_lasting])), (q_t_marks, .inl (cI, 480, .inl v_t_marks)), (q_t_lasting, .inl (cI, 8, .inl v_t_lasting))] z A)) RX8 (by decide) rfl (Nat.le_of_ble_eq_true rfl) ?_
  intro p e s m below meth c ls A hx hb hr hml hown hts hlocks hA hK hE hl hD H locs hP hS
  have hl : lv_has ls 7 [(0, .ref q_t), (1, .int x1), (2, .int x2)] := hl
  unfold f_X8_comingTo at hf
  refine lv_iconst (v := 0) hx hb dX8_comingTo_0 (by decide) ?_
  refine lv_istore_n (lv' := [(3, .int 0), (0, .ref q_t), (1, .int x1), (2, .int x2)]) hx hb dX8_comingTo_1 rfl hl (by decide) rfl (fun ls hl => ?_)
  refine lv_iconst (v := 0) hx hb dX8_comingTo_2 (by decide) ?_
  refine lv_istore (lv' := [(4, .int 0), (3, .int 0), (0, .ref q_t), (1, .int x1), (2, .int x2)]) hx hb dX8_comingTo_3 hl (by decide) rfl (fun ls hl => ?_)
  have L5_3 : ∀ (n_5 : Nat) (x3_1 : Int32) (x4_2 : Int32), f_X8_comingTo_L5 v_t_marks v_t_lasting x1 x2 n_5 x3_1 x4_2 = some z → ∀ (H : Heap) (locs : List Loc) (ls : Array Slot), va_P D vwCl [(q_t, .inr (8, [.ref q_t_marks, .ref q_t_lasting])), (q_t_marks, .inl (cI, 480, .inl v_t_marks)), (q_t_lasting, .inl (cI, 8, .inl v_t_lasting))] H → va_D A [(q_t, .inr (8, [.ref q_t_marks, .ref q_t_lasting])), (q_t_marks, .inl (cI, 480, .inl v_t_marks)), (q_t_lasting, .inl (cI, 8, .inl v_t_lasting))] → va_S A s.heap H locs → lv_has ls 7 [(0, .ref q_t), (1, .int x1), (2, .int x2), (3, .int x3_1), (4, .int x4_2)] → W p l e ({ frames := 1, cells := 0, slots := 0, locals := 22 } : Room) s m ([.ref q_t, .int x1, .int x2] : List Value).toArray below meth c H locs 0 0 (MQ below (QI D cI cJ cZ [(q_t, .inr (8, [.ref q_t_marks, .ref q_t_lasting])), (q_t_marks, .inl (cI, 480, .inl v_t_marks)), (q_t_lasting, .inl (cI, 8, .inl v_t_lasting))] z A) ([.ref q_t, .int x1, .int x2] : List Value).toArray s 0 0 A) (F0 m 5 ls []) := by
    intro n_5
    induction n_5 with
    | zero =>
      intro x3_1 x4_2 hf
      cases hf
    | succ n_5 ih_4 =>
      intro x3_1 x4_2 hf H locs ls hP hD hS hl
      rw [f_X8_comingTo_L5] at hf
      refine lv_iload hx hb dX8_comingTo_5 (lv_at hl 4 rfl) ?_
      refine lv_bipush (v := 8) hx hb dX8_comingTo_7 (by decide) ?_
      refine lv_icmp_ge (tgt := 70) hx hb dX8_comingTo_9 (by decide) (fun h_6 => ?_) (fun h_6 => ?_)
      · have hf := (if_pos h_6).symm.trans hf
        refine lv_iload_n hx hb dX8_comingTo_70 rfl (lv_at hl 3 rfl) ?_
        cases hf
        exact rt_i hx hb hr hlocks hK hP hS dX8_comingTo_71
      · have hf := (if_neg h_6).symm.trans hf
        refine lv_iconst (v := 1) hx hb dX8_comingTo_12 (by decide) ?_
        refine lv_istore (lv' := [(5, .int 1), (0, .ref q_t), (1, .int x1), (2, .int x2), (3, .int x3_1), (4, .int x4_2)]) hx hb dX8_comingTo_13 hl (by decide) rfl (fun ls hl => ?_)
        have L15_9 : ∀ (n_11 : Nat) (x3_7 : Int32) (x5_8 : Int32), f_X8_comingTo_L15 (f_X8_comingTo_L5 v_t_marks v_t_lasting x1 x2 n_5) v_t_marks v_t_lasting x1 x2 x4_2 n_11 x3_7 x5_8 = some z → ∀ (H : Heap) (locs : List Loc) (ls : Array Slot), va_P D vwCl [(q_t, .inr (8, [.ref q_t_marks, .ref q_t_lasting])), (q_t_marks, .inl (cI, 480, .inl v_t_marks)), (q_t_lasting, .inl (cI, 8, .inl v_t_lasting))] H → va_D A [(q_t, .inr (8, [.ref q_t_marks, .ref q_t_lasting])), (q_t_marks, .inl (cI, 480, .inl v_t_marks)), (q_t_lasting, .inl (cI, 8, .inl v_t_lasting))] → va_S A s.heap H locs → lv_has ls 7 [(0, .ref q_t), (1, .int x1), (2, .int x2), (3, .int x3_7), (4, .int x4_2), (5, .int x5_8)] → W p l e ({ frames := 1, cells := 0, slots := 0, locals := 22 } : Room) s m ([.ref q_t, .int x1, .int x2] : List Value).toArray below meth c H locs 0 0 (MQ below (QI D cI cJ cZ [(q_t, .inr (8, [.ref q_t_marks, .ref q_t_lasting])), (q_t_marks, .inl (cI, 480, .inl v_t_marks)), (q_t_lasting, .inl (cI, 8, .inl v_t_lasting))] z A) ([.ref q_t, .int x1, .int x2] : List Value).toArray s 0 0 A) (F0 m 15 ls []) := by
          intro n_11
          induction n_11 with
          | zero =>
            intro x3_7 x5_8 hf
            cases hf
          | succ n_11 ih_10 =>
            intro x3_7 x5_8 hf H locs ls hP hD hS hl
            rw [f_X8_comingTo_L15] at hf
            refine lv_iload hx hb dX8_comingTo_15 (lv_at hl 5 rfl) ?_
            refine lv_aload_n hx hb dX8_comingTo_17 rfl (lv_at hl 0 rfl) ?_
            refine va_get (D := D) (ci := 8) (v := .ref q_t_lasting) (C := RX8) (T := TX8) (N := 2) hx hb hts inX8 hown hK hP 0 rfl rfl 1 (by decide) (hts _ w_240) (fun _ h9 => h9) rfl dX8_comingTo_18 ?_
            refine lv_iload hx hb dX8_comingTo_21 (lv_at hl 4 rfl) ?_
            obtain ⟨hin, hf⟩ := gd_some hf
            refine va_iald hx hb hK hP 2 0 rfl rfl hin dX8_comingTo_23 ?_
            refine lv_icmp_gt (tgt := 64) hx hb dX8_comingTo_24 (by decide) (fun h_12 => ?_) (fun h_12 => ?_)
            · have hf := (if_pos h_12).symm.trans hf
              unfold f_X8_comingTo_J64 at hf
              refine lv_iinc (v := (x4_2 + 1)) (lv' := [(4, .int (x4_2 + 1)), (0, .ref q_t), (1, .int x1), (2, .int x2), (3, .int x3_7), (5, .int x5_8)]) hx hb dX8_comingTo_64 hl (k := 4) rfl rfl (by decide) rfl (fun ls hl => ?_)
              refine lv_goto (tgt := 5) hx hb dX8_comingTo_67 (by decide) ?_
              exact ih_4 x3_7 (x4_2 + 1) hf _ _ _ hP hD hS (lv_sub hl [1, 2, 3, 4, 0] rfl)
            · have hf := (if_neg h_12).symm.trans hf
              refine lv_aload_n hx hb dX8_comingTo_27 rfl (lv_at hl 0 rfl) ?_
              refine lv_iload hx hb dX8_comingTo_28 (lv_at hl 4 rfl) ?_
              refine lv_iload hx hb dX8_comingTo_30 (lv_at hl 5 rfl) ?_
              obtain ⟨z32_13, hz32_13, hf⟩ := bd_some hf
              refine cVi (rest := []) ⟨hx, hb, hml, hown, hts⟩ hE hK hP hD hS hA (c_X8_soundOf l D cI cJ cZ en q_t q_t_marks q_t_lasting H.size v_t_marks v_t_lasting x4_2 x5_8 hz32_13) (gv_X8_soundOf w_682) hd_X8_soundOf ⟨rfl, rfl⟩ ⟨by decide, by decide⟩ [0, 1, 2] rfl rfl rfl 8 rfl rfl 0 rfl  hl rfl (Nat.le_of_ble_eq_true rfl) ⟨Nat.zero_le _, Nat.zero_le _⟩ dX8_comingTo_32 (fun H locs hP hD hS => ?_)
              have hP : va_P D vwCl [(q_t, .inr (8, [.ref q_t_marks, .ref q_t_lasting])), (q_t_marks, .inl (cI, 480, .inl v_t_marks)), (q_t_lasting, .inl (cI, 8, .inl v_t_lasting))] H := hP
              have hD : va_D A [(q_t, .inr (8, [.ref q_t_marks, .ref q_t_lasting])), (q_t_marks, .inl (cI, 480, .inl v_t_marks)), (q_t_lasting, .inl (cI, 8, .inl v_t_lasting))] := hD
              refine lv_istore (lv' := [(6, .int z32_13), (0, .ref q_t), (1, .int x1), (2, .int x2), (3, .int x3_7), (4, .int x4_2), (5, .int x5_8)]) hx hb dX8_comingTo_35 hl (by decide) rfl (fun ls hl => ?_)
              refine lv_iload hx hb dX8_comingTo_37 (lv_at hl 0 rfl) ?_
              obtain ⟨z39_14, hz39_14, hf⟩ := bd_some hf
              refine cSi (rest := []) ⟨hx, hb, hml, hown, hts⟩ hE hK hP hD hS hA (c_X8_cellOf l D cI cJ cZ en  H.size z32_13 hz39_14) (gs_X8_cellOf w_683) hd_X8_cellOf ⟨rfl, rfl⟩ ⟨by decide, by decide⟩ [] rfl rfl rfl  hl rfl (Nat.le_of_ble_eq_true rfl) ⟨Nat.zero_le _, Nat.zero_le _⟩ dX8_comingTo_39 (fun H locs hP hD hS => ?_)
              have hP : va_P D vwCl [(q_t, .inr (8, [.ref q_t_marks, .ref q_t_lasting])), (q_t_marks, .inl (cI, 480, .inl v_t_marks)), (q_t_lasting, .inl (cI, 8, .inl v_t_lasting))] H := hP
              have hD : va_D A [(q_t, .inr (8, [.ref q_t_marks, .ref q_t_lasting])), (q_t_marks, .inl (cI, 480, .inl v_t_marks)), (q_t_lasting, .inl (cI, 8, .inl v_t_lasting))] := hD
              refine lv_iload_n hx hb dX8_comingTo_42 rfl (lv_at hl 2 rfl) ?_
              have J58_16 : ∀ (x3_15 : Int32), f_X8_comingTo_J58 (f_X8_comingTo_L15 (f_X8_comingTo_L5 v_t_marks v_t_lasting x1 x2 n_5) v_t_marks v_t_lasting x1 x2 x4_2 n_11) x3_15 x5_8 = some z → ∀ (H : Heap) (locs : List Loc) (ls : Array Slot), va_P D vwCl [(q_t, .inr (8, [.ref q_t_marks, .ref q_t_lasting])), (q_t_marks, .inl (cI, 480, .inl v_t_marks)), (q_t_lasting, .inl (cI, 8, .inl v_t_lasting))] H → va_D A [(q_t, .inr (8, [.ref q_t_marks, .ref q_t_lasting])), (q_t_marks, .inl (cI, 480, .inl v_t_marks)), (q_t_lasting, .inl (cI, 8, .inl v_t_lasting))] → va_S A s.heap H locs → lv_has ls 7 [(0, .ref q_t), (1, .int x1), (2, .int x2), (3, .int x3_15), (4, .int x4_2), (5, .int x5_8)] → W p l e ({ frames := 1, cells := 0, slots := 0, locals := 22 } : Room) s m ([.ref q_t, .int x1, .int x2] : List Value).toArray below meth c H locs 0 0 (MQ below (QI D cI cJ cZ [(q_t, .inr (8, [.ref q_t_marks, .ref q_t_lasting])), (q_t_marks, .inl (cI, 480, .inl v_t_marks)), (q_t_lasting, .inl (cI, 8, .inl v_t_lasting))] z A) ([.ref q_t, .int x1, .int x2] : List Value).toArray s 0 0 A) (F0 m 58 ls []) := by
                intro x3_15 hf H locs ls hP hD hS hl
                unfold f_X8_comingTo_J58 at hf
                refine lv_iinc (v := (x5_8 + 1)) (lv' := [(5, .int (x5_8 + 1)), (0, .ref q_t), (1, .int x1), (2, .int x2), (3, .int x3_15), (4, .int x4_2)]) hx hb dX8_comingTo_58 hl (k := 5) rfl rfl (by decide) rfl (fun ls hl => ?_)
                refine lv_goto (tgt := 15) hx hb dX8_comingTo_61 (by decide) ?_
                exact ih_10 x3_15 (x5_8 + 1) hf _ _ _ hP hD hS (lv_sub hl [1, 2, 3, 4, 5, 0] rfl)
              refine lv_icmp_ne (tgt := 58) hx hb dX8_comingTo_43 (by decide) (fun h_17 => ?_) (fun h_17 => ?_)
              · have hf := (if_neg h_17).symm.trans hf
                exact J58_16 x3_7 hf _ _ _ hP hD hS (lv_sub hl [1, 2, 3, 4, 5, 6] rfl)
              · have hf := (if_pos h_17).symm.trans hf
                refine lv_iload hx hb dX8_comingTo_46 (lv_at hl 0 rfl) ?_
                obtain ⟨z48_18, hz48_18, hf⟩ := bd_some hf
                refine cSi (rest := []) ⟨hx, hb, hml, hown, hts⟩ hE hK hP hD hS hA (c_X8_thrownOf l D cI cJ cZ en  H.size z32_13 hz48_18) (gs_X8_thrownOf w_684) hd_X8_thrownOf ⟨rfl, rfl⟩ ⟨by decide, by decide⟩ [] rfl rfl rfl  hl rfl (Nat.le_of_ble_eq_true rfl) ⟨Nat.zero_le _, Nat.zero_le _⟩ dX8_comingTo_48 (fun H locs hP hD hS => ?_)
                have hP : va_P D vwCl [(q_t, .inr (8, [.ref q_t_marks, .ref q_t_lasting])), (q_t_marks, .inl (cI, 480, .inl v_t_marks)), (q_t_lasting, .inl (cI, 8, .inl v_t_lasting))] H := hP
                have hD : va_D A [(q_t, .inr (8, [.ref q_t_marks, .ref q_t_lasting])), (q_t_marks, .inl (cI, 480, .inl v_t_marks)), (q_t_lasting, .inl (cI, 8, .inl v_t_lasting))] := hD
                refine lv_iload_n hx hb dX8_comingTo_51 rfl (lv_at hl 3 rfl) ?_
                refine lv_icmp_lt (tgt := 58) hx hb dX8_comingTo_52 (by decide) (fun h_19 => ?_) (fun h_19 => ?_)
                · have hf := (if_pos h_19).symm.trans hf
                  exact J58_16 x3_7 hf _ _ _ hP hD hS (lv_sub hl [1, 2, 3, 4, 5, 6] rfl)
                · have hf := (if_neg h_19).symm.trans hf
                  refine lv_iinc (v := (x3_7 + 1)) (lv' := [(3, .int (x3_7 + 1)), (6, .int z32_13), (0, .ref q_t), (1, .int x1), (2, .int x2), (4, .int x4_2), (5, .int x5_8)]) hx hb dX8_comingTo_55 hl (k := 4) rfl rfl (by decide) rfl (fun ls hl => ?_)
                  exact J58_16 (x3_7 + 1) hf _ _ _ hP hD hS (lv_sub hl [2, 3, 4, 0, 5, 6] rfl)
        exact L15_9 FU x3_1 1 hf _ _ _ hP hD hS (lv_sub hl [1, 2, 3, 4, 5, 0] rfl)
  exact L5_3 FU 0 0 hf _ _ _ hP hD hS (lv_sub hl [2, 3, 4, 1, 0] rfl)

def f_X8_greatestLoudAt_J58 (rc4 : (Int32) → (Int32) → Option (Int32)) (x2 : Int32) (x3 : Int32) : Option (Int32) :=
  (rc4 x2 (x3 + 1))
def f_X8_greatestLoudAt_J52 (rc13 : (Int32) → (Int32) → Option (Int32)) (x2 : Int32) (x4 : Int32) : Option (Int32) :=
  (rc13 x2 (x4 + 1))
def f_X8_greatestLoudAt_L13 (rc4 : (Int32) → (Int32) → Option (Int32)) (v_t_marks : Nat → Int32) (v_t_lasting : Nat → Int32) (x1 : Int32) (x3 : Int32) : Nat → (Int32) → (Int32) → Option (Int32)
  | 0, _, _ => none
  | n + 1, x2, x4 => gd (ib x3 8) ((if (v_t_lasting (Int32.toNatClampNeg x3)) < x4 then (f_X8_greatestLoudAt_J58 rc4 x2 x3) else (f_X8_soundOf v_t_marks v_t_lasting x3 x4).bind (fun z28 => (f_X8_cellOf z28).bind (fun z35 => (if z35 = x1 then (f_X8_loudOf z28).bind (fun z45 => (f_X8_greatestLoudAt_J52 (f_X8_greatestLoudAt_L13 rc4 v_t_marks v_t_lasting x1 x3 n) (if x2 < z45 then z45 else x2) x4)) else (f_X8_greatestLoudAt_J52 (f_X8_greatestLoudAt_L13 rc4 v_t_marks v_t_lasting x1 x3 n) x2 x4))))))
def f_X8_greatestLoudAt_L4 (v_t_marks : Nat → Int32) (v_t_lasting : Nat → Int32) (x1 : Int32) : Nat → (Int32) → (Int32) → Option (Int32)
  | 0, _, _ => none
  | n + 1, x2, x3 => (if 8 ≤ x3 then (some x2) else (f_X8_greatestLoudAt_L13 (f_X8_greatestLoudAt_L4 v_t_marks v_t_lasting x1 n) v_t_marks v_t_lasting x1 x3 FU x2 1))
def f_X8_greatestLoudAt (v_t_marks : Nat → Int32) (v_t_lasting : Nat → Int32) (x1 : Int32) : Option (Int32) :=
  (f_X8_greatestLoudAt_L4 v_t_marks v_t_lasting x1 FU (-1) 0)
theorem gv_X8_greatestLoudAt {own : String} {idx : Nat} (h : Cond.methodLink own idx yX8_greatestLoudAt ∈ lw_g) : GoodIn lw_g (wsV own idx RX8 yX8_greatestLoudAt (Cond.code yX8_greatestLoudAt cX8_greatestLoudAt 6 (some .int) :: lw_g)) := gV h w_690 w_691 w_64 w_692
theorem hd_X8_greatestLoudAt : yX8_greatestLoudAt.cls = RX8 ∧ yX8_greatestLoudAt.cls ≠ "java/lang/invoke/MethodHandle" ∧ yX8_greatestLoudAt.cls ≠ "java/lang/invoke/VarHandle" ∧ (parseMethodDescriptor yX8_greatestLoudAt.desc).map (fun d => d.parameters.length) = some 1 := by decide +kernel
set_option maxHeartbeats 4000000 in
set_option maxRecDepth 100000 in
theorem c_X8_greatestLoudAt (l : Launch) (D : va_G) (cI cJ cZ : ClassId) (en : EnT) (q_t q_t_marks q_t_lasting : Nat) (sz : Nat) (v_t_marks : Nat → Int32) (v_t_lasting : Nat → Int32) (x1 : Int32) {z : Int32} (hf : f_X8_greatestLoudAt v_t_marks v_t_lasting x1 = some z) : Met l yX8_greatestLoudAt (Cond.code yX8_greatestLoudAt cX8_greatestLoudAt 6 (some .int) :: lw_g) ({ frames := 1, cells := 0, slots := 0, locals := 22 } : Room) (PC D cI cJ cZ en ([.ref q_t, .int x1] : List Value) [(q_t, .inr (8, [.ref q_t_marks, .ref q_t_lasting])), (q_t_marks, .inl (cI, 480, .inl v_t_marks)), (q_t_lasting, .inl (cI, 8, .inl v_t_lasting))] sz) (QI D cI cJ cZ [(q_t, .inr (8, [.ref q_t_marks, .ref q_t_lasting])), (q_t_marks, .inl (cI, 480, .inl v_t_marks)), (q_t_lasting, .inl (cI, 8, .inl v_t_lasting))] z (va_A [(q_t, .inr (8, [.ref q_t_marks, .ref q_t_lasting])), (q_t_marks, .inl (cI, 480, .inl v_t_marks)), (q_t_lasting, .inl (cI, 8, .inl v_t_lasting))] sz)) 0 0 (va_A [(q_t, .inr (8, [.ref q_t_marks, .ref q_t_lasting])), (q_t_marks, .inl (cI, 480, .inl v_t_marks)), (q_t_lasting, .inl (cI, 8, .inl v_t_lasting))] sz) := by
  refine mk_met (Qc := fun A => (QI D cI cJ cZ [(q_t, .inr (8, [.ref q_t_marks, .ref q_t_lasting])), (q_t_marks, .inl (cI, 480, .inl v_t_marks)), (q_t_lasting, .inl (cI, 8, .inl v_t_lasting))] z A)) RX8 (by decide) rfl (Nat.le_of_ble_eq_true rfl) ?_
  intro p e s m below meth c ls A hx hb hr hml hown hts hlocks hA hK hE hl hD H locs hP hS
  have hl : lv_has ls 6 [(0, .ref q_t), (1, .int x1)] := hl
  unfold f_X8_greatestLoudAt at hf
  refine lv_iconst (v := (-1)) hx hb dX8_greatestLoudAt_0 (by decide) ?_
  refine lv_istore_n (lv' := [(2, .int (-1)), (0, .ref q_t), (1, .int x1)]) hx hb dX8_greatestLoudAt_1 rfl hl (by decide) rfl (fun ls hl => ?_)
  refine lv_iconst (v := 0) hx hb dX8_greatestLoudAt_2 (by decide) ?_
  refine lv_istore_n (lv' := [(3, .int 0), (2, .int (-1)), (0, .ref q_t), (1, .int x1)]) hx hb dX8_greatestLoudAt_3 rfl hl (by decide) rfl (fun ls hl => ?_)
  have L4_3 : ∀ (n_5 : Nat) (x2_1 : Int32) (x3_2 : Int32), f_X8_greatestLoudAt_L4 v_t_marks v_t_lasting x1 n_5 x2_1 x3_2 = some z → ∀ (H : Heap) (locs : List Loc) (ls : Array Slot), va_P D vwCl [(q_t, .inr (8, [.ref q_t_marks, .ref q_t_lasting])), (q_t_marks, .inl (cI, 480, .inl v_t_marks)), (q_t_lasting, .inl (cI, 8, .inl v_t_lasting))] H → va_D A [(q_t, .inr (8, [.ref q_t_marks, .ref q_t_lasting])), (q_t_marks, .inl (cI, 480, .inl v_t_marks)), (q_t_lasting, .inl (cI, 8, .inl v_t_lasting))] → va_S A s.heap H locs → lv_has ls 6 [(0, .ref q_t), (1, .int x1), (2, .int x2_1), (3, .int x3_2)] → W p l e ({ frames := 1, cells := 0, slots := 0, locals := 22 } : Room) s m ([.ref q_t, .int x1] : List Value).toArray below meth c H locs 0 0 (MQ below (QI D cI cJ cZ [(q_t, .inr (8, [.ref q_t_marks, .ref q_t_lasting])), (q_t_marks, .inl (cI, 480, .inl v_t_marks)), (q_t_lasting, .inl (cI, 8, .inl v_t_lasting))] z A) ([.ref q_t, .int x1] : List Value).toArray s 0 0 A) (F0 m 4 ls []) := by
    intro n_5
    induction n_5 with
    | zero =>
      intro x2_1 x3_2 hf
      cases hf
    | succ n_5 ih_4 =>
      intro x2_1 x3_2 hf H locs ls hP hD hS hl
      rw [f_X8_greatestLoudAt_L4] at hf
      refine lv_iload_n hx hb dX8_greatestLoudAt_4 rfl (lv_at hl 3 rfl) ?_
      refine lv_bipush (v := 8) hx hb dX8_greatestLoudAt_5 (by decide) ?_
      refine lv_icmp_ge (tgt := 64) hx hb dX8_greatestLoudAt_7 (by decide) (fun h_6 => ?_) (fun h_6 => ?_)
      · have hf := (if_pos h_6).symm.trans hf
        refine lv_iload_n hx hb dX8_greatestLoudAt_64 rfl (lv_at hl 2 rfl) ?_
        cases hf
        exact rt_i hx hb hr hlocks hK hP hS dX8_greatestLoudAt_65
      · have hf := (if_neg h_6).symm.trans hf
        refine lv_iconst (v := 1) hx hb dX8_greatestLoudAt_10 (by decide) ?_
        refine lv_istore (lv' := [(4, .int 1), (0, .ref q_t), (1, .int x1), (2, .int x2_1), (3, .int x3_2)]) hx hb dX8_greatestLoudAt_11 hl (by decide) rfl (fun ls hl => ?_)
        have L13_9 : ∀ (n_11 : Nat) (x2_7 : Int32) (x4_8 : Int32), f_X8_greatestLoudAt_L13 (f_X8_greatestLoudAt_L4 v_t_marks v_t_lasting x1 n_5) v_t_marks v_t_lasting x1 x3_2 n_11 x2_7 x4_8 = some z → ∀ (H : Heap) (locs : List Loc) (ls : Array Slot), va_P D vwCl [(q_t, .inr (8, [.ref q_t_marks, .ref q_t_lasting])), (q_t_marks, .inl (cI, 480, .inl v_t_marks)), (q_t_lasting, .inl (cI, 8, .inl v_t_lasting))] H → va_D A [(q_t, .inr (8, [.ref q_t_marks, .ref q_t_lasting])), (q_t_marks, .inl (cI, 480, .inl v_t_marks)), (q_t_lasting, .inl (cI, 8, .inl v_t_lasting))] → va_S A s.heap H locs → lv_has ls 6 [(0, .ref q_t), (1, .int x1), (2, .int x2_7), (3, .int x3_2), (4, .int x4_8)] → W p l e ({ frames := 1, cells := 0, slots := 0, locals := 22 } : Room) s m ([.ref q_t, .int x1] : List Value).toArray below meth c H locs 0 0 (MQ below (QI D cI cJ cZ [(q_t, .inr (8, [.ref q_t_marks, .ref q_t_lasting])), (q_t_marks, .inl (cI, 480, .inl v_t_marks)), (q_t_lasting, .inl (cI, 8, .inl v_t_lasting))] z A) ([.ref q_t, .int x1] : List Value).toArray s 0 0 A) (F0 m 13 ls []) := by
          intro n_11
          induction n_11 with
          | zero =>
            intro x2_7 x4_8 hf
            cases hf
          | succ n_11 ih_10 =>
            intro x2_7 x4_8 hf H locs ls hP hD hS hl
            rw [f_X8_greatestLoudAt_L13] at hf
            refine lv_iload hx hb dX8_greatestLoudAt_13 (lv_at hl 4 rfl) ?_
            refine lv_aload_n hx hb dX8_greatestLoudAt_15 rfl (lv_at hl 0 rfl) ?_
            refine va_get (D := D) (ci := 8) (v := .ref q_t_lasting) (C := RX8) (T := TX8) (N := 2) hx hb hts inX8 hown hK hP 0 rfl rfl 1 (by decide) (hts _ w_240) (fun _ h9 => h9) rfl dX8_greatestLoudAt_16 ?_
            refine lv_iload_n hx hb dX8_greatestLoudAt_19 rfl (lv_at hl 3 rfl) ?_
            obtain ⟨hin, hf⟩ := gd_some hf
            refine va_iald hx hb hK hP 2 0 rfl rfl hin dX8_greatestLoudAt_20 ?_
            refine lv_icmp_gt (tgt := 58) hx hb dX8_greatestLoudAt_21 (by decide) (fun h_12 => ?_) (fun h_12 => ?_)
            · have hf := (if_pos h_12).symm.trans hf
              unfold f_X8_greatestLoudAt_J58 at hf
              refine lv_iinc (v := (x3_2 + 1)) (lv' := [(3, .int (x3_2 + 1)), (0, .ref q_t), (1, .int x1), (2, .int x2_7), (4, .int x4_8)]) hx hb dX8_greatestLoudAt_58 hl (k := 3) rfl rfl (by decide) rfl (fun ls hl => ?_)
              refine lv_goto (tgt := 4) hx hb dX8_greatestLoudAt_61 (by decide) ?_
              exact ih_4 x2_7 (x3_2 + 1) hf _ _ _ hP hD hS (lv_sub hl [1, 2, 3, 0] rfl)
            · have hf := (if_neg h_12).symm.trans hf
              refine lv_aload_n hx hb dX8_greatestLoudAt_24 rfl (lv_at hl 0 rfl) ?_
              refine lv_iload_n hx hb dX8_greatestLoudAt_25 rfl (lv_at hl 3 rfl) ?_
              refine lv_iload hx hb dX8_greatestLoudAt_26 (lv_at hl 4 rfl) ?_
              obtain ⟨z28_13, hz28_13, hf⟩ := bd_some hf
              refine cVi (rest := []) ⟨hx, hb, hml, hown, hts⟩ hE hK hP hD hS hA (c_X8_soundOf l D cI cJ cZ en q_t q_t_marks q_t_lasting H.size v_t_marks v_t_lasting x3_2 x4_8 hz28_13) (gv_X8_soundOf w_682) hd_X8_soundOf ⟨rfl, rfl⟩ ⟨by decide, by decide⟩ [0, 1, 2] rfl rfl rfl 8 rfl rfl 0 rfl  hl rfl (Nat.le_of_ble_eq_true rfl) ⟨Nat.zero_le _, Nat.zero_le _⟩ dX8_greatestLoudAt_28 (fun H locs hP hD hS => ?_)
              have hP : va_P D vwCl [(q_t, .inr (8, [.ref q_t_marks, .ref q_t_lasting])), (q_t_marks, .inl (cI, 480, .inl v_t_marks)), (q_t_lasting, .inl (cI, 8, .inl v_t_lasting))] H := hP
              have hD : va_D A [(q_t, .inr (8, [.ref q_t_marks, .ref q_t_lasting])), (q_t_marks, .inl (cI, 480, .inl v_t_marks)), (q_t_lasting, .inl (cI, 8, .inl v_t_lasting))] := hD
              refine lv_istore (lv' := [(5, .int z28_13), (0, .ref q_t), (1, .int x1), (2, .int x2_7), (3, .int x3_2), (4, .int x4_8)]) hx hb dX8_greatestLoudAt_31 hl (by decide) rfl (fun ls hl => ?_)
              refine lv_iload hx hb dX8_greatestLoudAt_33 (lv_at hl 0 rfl) ?_
              obtain ⟨z35_14, hz35_14, hf⟩ := bd_some hf
              refine cSi (rest := []) ⟨hx, hb, hml, hown, hts⟩ hE hK hP hD hS hA (c_X8_cellOf l D cI cJ cZ en  H.size z28_13 hz35_14) (gs_X8_cellOf w_683) hd_X8_cellOf ⟨rfl, rfl⟩ ⟨by decide, by decide⟩ [] rfl rfl rfl  hl rfl (Nat.le_of_ble_eq_true rfl) ⟨Nat.zero_le _, Nat.zero_le _⟩ dX8_greatestLoudAt_35 (fun H locs hP hD hS => ?_)
              have hP : va_P D vwCl [(q_t, .inr (8, [.ref q_t_marks, .ref q_t_lasting])), (q_t_marks, .inl (cI, 480, .inl v_t_marks)), (q_t_lasting, .inl (cI, 8, .inl v_t_lasting))] H := hP
              have hD : va_D A [(q_t, .inr (8, [.ref q_t_marks, .ref q_t_lasting])), (q_t_marks, .inl (cI, 480, .inl v_t_marks)), (q_t_lasting, .inl (cI, 8, .inl v_t_lasting))] := hD
              refine lv_iload_n hx hb dX8_greatestLoudAt_38 rfl (lv_at hl 2 rfl) ?_
              have J52_16 : ∀ (x2_15 : Int32), f_X8_greatestLoudAt_J52 (f_X8_greatestLoudAt_L13 (f_X8_greatestLoudAt_L4 v_t_marks v_t_lasting x1 n_5) v_t_marks v_t_lasting x1 x3_2 n_11) x2_15 x4_8 = some z → ∀ (H : Heap) (locs : List Loc) (ls : Array Slot), va_P D vwCl [(q_t, .inr (8, [.ref q_t_marks, .ref q_t_lasting])), (q_t_marks, .inl (cI, 480, .inl v_t_marks)), (q_t_lasting, .inl (cI, 8, .inl v_t_lasting))] H → va_D A [(q_t, .inr (8, [.ref q_t_marks, .ref q_t_lasting])), (q_t_marks, .inl (cI, 480, .inl v_t_marks)), (q_t_lasting, .inl (cI, 8, .inl v_t_lasting))] → va_S A s.heap H locs → lv_has ls 6 [(0, .ref q_t), (1, .int x1), (2, .int x2_15), (3, .int x3_2), (4, .int x4_8)] → W p l e ({ frames := 1, cells := 0, slots := 0, locals := 22 } : Room) s m ([.ref q_t, .int x1] : List Value).toArray below meth c H locs 0 0 (MQ below (QI D cI cJ cZ [(q_t, .inr (8, [.ref q_t_marks, .ref q_t_lasting])), (q_t_marks, .inl (cI, 480, .inl v_t_marks)), (q_t_lasting, .inl (cI, 8, .inl v_t_lasting))] z A) ([.ref q_t, .int x1] : List Value).toArray s 0 0 A) (F0 m 52 ls []) := by
                intro x2_15 hf H locs ls hP hD hS hl
                unfold f_X8_greatestLoudAt_J52 at hf
                refine lv_iinc (v := (x4_8 + 1)) (lv' := [(4, .int (x4_8 + 1)), (0, .ref q_t), (1, .int x1), (2, .int x2_15), (3, .int x3_2)]) hx hb dX8_greatestLoudAt_52 hl (k := 4) rfl rfl (by decide) rfl (fun ls hl => ?_)
                refine lv_goto (tgt := 13) hx hb dX8_greatestLoudAt_55 (by decide) ?_
                exact ih_10 x2_15 (x4_8 + 1) hf _ _ _ hP hD hS (lv_sub hl [1, 2, 3, 4, 0] rfl)
              refine lv_icmp_ne (tgt := 52) hx hb dX8_greatestLoudAt_39 (by decide) (fun h_17 => ?_) (fun h_17 => ?_)
              · have hf := (if_neg h_17).symm.trans hf
                exact J52_16 x2_7 hf _ _ _ hP hD hS (lv_sub hl [1, 2, 3, 4, 5] rfl)
              · have hf := (if_pos h_17).symm.trans hf
                refine lv_iload_n hx hb dX8_greatestLoudAt_42 rfl (lv_at hl 3 rfl) ?_
                refine lv_iload hx hb dX8_greatestLoudAt_43 (lv_at hl 0 rfl) ?_
                obtain ⟨z45_18, hz45_18, hf⟩ := bd_some hf
                refine cSi (rest := [.int x2_7]) ⟨hx, hb, hml, hown, hts⟩ hE hK hP hD hS hA (c_X8_loudOf l D cI cJ cZ en  H.size z28_13 hz45_18) (gs_X8_loudOf w_693) hd_X8_loudOf ⟨rfl, rfl⟩ ⟨by decide, by decide⟩ [] rfl rfl rfl  hl rfl (Nat.le_of_ble_eq_true rfl) ⟨Nat.zero_le _, Nat.zero_le _⟩ dX8_greatestLoudAt_45 (fun H locs hP hD hS => ?_)
                have hP : va_P D vwCl [(q_t, .inr (8, [.ref q_t_marks, .ref q_t_lasting])), (q_t_marks, .inl (cI, 480, .inl v_t_marks)), (q_t_lasting, .inl (cI, 8, .inl v_t_lasting))] H := hP
                have hD : va_D A [(q_t, .inr (8, [.ref q_t_marks, .ref q_t_lasting])), (q_t_marks, .inl (cI, 480, .inl v_t_marks)), (q_t_lasting, .inl (cI, 8, .inl v_t_lasting))] := hD
                refine va_mmax hx hb (hml.trans hl.1.symm) hown (hts _ w_694) (hts _ w_523) (hts _ w_73) (hts _ w_524) (by decide) (Nat.le_of_ble_eq_true rfl) (Nat.zero_le _) (Nat.zero_le _) dX8_greatestLoudAt_48 ?_
                refine lv_istore_n (lv' := [(2, .int (if x2_7 < z45_18 then z45_18 else x2_7)), (5, .int z28_13), (0, .ref q_t), (1, .int x1), (3, .int x3_2), (4, .int x4_8)]) hx hb dX8_greatestLoudAt_51 rfl hl (by decide) rfl (fun ls hl => ?_)
                exact J52_16 (if x2_7 < z45_18 then z45_18 else x2_7) hf _ _ _ hP hD hS (lv_sub hl [2, 3, 0, 4, 5] rfl)
        exact L13_9 FU x2_1 1 hf _ _ _ hP hD hS (lv_sub hl [1, 2, 3, 4, 0] rfl)
  exact L4_3 FU (-1) 0 hf _ _ _ hP hD hS (lv_sub hl [2, 3, 1, 0] rfl)

def f_X8_sameAt_J62 (rc2 : (Int32) → Option (Int32)) (x3 : Int32) : Option (Int32) :=
  (rc2 (x3 + 1))
def f_X8_sameAt_L11 (rc2 : (Int32) → Option (Int32)) (v_t_marks : Nat → Int32) (v_t_lasting : Nat → Int32) (v_a2_marks : Nat → Int32) (v_a2_lasting : Nat → Int32) (x1 : Int32) (x3 : Int32) : Nat → (Int32) → Option (Int32)
  | 0, _ => none
  | n + 1, x4 => (if 8 ≤ x4 then (f_X8_sameAt_J62 rc2 x3) else (f_X8_soundOf v_t_marks v_t_lasting x4 x3).bind (fun z23 => (f_X8_asOften v_t_marks v_t_lasting v_a2_marks v_a2_lasting z23 x1 x3).bind (fun z29 => (if z29 = 0 then (some 0) else (f_X8_soundOf v_a2_marks v_a2_lasting x4 x3).bind (fun z42 => (f_X8_asOften v_t_marks v_t_lasting v_a2_marks v_a2_lasting z42 x1 x3).bind (fun z48 => (if z48 = 0 then (some 0) else (f_X8_sameAt_L11 rc2 v_t_marks v_t_lasting v_a2_marks v_a2_lasting x1 x3 n (x4 + 1)))))))))
def f_X8_sameAt_L2 (v_t_marks : Nat → Int32) (v_t_lasting : Nat → Int32) (v_a2_marks : Nat → Int32) (v_a2_lasting : Nat → Int32) (x1 : Int32) : Nat → (Int32) → Option (Int32)
  | 0, _ => none
  | n + 1, x3 => (if 60 < x3 then (some 1) else (f_X8_sameAt_L11 (f_X8_sameAt_L2 v_t_marks v_t_lasting v_a2_marks v_a2_lasting x1 n) v_t_marks v_t_lasting v_a2_marks v_a2_lasting x1 x3 FU 0))
def f_X8_sameAt (v_t_marks : Nat → Int32) (v_t_lasting : Nat → Int32) (v_a2_marks : Nat → Int32) (v_a2_lasting : Nat → Int32) (x1 : Int32) : Option (Int32) :=
  (f_X8_sameAt_L2 v_t_marks v_t_lasting v_a2_marks v_a2_lasting x1 FU 1)
theorem gv_X8_sameAt {own : String} {idx : Nat} (h : Cond.methodLink own idx yX8_sameAt ∈ lw_g) : GoodIn lw_g (wsV own idx RX8 yX8_sameAt (Cond.code yX8_sameAt cX8_sameAt 5 (some .boolean) :: lw_g)) := gV h w_768 w_769 w_64 w_770
theorem hd_X8_sameAt : yX8_sameAt.cls = RX8 ∧ yX8_sameAt.cls ≠ "java/lang/invoke/MethodHandle" ∧ yX8_sameAt.cls ≠ "java/lang/invoke/VarHandle" ∧ (parseMethodDescriptor yX8_sameAt.desc).map (fun d => d.parameters.length) = some 2 := by decide +kernel
set_option maxHeartbeats 4000000 in
set_option maxRecDepth 100000 in
theorem c_X8_sameAt (l : Launch) (D : va_G) (cI cJ cZ : ClassId) (en : EnT) (q_t q_t_marks q_t_lasting q_a2 q_a2_marks q_a2_lasting : Nat) (sz : Nat) (v_t_marks : Nat → Int32) (v_t_lasting : Nat → Int32) (v_a2_marks : Nat → Int32) (v_a2_lasting : Nat → Int32) (x1 : Int32) {z : Int32} (hf : f_X8_sameAt v_t_marks v_t_lasting v_a2_marks v_a2_lasting x1 = some z) : Met l yX8_sameAt (Cond.code yX8_sameAt cX8_sameAt 5 (some .boolean) :: lw_g) ({ frames := 3, cells := 0, slots := 0, locals := 70 } : Room) (PC D cI cJ cZ en ([.ref q_t, .int x1, .ref q_a2] : List Value) [(q_t, .inr (8, [.ref q_t_marks, .ref q_t_lasting])), (q_t_marks, .inl (cI, 480, .inl v_t_marks)), (q_t_lasting, .inl (cI, 8, .inl v_t_lasting)), (q_a2, .inr (8, [.ref q_a2_marks, .ref q_a2_lasting])), (q_a2_marks, .inl (cI, 480, .inl v_a2_marks)), (q_a2_lasting, .inl (cI, 8, .inl v_a2_lasting))] sz) (QI D cI cJ cZ [(q_t, .inr (8, [.ref q_t_marks, .ref q_t_lasting])), (q_t_marks, .inl (cI, 480, .inl v_t_marks)), (q_t_lasting, .inl (cI, 8, .inl v_t_lasting)), (q_a2, .inr (8, [.ref q_a2_marks, .ref q_a2_lasting])), (q_a2_marks, .inl (cI, 480, .inl v_a2_marks)), (q_a2_lasting, .inl (cI, 8, .inl v_a2_lasting))] z (va_A [(q_t, .inr (8, [.ref q_t_marks, .ref q_t_lasting])), (q_t_marks, .inl (cI, 480, .inl v_t_marks)), (q_t_lasting, .inl (cI, 8, .inl v_t_lasting)), (q_a2, .inr (8, [.ref q_a2_marks, .ref q_a2_lasting])), (q_a2_marks, .inl (cI, 480, .inl v_a2_marks)), (q_a2_lasting, .inl (cI, 8, .inl v_a2_lasting))] sz)) 0 0 (va_A [(q_t, .inr (8, [.ref q_t_marks, .ref q_t_lasting])), (q_t_marks, .inl (cI, 480, .inl v_t_marks)), (q_t_lasting, .inl (cI, 8, .inl v_t_lasting)), (q_a2, .inr (8, [.ref q_a2_marks, .ref q_a2_lasting])), (q_a2_marks, .inl (cI, 480, .inl v_a2_marks)), (q_a2_lasting, .inl (cI, 8, .inl v_a2_lasting))] sz) := by
  refine mk_met (Qc := fun A => (QI D cI cJ cZ [(q_t, .inr (8, [.ref q_t_marks, .ref q_t_lasting])), (q_t_marks, .inl (cI, 480, .inl v_t_marks)), (q_t_lasting, .inl (cI, 8, .inl v_t_lasting)), (q_a2, .inr (8, [.ref q_a2_marks, .ref q_a2_lasting])), (q_a2_marks, .inl (cI, 480, .inl v_a2_marks)), (q_a2_lasting, .inl (cI, 8, .inl v_a2_lasting))] z A)) RX8 (by decide) rfl (Nat.le_of_ble_eq_true rfl) ?_
  intro p e s m below meth c ls A hx hb hr hml hown hts hlocks hA hK hE hl hD H locs hP hS
  have hl : lv_has ls 5 [(0, .ref q_t), (1, .int x1), (2, .ref q_a2)] := hl
  unfold f_X8_sameAt at hf
  refine lv_iconst (v := 1) hx hb dX8_sameAt_0 (by decide) ?_
  refine lv_istore_n (lv' := [(3, .int 1), (0, .ref q_t), (1, .int x1), (2, .ref q_a2)]) hx hb dX8_sameAt_1 rfl hl (by decide) rfl (fun ls hl => ?_)
  have L2_2 : ∀ (n_4 : Nat) (x3_1 : Int32), f_X8_sameAt_L2 v_t_marks v_t_lasting v_a2_marks v_a2_lasting x1 n_4 x3_1 = some z → ∀ (H : Heap) (locs : List Loc) (ls : Array Slot), va_P D vwCl [(q_t, .inr (8, [.ref q_t_marks, .ref q_t_lasting])), (q_t_marks, .inl (cI, 480, .inl v_t_marks)), (q_t_lasting, .inl (cI, 8, .inl v_t_lasting)), (q_a2, .inr (8, [.ref q_a2_marks, .ref q_a2_lasting])), (q_a2_marks, .inl (cI, 480, .inl v_a2_marks)), (q_a2_lasting, .inl (cI, 8, .inl v_a2_lasting))] H → va_D A [(q_t, .inr (8, [.ref q_t_marks, .ref q_t_lasting])), (q_t_marks, .inl (cI, 480, .inl v_t_marks)), (q_t_lasting, .inl (cI, 8, .inl v_t_lasting)), (q_a2, .inr (8, [.ref q_a2_marks, .ref q_a2_lasting])), (q_a2_marks, .inl (cI, 480, .inl v_a2_marks)), (q_a2_lasting, .inl (cI, 8, .inl v_a2_lasting))] → va_S A s.heap H locs → lv_has ls 5 [(0, .ref q_t), (1, .int x1), (2, .ref q_a2), (3, .int x3_1)] → W p l e ({ frames := 3, cells := 0, slots := 0, locals := 70 } : Room) s m ([.ref q_t, .int x1, .ref q_a2] : List Value).toArray below meth c H locs 0 0 (MQ below (QI D cI cJ cZ [(q_t, .inr (8, [.ref q_t_marks, .ref q_t_lasting])), (q_t_marks, .inl (cI, 480, .inl v_t_marks)), (q_t_lasting, .inl (cI, 8, .inl v_t_lasting)), (q_a2, .inr (8, [.ref q_a2_marks, .ref q_a2_lasting])), (q_a2_marks, .inl (cI, 480, .inl v_a2_marks)), (q_a2_lasting, .inl (cI, 8, .inl v_a2_lasting))] z A) ([.ref q_t, .int x1, .ref q_a2] : List Value).toArray s 0 0 A) (F0 m 2 ls []) := by
    intro n_4
    induction n_4 with
    | zero =>
      intro x3_1 hf
      cases hf
    | succ n_4 ih_3 =>
      intro x3_1 hf H locs ls hP hD hS hl
      rw [f_X8_sameAt_L2] at hf
      refine lv_iload_n hx hb dX8_sameAt_2 rfl (lv_at hl 3 rfl) ?_
      refine lv_bipush (v := 60) hx hb dX8_sameAt_3 (by decide) ?_
      refine lv_icmp_gt (tgt := 68) hx hb dX8_sameAt_5 (by decide) (fun h_5 => ?_) (fun h_5 => ?_)
      · have hf := (if_pos h_5).symm.trans hf
        refine lv_iconst (v := 1) hx hb dX8_sameAt_68 (by decide) ?_
        cases hf
        exact rt_z hx hb hr hlocks hK hP hS (Or.inr rfl) dX8_sameAt_69
      · have hf := (if_neg h_5).symm.trans hf
        refine lv_iconst (v := 0) hx hb dX8_sameAt_8 (by decide) ?_
        refine lv_istore (lv' := [(4, .int 0), (0, .ref q_t), (1, .int x1), (2, .ref q_a2), (3, .int x3_1)]) hx hb dX8_sameAt_9 hl (by decide) rfl (fun ls hl => ?_)
        have L11_7 : ∀ (n_9 : Nat) (x4_6 : Int32), f_X8_sameAt_L11 (f_X8_sameAt_L2 v_t_marks v_t_lasting v_a2_marks v_a2_lasting x1 n_4) v_t_marks v_t_lasting v_a2_marks v_a2_lasting x1 x3_1 n_9 x4_6 = some z → ∀ (H : Heap) (locs : List Loc) (ls : Array Slot), va_P D vwCl [(q_t, .inr (8, [.ref q_t_marks, .ref q_t_lasting])), (q_t_marks, .inl (cI, 480, .inl v_t_marks)), (q_t_lasting, .inl (cI, 8, .inl v_t_lasting)), (q_a2, .inr (8, [.ref q_a2_marks, .ref q_a2_lasting])), (q_a2_marks, .inl (cI, 480, .inl v_a2_marks)), (q_a2_lasting, .inl (cI, 8, .inl v_a2_lasting))] H → va_D A [(q_t, .inr (8, [.ref q_t_marks, .ref q_t_lasting])), (q_t_marks, .inl (cI, 480, .inl v_t_marks)), (q_t_lasting, .inl (cI, 8, .inl v_t_lasting)), (q_a2, .inr (8, [.ref q_a2_marks, .ref q_a2_lasting])), (q_a2_marks, .inl (cI, 480, .inl v_a2_marks)), (q_a2_lasting, .inl (cI, 8, .inl v_a2_lasting))] → va_S A s.heap H locs → lv_has ls 5 [(0, .ref q_t), (1, .int x1), (2, .ref q_a2), (3, .int x3_1), (4, .int x4_6)] → W p l e ({ frames := 3, cells := 0, slots := 0, locals := 70 } : Room) s m ([.ref q_t, .int x1, .ref q_a2] : List Value).toArray below meth c H locs 0 0 (MQ below (QI D cI cJ cZ [(q_t, .inr (8, [.ref q_t_marks, .ref q_t_lasting])), (q_t_marks, .inl (cI, 480, .inl v_t_marks)), (q_t_lasting, .inl (cI, 8, .inl v_t_lasting)), (q_a2, .inr (8, [.ref q_a2_marks, .ref q_a2_lasting])), (q_a2_marks, .inl (cI, 480, .inl v_a2_marks)), (q_a2_lasting, .inl (cI, 8, .inl v_a2_lasting))] z A) ([.ref q_t, .int x1, .ref q_a2] : List Value).toArray s 0 0 A) (F0 m 11 ls []) := by
          intro n_9
          induction n_9 with
          | zero =>
            intro x4_6 hf
            cases hf
          | succ n_9 ih_8 =>
            intro x4_6 hf H locs ls hP hD hS hl
            rw [f_X8_sameAt_L11] at hf
            refine lv_iload hx hb dX8_sameAt_11 (lv_at hl 4 rfl) ?_
            refine lv_bipush (v := 8) hx hb dX8_sameAt_13 (by decide) ?_
            refine lv_icmp_ge (tgt := 62) hx hb dX8_sameAt_15 (by decide) (fun h_10 => ?_) (fun h_10 => ?_)
            · have hf := (if_pos h_10).symm.trans hf
              unfold f_X8_sameAt_J62 at hf
              refine lv_iinc (v := (x3_1 + 1)) (lv' := [(3, .int (x3_1 + 1)), (0, .ref q_t), (1, .int x1), (2, .ref q_a2), (4, .int x4_6)]) hx hb dX8_sameAt_62 hl (k := 3) rfl rfl (by decide) rfl (fun ls hl => ?_)
              refine lv_goto (tgt := 2) hx hb dX8_sameAt_65 (by decide) ?_
              exact ih_3 (x3_1 + 1) hf _ _ _ hP hD hS (lv_sub hl [1, 2, 3, 0] rfl)
            · have hf := (if_neg h_10).symm.trans hf
              refine lv_aload_n hx hb dX8_sameAt_18 rfl (lv_at hl 0 rfl) ?_
              refine lv_aload_n hx hb dX8_sameAt_19 rfl (lv_at hl 0 rfl) ?_
              refine lv_iload hx hb dX8_sameAt_20 (lv_at hl 4 rfl) ?_
              refine lv_iload_n hx hb dX8_sameAt_22 rfl (lv_at hl 3 rfl) ?_
              obtain ⟨z23_11, hz23_11, hf⟩ := bd_some hf
              refine cVi (rest := [.ref q_t]) ⟨hx, hb, hml, hown, hts⟩ hE hK hP hD hS hA (c_X8_soundOf l D cI cJ cZ en q_t q_t_marks q_t_lasting H.size v_t_marks v_t_lasting x4_6 x3_1 hz23_11) (gv_X8_soundOf w_682) hd_X8_soundOf ⟨rfl, rfl⟩ ⟨by decide, by decide⟩ [0, 1, 2] rfl rfl rfl 8 rfl rfl 0 rfl  hl rfl (Nat.le_of_ble_eq_true rfl) ⟨Nat.zero_le _, Nat.zero_le _⟩ dX8_sameAt_23 (fun H locs hP hD hS => ?_)
              have hP : va_P D vwCl [(q_t, .inr (8, [.ref q_t_marks, .ref q_t_lasting])), (q_t_marks, .inl (cI, 480, .inl v_t_marks)), (q_t_lasting, .inl (cI, 8, .inl v_t_lasting)), (q_a2, .inr (8, [.ref q_a2_marks, .ref q_a2_lasting])), (q_a2_marks, .inl (cI, 480, .inl v_a2_marks)), (q_a2_lasting, .inl (cI, 8, .inl v_a2_lasting))] H := hP
              have hD : va_D A [(q_t, .inr (8, [.ref q_t_marks, .ref q_t_lasting])), (q_t_marks, .inl (cI, 480, .inl v_t_marks)), (q_t_lasting, .inl (cI, 8, .inl v_t_lasting)), (q_a2, .inr (8, [.ref q_a2_marks, .ref q_a2_lasting])), (q_a2_marks, .inl (cI, 480, .inl v_a2_marks)), (q_a2_lasting, .inl (cI, 8, .inl v_a2_lasting))] := hD
              refine lv_iload_n hx hb dX8_sameAt_26 rfl (lv_at hl 1 rfl) ?_
              refine lv_iload_n hx hb dX8_sameAt_27 rfl (lv_at hl 3 rfl) ?_
              refine lv_aload_n hx hb dX8_sameAt_28 rfl (lv_at hl 2 rfl) ?_
              obtain ⟨z29_12, hz29_12, hf⟩ := bd_some hf
              refine cVi (rest := []) ⟨hx, hb, hml, hown, hts⟩ hE hK hP hD hS hA (c_X8_asOften l D cI cJ cZ en q_t q_t_marks q_t_lasting q_a2 q_a2_marks q_a2_lasting H.size v_t_marks v_t_lasting v_a2_marks v_a2_lasting z23_11 x1 x3_1 hz29_12) (gv_X8_asOften w_771) hd_X8_asOften ⟨rfl, rfl⟩ ⟨by decide, by decide⟩ [0, 1, 2, 3, 4, 5] rfl rfl rfl 8 rfl rfl 0 rfl  hl rfl (Nat.le_of_ble_eq_true rfl) ⟨Nat.zero_le _, Nat.zero_le _⟩ dX8_sameAt_29 (fun H locs hP hD hS => ?_)
              have hP : va_P D vwCl [(q_t, .inr (8, [.ref q_t_marks, .ref q_t_lasting])), (q_t_marks, .inl (cI, 480, .inl v_t_marks)), (q_t_lasting, .inl (cI, 8, .inl v_t_lasting)), (q_a2, .inr (8, [.ref q_a2_marks, .ref q_a2_lasting])), (q_a2_marks, .inl (cI, 480, .inl v_a2_marks)), (q_a2_lasting, .inl (cI, 8, .inl v_a2_lasting))] H := hP
              have hD : va_D A [(q_t, .inr (8, [.ref q_t_marks, .ref q_t_lasting])), (q_t_marks, .inl (cI, 480, .inl v_t_marks)), (q_t_lasting, .inl (cI, 8, .inl v_t_lasting)), (q_a2, .inr (8, [.ref q_a2_marks, .ref q_a2_lasting])), (q_a2_marks, .inl (cI, 480, .inl v_a2_marks)), (q_a2_lasting, .inl (cI, 8, .inl v_a2_lasting))] := hD
              refine lv_if_ne (tgt := 37) hx hb dX8_sameAt_32 (by decide) (fun h_13 => ?_) (fun h_13 => ?_)
              · have hf := (if_neg h_13).symm.trans hf
                refine lv_aload_n hx hb dX8_sameAt_37 rfl (lv_at hl 0 rfl) ?_
                refine lv_aload_n hx hb dX8_sameAt_38 rfl (lv_at hl 2 rfl) ?_
                refine lv_iload hx hb dX8_sameAt_39 (lv_at hl 4 rfl) ?_
                refine lv_iload_n hx hb dX8_sameAt_41 rfl (lv_at hl 3 rfl) ?_
                obtain ⟨z42_14, hz42_14, hf⟩ := bd_some hf
                refine cVi (rest := [.ref q_t]) ⟨hx, hb, hml, hown, hts⟩ hE hK hP hD hS hA (c_X8_soundOf l D cI cJ cZ en q_a2 q_a2_marks q_a2_lasting H.size v_a2_marks v_a2_lasting x4_6 x3_1 hz42_14) (gv_X8_soundOf w_682) hd_X8_soundOf ⟨rfl, rfl⟩ ⟨by decide, by decide⟩ [3, 4, 5] rfl rfl rfl 8 rfl rfl 3 rfl  hl rfl (Nat.le_of_ble_eq_true rfl) ⟨Nat.zero_le _, Nat.zero_le _⟩ dX8_sameAt_42 (fun H locs hP hD hS => ?_)
                have hP : va_P D vwCl [(q_t, .inr (8, [.ref q_t_marks, .ref q_t_lasting])), (q_t_marks, .inl (cI, 480, .inl v_t_marks)), (q_t_lasting, .inl (cI, 8, .inl v_t_lasting)), (q_a2, .inr (8, [.ref q_a2_marks, .ref q_a2_lasting])), (q_a2_marks, .inl (cI, 480, .inl v_a2_marks)), (q_a2_lasting, .inl (cI, 8, .inl v_a2_lasting))] H := hP
                have hD : va_D A [(q_t, .inr (8, [.ref q_t_marks, .ref q_t_lasting])), (q_t_marks, .inl (cI, 480, .inl v_t_marks)), (q_t_lasting, .inl (cI, 8, .inl v_t_lasting)), (q_a2, .inr (8, [.ref q_a2_marks, .ref q_a2_lasting])), (q_a2_marks, .inl (cI, 480, .inl v_a2_marks)), (q_a2_lasting, .inl (cI, 8, .inl v_a2_lasting))] := hD
                refine lv_iload_n hx hb dX8_sameAt_45 rfl (lv_at hl 1 rfl) ?_
                refine lv_iload_n hx hb dX8_sameAt_46 rfl (lv_at hl 3 rfl) ?_
                refine lv_aload_n hx hb dX8_sameAt_47 rfl (lv_at hl 2 rfl) ?_
                obtain ⟨z48_15, hz48_15, hf⟩ := bd_some hf
                refine cVi (rest := []) ⟨hx, hb, hml, hown, hts⟩ hE hK hP hD hS hA (c_X8_asOften l D cI cJ cZ en q_t q_t_marks q_t_lasting q_a2 q_a2_marks q_a2_lasting H.size v_t_marks v_t_lasting v_a2_marks v_a2_lasting z42_14 x1 x3_1 hz48_15) (gv_X8_asOften w_771) hd_X8_asOften ⟨rfl, rfl⟩ ⟨by decide, by decide⟩ [0, 1, 2, 3, 4, 5] rfl rfl rfl 8 rfl rfl 0 rfl  hl rfl (Nat.le_of_ble_eq_true rfl) ⟨Nat.zero_le _, Nat.zero_le _⟩ dX8_sameAt_48 (fun H locs hP hD hS => ?_)
                have hP : va_P D vwCl [(q_t, .inr (8, [.ref q_t_marks, .ref q_t_lasting])), (q_t_marks, .inl (cI, 480, .inl v_t_marks)), (q_t_lasting, .inl (cI, 8, .inl v_t_lasting)), (q_a2, .inr (8, [.ref q_a2_marks, .ref q_a2_lasting])), (q_a2_marks, .inl (cI, 480, .inl v_a2_marks)), (q_a2_lasting, .inl (cI, 8, .inl v_a2_lasting))] H := hP
                have hD : va_D A [(q_t, .inr (8, [.ref q_t_marks, .ref q_t_lasting])), (q_t_marks, .inl (cI, 480, .inl v_t_marks)), (q_t_lasting, .inl (cI, 8, .inl v_t_lasting)), (q_a2, .inr (8, [.ref q_a2_marks, .ref q_a2_lasting])), (q_a2_marks, .inl (cI, 480, .inl v_a2_marks)), (q_a2_lasting, .inl (cI, 8, .inl v_a2_lasting))] := hD
                refine lv_if_ne (tgt := 56) hx hb dX8_sameAt_51 (by decide) (fun h_16 => ?_) (fun h_16 => ?_)
                · have hf := (if_neg h_16).symm.trans hf
                  refine lv_iinc (v := (x4_6 + 1)) (lv' := [(4, .int (x4_6 + 1)), (0, .ref q_t), (1, .int x1), (2, .ref q_a2), (3, .int x3_1)]) hx hb dX8_sameAt_56 hl (k := 4) rfl rfl (by decide) rfl (fun ls hl => ?_)
                  refine lv_goto (tgt := 11) hx hb dX8_sameAt_59 (by decide) ?_
                  exact ih_8 (x4_6 + 1) hf _ _ _ hP hD hS (lv_sub hl [1, 2, 3, 4, 0] rfl)
                · have hf := (if_pos h_16).symm.trans hf
                  refine lv_iconst (v := 0) hx hb dX8_sameAt_54 (by decide) ?_
                  cases hf
                  exact rt_z hx hb hr hlocks hK hP hS (Or.inl rfl) dX8_sameAt_55
              · have hf := (if_pos h_13).symm.trans hf
                refine lv_iconst (v := 0) hx hb dX8_sameAt_35 (by decide) ?_
                cases hf
                exact rt_z hx hb hr hlocks hK hP hS (Or.inl rfl) dX8_sameAt_36
        exact L11_7 FU 0 hf _ _ _ hP hD hS (lv_sub hl [1, 2, 3, 4, 0] rfl)
  exact L2_2 FU 1 hf _ _ _ hP hD hS (lv_sub hl [1, 2, 3, 0] rfl)
