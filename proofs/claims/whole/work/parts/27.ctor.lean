set_option maxHeartbeats 4000000 in
set_option maxRecDepth 100000 in
theorem c_X0_init (l : Launch) (D : va_G) (cI cJ cZ : ClassId) (en : EnT) (q_t sz : Nat) : Met l yX0_init (Cond.code yX0_init cX0_init 1 none :: lw_g) ({ frames := 1, cells := 1, slots := 36, locals := 12 } : Room) (PC D cI cJ cZ en ([.ref q_t] : List Value) [(q_t, .inr (0, [.null]))] sz) (QN D cI cJ cZ (fun u => [(q_t, .inr (0, [.ref (u 0)])), ((u 0), .inl (cI, 36, .inl (fun _ => 0)))]) (va_A [(q_t, .inr (0, [.null]))] sz)) 1 36 (va_A [(q_t, .inr (0, [.null]))] sz) := by
  refine mk_metN (y := yX0_init) (cc := cX0_init) (maxL := 1) (ret := none) (av := ([.ref q_t] : List Value)) (sz := sz) (Qc := fun A => QN D cI cJ cZ (fun u => [(q_t, .inr (0, [.ref (u 0)])), ((u 0), .inl (cI, 36, .inl (fun _ => 0)))]) A) RX0 (by decide) rfl (Nat.le_of_ble_eq_true rfl) ?_
  intro p e s m below meth c ls A hx hb hr hml hown hts hlocks hin hA hK hE hl hD H locs hP hS
  have hl : lv_has ls 1 [(0, .ref q_t)] := hl
  have hin : meth.name = "<init>" := hin
  refine lv_aload_n hx hb dX0_init_0 rfl (lv_at hl 0 rfl) ?_
  refine W.objInit hx hb hown (hts _ w_251) (hts _ w_81) (hts _ w_82) rfl (by rw [hml]; exact hl.1) rfl dX0_init_1 (by decide) (Nat.le_of_ble_eq_true rfl) ?_
  refine W.eq (g2 := F0 m 4 ls []) rfl ?_
  refine lv_aload_n hx hb dX0_init_4 rfl (lv_at hl 0 rfl) ?_
  refine lv_bipush (v := 36) hx hb dX0_init_5 (by decide) ?_
  refine nwa (atype := .int) (ty := .int) (cA0 := cI) (a0 := (36, .inl (fun _ => 0))) (N := 36) hx hb (hts _ w_97) rfl 0 rfl un_int hK hP hD hS hA (fun _ => rfl) (by decide) (by decide) (by decide) (by decide) (by decide) dX0_init_7 (fun q_1 H hP hD hS => ?_)
  have hP : va_P D vwCl [(q_t, .inr (0, [.null])), (q_1, .inl (cI, 36, .inl (fun _ => 0)))] H := hP
  have hD : va_D A [(q_t, .inr (0, [.null])), (q_1, .inl (cI, 36, .inl (fun _ => 0)))] := hD
  refine W.widen (k := 1) (n := 36) (by decide) (by decide) ?_
  refine va_putF (D := D) (ci := 0) (v := .ref q_1) (ty := .array .int) (C := RX0) (T := TX0) (N := 1) hx hb hts inX0 tyX0 tyX0_ok nmX0 hown hK hP hD hS 0 rfl rfl 0 (by decide) (hts _ w_252) (fun _ h9 => h9) rfl hin rfl (by decide +kernel) rfl rfl (Nat.le_of_ble_eq_true rfl) dX0_init_9 (fun H locs hP hD hS => ?_)
  have hP : va_P D vwCl [(q_t, .inr (0, [.ref q_1])), (q_1, .inl (cI, 36, .inl (fun _ => 0)))] H := hP
  have hD : va_D A [(q_t, .inr (0, [.ref q_1])), (q_1, .inl (cI, 36, .inl (fun _ => 0)))] := hD
  exact rtN (fun i => ([q_1] : List Nat).getD i 0) hx hb hr hlocks hK hP hD hS dX0_init_12

set_option maxHeartbeats 4000000 in
set_option maxRecDepth 100000 in
theorem c_X1_init (l : Launch) (D : va_G) (cI cJ cZ : ClassId) (en : EnT) (q_t sz : Nat) : Met l yX1_init (Cond.code yX1_init cX1_init 1 none :: lw_g) ({ frames := 1, cells := 7, slots := 140, locals := 12 } : Room) (PC D cI cJ cZ en ([.ref q_t] : List Value) [(q_t, .inr (1, [.null, .null, .null, .null, .null, .null, .null, .int 0, .int 0]))] sz) (QN D cI cJ cZ (fun u => [(q_t, .inr (1, [.ref (u 0), .ref (u 1), .ref (u 2), .ref (u 3), .ref (u 4), .ref (u 5), .ref (u 6), .int 0, .int 0])), ((u 0), .inl (cI, 36, .inl (fun _ => 0))), ((u 1), .inl (cI, 20, .inl (fun _ => 0))), ((u 2), .inl (cI, 20, .inl (fun _ => 0))), ((u 3), .inl (cZ, 20, .inl (fun _ => 0))), ((u 4), .inl (cI, 20, .inl (fun _ => 0))), ((u 5), .inl (cI, 12, .inl (fun _ => 0))), ((u 6), .inl (cI, 12, .inl (fun _ => 0)))]) (va_A [(q_t, .inr (1, [.null, .null, .null, .null, .null, .null, .null, .int 0, .int 0]))] sz)) 7 140 (va_A [(q_t, .inr (1, [.null, .null, .null, .null, .null, .null, .null, .int 0, .int 0]))] sz) := by
  refine mk_metN (y := yX1_init) (cc := cX1_init) (maxL := 1) (ret := none) (av := ([.ref q_t] : List Value)) (sz := sz) (Qc := fun A => QN D cI cJ cZ (fun u => [(q_t, .inr (1, [.ref (u 0), .ref (u 1), .ref (u 2), .ref (u 3), .ref (u 4), .ref (u 5), .ref (u 6), .int 0, .int 0])), ((u 0), .inl (cI, 36, .inl (fun _ => 0))), ((u 1), .inl (cI, 20, .inl (fun _ => 0))), ((u 2), .inl (cI, 20, .inl (fun _ => 0))), ((u 3), .inl (cZ, 20, .inl (fun _ => 0))), ((u 4), .inl (cI, 20, .inl (fun _ => 0))), ((u 5), .inl (cI, 12, .inl (fun _ => 0))), ((u 6), .inl (cI, 12, .inl (fun _ => 0)))]) A) RX1 (by decide) rfl (Nat.le_of_ble_eq_true rfl) ?_
  intro p e s m below meth c ls A hx hb hr hml hown hts hlocks hin hA hK hE hl hD H locs hP hS
  have hl : lv_has ls 1 [(0, .ref q_t)] := hl
  have hin : meth.name = "<init>" := hin
  refine lv_aload_n hx hb dX1_init_0 rfl (lv_at hl 0 rfl) ?_
  refine W.objInit hx hb hown (hts _ w_177) (hts _ w_81) (hts _ w_82) rfl (by rw [hml]; exact hl.1) rfl dX1_init_1 (by decide) (Nat.le_of_ble_eq_true rfl) ?_
  refine W.eq (g2 := F0 m 4 ls []) rfl ?_
  refine lv_aload_n hx hb dX1_init_4 rfl (lv_at hl 0 rfl) ?_
  refine lv_bipush (v := 36) hx hb dX1_init_5 (by decide) ?_
  refine nwa (atype := .int) (ty := .int) (cA0 := cI) (a0 := (36, .inl (fun _ => 0))) (N := 36) hx hb (hts _ w_97) rfl 0 rfl un_int hK hP hD hS hA (fun _ => rfl) (by decide) (by decide) (by decide) (by decide) (by decide) dX1_init_7 (fun q_1 H hP hD hS => ?_)
  have hP : va_P D vwCl [(q_t, .inr (1, [.null, .null, .null, .null, .null, .null, .null, .int 0, .int 0])), (q_1, .inl (cI, 36, .inl (fun _ => 0)))] H := hP
  have hD : va_D A [(q_t, .inr (1, [.null, .null, .null, .null, .null, .null, .null, .int 0, .int 0])), (q_1, .inl (cI, 36, .inl (fun _ => 0)))] := hD
  refine W.widen (k := 1) (n := 36) (by decide) (by decide) ?_
  refine va_putF (D := D) (ci := 1) (v := .ref q_1) (ty := .array .int) (C := RX1) (T := TX1) (N := 9) hx hb hts inX1 tyX1 tyX1_ok nmX1 hown hK hP hD hS 0 rfl rfl 0 (by decide) (hts _ w_178) (fun _ h9 => h9) rfl hin rfl (by decide +kernel) rfl rfl (Nat.le_of_ble_eq_true rfl) dX1_init_9 (fun H locs hP hD hS => ?_)
  have hP : va_P D vwCl [(q_t, .inr (1, [.ref q_1, .null, .null, .null, .null, .null, .null, .int 0, .int 0])), (q_1, .inl (cI, 36, .inl (fun _ => 0)))] H := hP
  have hD : va_D A [(q_t, .inr (1, [.ref q_1, .null, .null, .null, .null, .null, .null, .int 0, .int 0])), (q_1, .inl (cI, 36, .inl (fun _ => 0)))] := hD
  refine lv_aload_n hx hb dX1_init_12 rfl (lv_at hl 0 rfl) ?_
  refine lv_bipush (v := 20) hx hb dX1_init_13 (by decide) ?_
  refine nwa (atype := .int) (ty := .int) (cA0 := cI) (a0 := (20, .inl (fun _ => 0))) (N := 20) hx hb (hts _ w_97) rfl 0 rfl un_int hK hP hD hS hA (fun _ => rfl) (by decide) (by decide) (by decide) (by decide) (by decide) dX1_init_15 (fun q_2 H hP hD hS => ?_)
  have hP : va_P D vwCl [(q_t, .inr (1, [.ref q_1, .null, .null, .null, .null, .null, .null, .int 0, .int 0])), (q_1, .inl (cI, 36, .inl (fun _ => 0))), (q_2, .inl (cI, 20, .inl (fun _ => 0)))] H := hP
  have hD : va_D A [(q_t, .inr (1, [.ref q_1, .null, .null, .null, .null, .null, .null, .int 0, .int 0])), (q_1, .inl (cI, 36, .inl (fun _ => 0))), (q_2, .inl (cI, 20, .inl (fun _ => 0)))] := hD
  refine W.widen (k := 2) (n := 56) (by decide) (by decide) ?_
  refine va_putF (D := D) (ci := 1) (v := .ref q_2) (ty := .array .int) (C := RX1) (T := TX1) (N := 9) hx hb hts inX1 tyX1 tyX1_ok nmX1 hown hK hP hD hS 0 rfl rfl 1 (by decide) (hts _ w_179) (fun _ h9 => h9) rfl hin rfl (by decide +kernel) rfl rfl (Nat.le_of_ble_eq_true rfl) dX1_init_17 (fun H locs hP hD hS => ?_)
  have hP : va_P D vwCl [(q_t, .inr (1, [.ref q_1, .ref q_2, .null, .null, .null, .null, .null, .int 0, .int 0])), (q_1, .inl (cI, 36, .inl (fun _ => 0))), (q_2, .inl (cI, 20, .inl (fun _ => 0)))] H := hP
  have hD : va_D A [(q_t, .inr (1, [.ref q_1, .ref q_2, .null, .null, .null, .null, .null, .int 0, .int 0])), (q_1, .inl (cI, 36, .inl (fun _ => 0))), (q_2, .inl (cI, 20, .inl (fun _ => 0)))] := hD
  refine lv_aload_n hx hb dX1_init_20 rfl (lv_at hl 0 rfl) ?_
  refine lv_bipush (v := 20) hx hb dX1_init_21 (by decide) ?_
  refine nwa (atype := .int) (ty := .int) (cA0 := cI) (a0 := (20, .inl (fun _ => 0))) (N := 20) hx hb (hts _ w_97) rfl 0 rfl un_int hK hP hD hS hA (fun _ => rfl) (by decide) (by decide) (by decide) (by decide) (by decide) dX1_init_23 (fun q_3 H hP hD hS => ?_)
  have hP : va_P D vwCl [(q_t, .inr (1, [.ref q_1, .ref q_2, .null, .null, .null, .null, .null, .int 0, .int 0])), (q_1, .inl (cI, 36, .inl (fun _ => 0))), (q_2, .inl (cI, 20, .inl (fun _ => 0))), (q_3, .inl (cI, 20, .inl (fun _ => 0)))] H := hP
  have hD : va_D A [(q_t, .inr (1, [.ref q_1, .ref q_2, .null, .null, .null, .null, .null, .int 0, .int 0])), (q_1, .inl (cI, 36, .inl (fun _ => 0))), (q_2, .inl (cI, 20, .inl (fun _ => 0))), (q_3, .inl (cI, 20, .inl (fun _ => 0)))] := hD
  refine W.widen (k := 3) (n := 76) (by decide) (by decide) ?_
  refine va_putF (D := D) (ci := 1) (v := .ref q_3) (ty := .array .int) (C := RX1) (T := TX1) (N := 9) hx hb hts inX1 tyX1 tyX1_ok nmX1 hown hK hP hD hS 0 rfl rfl 2 (by decide) (hts _ w_180) (fun _ h9 => h9) rfl hin rfl (by decide +kernel) rfl rfl (Nat.le_of_ble_eq_true rfl) dX1_init_25 (fun H locs hP hD hS => ?_)
  have hP : va_P D vwCl [(q_t, .inr (1, [.ref q_1, .ref q_2, .ref q_3, .null, .null, .null, .null, .int 0, .int 0])), (q_1, .inl (cI, 36, .inl (fun _ => 0))), (q_2, .inl (cI, 20, .inl (fun _ => 0))), (q_3, .inl (cI, 20, .inl (fun _ => 0)))] H := hP
  have hD : va_D A [(q_t, .inr (1, [.ref q_1, .ref q_2, .ref q_3, .null, .null, .null, .null, .int 0, .int 0])), (q_1, .inl (cI, 36, .inl (fun _ => 0))), (q_2, .inl (cI, 20, .inl (fun _ => 0))), (q_3, .inl (cI, 20, .inl (fun _ => 0)))] := hD
  refine lv_aload_n hx hb dX1_init_28 rfl (lv_at hl 0 rfl) ?_
  refine lv_bipush (v := 20) hx hb dX1_init_29 (by decide) ?_
  refine nwa (atype := .boolean) (ty := .boolean) (cA0 := cZ) (a0 := (20, .inl (fun _ => 0))) (N := 20) hx hb (hts _ w_209) rfl 2 rfl un_bool hK hP hD hS hA (fun _ => rfl) (by decide) (by decide) (by decide) (by decide) (by decide) dX1_init_31 (fun q_4 H hP hD hS => ?_)
  have hP : va_P D vwCl [(q_t, .inr (1, [.ref q_1, .ref q_2, .ref q_3, .null, .null, .null, .null, .int 0, .int 0])), (q_1, .inl (cI, 36, .inl (fun _ => 0))), (q_2, .inl (cI, 20, .inl (fun _ => 0))), (q_3, .inl (cI, 20, .inl (fun _ => 0))), (q_4, .inl (cZ, 20, .inl (fun _ => 0)))] H := hP
  have hD : va_D A [(q_t, .inr (1, [.ref q_1, .ref q_2, .ref q_3, .null, .null, .null, .null, .int 0, .int 0])), (q_1, .inl (cI, 36, .inl (fun _ => 0))), (q_2, .inl (cI, 20, .inl (fun _ => 0))), (q_3, .inl (cI, 20, .inl (fun _ => 0))), (q_4, .inl (cZ, 20, .inl (fun _ => 0)))] := hD
  refine W.widen (k := 4) (n := 96) (by decide) (by decide) ?_
  refine va_putF (D := D) (ci := 1) (v := .ref q_4) (ty := .array .boolean) (C := RX1) (T := TX1) (N := 9) hx hb hts inX1 tyX1 tyX1_ok nmX1 hown hK hP hD hS 0 rfl rfl 3 (by decide) (hts _ w_181) (fun _ h9 => h9) rfl hin rfl (by decide +kernel) rfl rfl (Nat.le_of_ble_eq_true rfl) dX1_init_33 (fun H locs hP hD hS => ?_)
  have hP : va_P D vwCl [(q_t, .inr (1, [.ref q_1, .ref q_2, .ref q_3, .ref q_4, .null, .null, .null, .int 0, .int 0])), (q_1, .inl (cI, 36, .inl (fun _ => 0))), (q_2, .inl (cI, 20, .inl (fun _ => 0))), (q_3, .inl (cI, 20, .inl (fun _ => 0))), (q_4, .inl (cZ, 20, .inl (fun _ => 0)))] H := hP
  have hD : va_D A [(q_t, .inr (1, [.ref q_1, .ref q_2, .ref q_3, .ref q_4, .null, .null, .null, .int 0, .int 0])), (q_1, .inl (cI, 36, .inl (fun _ => 0))), (q_2, .inl (cI, 20, .inl (fun _ => 0))), (q_3, .inl (cI, 20, .inl (fun _ => 0))), (q_4, .inl (cZ, 20, .inl (fun _ => 0)))] := hD
  refine lv_aload_n hx hb dX1_init_36 rfl (lv_at hl 0 rfl) ?_
  refine lv_bipush (v := 20) hx hb dX1_init_37 (by decide) ?_
  refine nwa (atype := .int) (ty := .int) (cA0 := cI) (a0 := (20, .inl (fun _ => 0))) (N := 20) hx hb (hts _ w_97) rfl 0 rfl un_int hK hP hD hS hA (fun _ => rfl) (by decide) (by decide) (by decide) (by decide) (by decide) dX1_init_39 (fun q_5 H hP hD hS => ?_)
  have hP : va_P D vwCl [(q_t, .inr (1, [.ref q_1, .ref q_2, .ref q_3, .ref q_4, .null, .null, .null, .int 0, .int 0])), (q_1, .inl (cI, 36, .inl (fun _ => 0))), (q_2, .inl (cI, 20, .inl (fun _ => 0))), (q_3, .inl (cI, 20, .inl (fun _ => 0))), (q_4, .inl (cZ, 20, .inl (fun _ => 0))), (q_5, .inl (cI, 20, .inl (fun _ => 0)))] H := hP
  have hD : va_D A [(q_t, .inr (1, [.ref q_1, .ref q_2, .ref q_3, .ref q_4, .null, .null, .null, .int 0, .int 0])), (q_1, .inl (cI, 36, .inl (fun _ => 0))), (q_2, .inl (cI, 20, .inl (fun _ => 0))), (q_3, .inl (cI, 20, .inl (fun _ => 0))), (q_4, .inl (cZ, 20, .inl (fun _ => 0))), (q_5, .inl (cI, 20, .inl (fun _ => 0)))] := hD
  refine W.widen (k := 5) (n := 116) (by decide) (by decide) ?_
  refine va_putF (D := D) (ci := 1) (v := .ref q_5) (ty := .array .int) (C := RX1) (T := TX1) (N := 9) hx hb hts inX1 tyX1 tyX1_ok nmX1 hown hK hP hD hS 0 rfl rfl 4 (by decide) (hts _ w_182) (fun _ h9 => h9) rfl hin rfl (by decide +kernel) rfl rfl (Nat.le_of_ble_eq_true rfl) dX1_init_41 (fun H locs hP hD hS => ?_)
  have hP : va_P D vwCl [(q_t, .inr (1, [.ref q_1, .ref q_2, .ref q_3, .ref q_4, .ref q_5, .null, .null, .int 0, .int 0])), (q_1, .inl (cI, 36, .inl (fun _ => 0))), (q_2, .inl (cI, 20, .inl (fun _ => 0))), (q_3, .inl (cI, 20, .inl (fun _ => 0))), (q_4, .inl (cZ, 20, .inl (fun _ => 0))), (q_5, .inl (cI, 20, .inl (fun _ => 0)))] H := hP
  have hD : va_D A [(q_t, .inr (1, [.ref q_1, .ref q_2, .ref q_3, .ref q_4, .ref q_5, .null, .null, .int 0, .int 0])), (q_1, .inl (cI, 36, .inl (fun _ => 0))), (q_2, .inl (cI, 20, .inl (fun _ => 0))), (q_3, .inl (cI, 20, .inl (fun _ => 0))), (q_4, .inl (cZ, 20, .inl (fun _ => 0))), (q_5, .inl (cI, 20, .inl (fun _ => 0)))] := hD
  refine lv_aload_n hx hb dX1_init_44 rfl (lv_at hl 0 rfl) ?_
  refine lv_bipush (v := 12) hx hb dX1_init_45 (by decide) ?_
  refine nwa (atype := .int) (ty := .int) (cA0 := cI) (a0 := (12, .inl (fun _ => 0))) (N := 12) hx hb (hts _ w_97) rfl 0 rfl un_int hK hP hD hS hA (fun _ => rfl) (by decide) (by decide) (by decide) (by decide) (by decide) dX1_init_47 (fun q_6 H hP hD hS => ?_)
  have hP : va_P D vwCl [(q_t, .inr (1, [.ref q_1, .ref q_2, .ref q_3, .ref q_4, .ref q_5, .null, .null, .int 0, .int 0])), (q_1, .inl (cI, 36, .inl (fun _ => 0))), (q_2, .inl (cI, 20, .inl (fun _ => 0))), (q_3, .inl (cI, 20, .inl (fun _ => 0))), (q_4, .inl (cZ, 20, .inl (fun _ => 0))), (q_5, .inl (cI, 20, .inl (fun _ => 0))), (q_6, .inl (cI, 12, .inl (fun _ => 0)))] H := hP
  have hD : va_D A [(q_t, .inr (1, [.ref q_1, .ref q_2, .ref q_3, .ref q_4, .ref q_5, .null, .null, .int 0, .int 0])), (q_1, .inl (cI, 36, .inl (fun _ => 0))), (q_2, .inl (cI, 20, .inl (fun _ => 0))), (q_3, .inl (cI, 20, .inl (fun _ => 0))), (q_4, .inl (cZ, 20, .inl (fun _ => 0))), (q_5, .inl (cI, 20, .inl (fun _ => 0))), (q_6, .inl (cI, 12, .inl (fun _ => 0)))] := hD
  refine W.widen (k := 6) (n := 128) (by decide) (by decide) ?_
  refine va_putF (D := D) (ci := 1) (v := .ref q_6) (ty := .array .int) (C := RX1) (T := TX1) (N := 9) hx hb hts inX1 tyX1 tyX1_ok nmX1 hown hK hP hD hS 0 rfl rfl 5 (by decide) (hts _ w_183) (fun _ h9 => h9) rfl hin rfl (by decide +kernel) rfl rfl (Nat.le_of_ble_eq_true rfl) dX1_init_49 (fun H locs hP hD hS => ?_)
  have hP : va_P D vwCl [(q_t, .inr (1, [.ref q_1, .ref q_2, .ref q_3, .ref q_4, .ref q_5, .ref q_6, .null, .int 0, .int 0])), (q_1, .inl (cI, 36, .inl (fun _ => 0))), (q_2, .inl (cI, 20, .inl (fun _ => 0))), (q_3, .inl (cI, 20, .inl (fun _ => 0))), (q_4, .inl (cZ, 20, .inl (fun _ => 0))), (q_5, .inl (cI, 20, .inl (fun _ => 0))), (q_6, .inl (cI, 12, .inl (fun _ => 0)))] H := hP
  have hD : va_D A [(q_t, .inr (1, [.ref q_1, .ref q_2, .ref q_3, .ref q_4, .ref q_5, .ref q_6, .null, .int 0, .int 0])), (q_1, .inl (cI, 36, .inl (fun _ => 0))), (q_2, .inl (cI, 20, .inl (fun _ => 0))), (q_3, .inl (cI, 20, .inl (fun _ => 0))), (q_4, .inl (cZ, 20, .inl (fun _ => 0))), (q_5, .inl (cI, 20, .inl (fun _ => 0))), (q_6, .inl (cI, 12, .inl (fun _ => 0)))] := hD
  refine lv_aload_n hx hb dX1_init_52 rfl (lv_at hl 0 rfl) ?_
  refine lv_bipush (v := 12) hx hb dX1_init_53 (by decide) ?_
  refine nwa (atype := .int) (ty := .int) (cA0 := cI) (a0 := (12, .inl (fun _ => 0))) (N := 12) hx hb (hts _ w_97) rfl 0 rfl un_int hK hP hD hS hA (fun _ => rfl) (by decide) (by decide) (by decide) (by decide) (by decide) dX1_init_55 (fun q_7 H hP hD hS => ?_)
  have hP : va_P D vwCl [(q_t, .inr (1, [.ref q_1, .ref q_2, .ref q_3, .ref q_4, .ref q_5, .ref q_6, .null, .int 0, .int 0])), (q_1, .inl (cI, 36, .inl (fun _ => 0))), (q_2, .inl (cI, 20, .inl (fun _ => 0))), (q_3, .inl (cI, 20, .inl (fun _ => 0))), (q_4, .inl (cZ, 20, .inl (fun _ => 0))), (q_5, .inl (cI, 20, .inl (fun _ => 0))), (q_6, .inl (cI, 12, .inl (fun _ => 0))), (q_7, .inl (cI, 12, .inl (fun _ => 0)))] H := hP
  have hD : va_D A [(q_t, .inr (1, [.ref q_1, .ref q_2, .ref q_3, .ref q_4, .ref q_5, .ref q_6, .null, .int 0, .int 0])), (q_1, .inl (cI, 36, .inl (fun _ => 0))), (q_2, .inl (cI, 20, .inl (fun _ => 0))), (q_3, .inl (cI, 20, .inl (fun _ => 0))), (q_4, .inl (cZ, 20, .inl (fun _ => 0))), (q_5, .inl (cI, 20, .inl (fun _ => 0))), (q_6, .inl (cI, 12, .inl (fun _ => 0))), (q_7, .inl (cI, 12, .inl (fun _ => 0)))] := hD
  refine W.widen (k := 7) (n := 140) (by decide) (by decide) ?_
  refine va_putF (D := D) (ci := 1) (v := .ref q_7) (ty := .array .int) (C := RX1) (T := TX1) (N := 9) hx hb hts inX1 tyX1 tyX1_ok nmX1 hown hK hP hD hS 0 rfl rfl 6 (by decide) (hts _ w_184) (fun _ h9 => h9) rfl hin rfl (by decide +kernel) rfl rfl (Nat.le_of_ble_eq_true rfl) dX1_init_57 (fun H locs hP hD hS => ?_)
  have hP : va_P D vwCl [(q_t, .inr (1, [.ref q_1, .ref q_2, .ref q_3, .ref q_4, .ref q_5, .ref q_6, .ref q_7, .int 0, .int 0])), (q_1, .inl (cI, 36, .inl (fun _ => 0))), (q_2, .inl (cI, 20, .inl (fun _ => 0))), (q_3, .inl (cI, 20, .inl (fun _ => 0))), (q_4, .inl (cZ, 20, .inl (fun _ => 0))), (q_5, .inl (cI, 20, .inl (fun _ => 0))), (q_6, .inl (cI, 12, .inl (fun _ => 0))), (q_7, .inl (cI, 12, .inl (fun _ => 0)))] H := hP
  have hD : va_D A [(q_t, .inr (1, [.ref q_1, .ref q_2, .ref q_3, .ref q_4, .ref q_5, .ref q_6, .ref q_7, .int 0, .int 0])), (q_1, .inl (cI, 36, .inl (fun _ => 0))), (q_2, .inl (cI, 20, .inl (fun _ => 0))), (q_3, .inl (cI, 20, .inl (fun _ => 0))), (q_4, .inl (cZ, 20, .inl (fun _ => 0))), (q_5, .inl (cI, 20, .inl (fun _ => 0))), (q_6, .inl (cI, 12, .inl (fun _ => 0))), (q_7, .inl (cI, 12, .inl (fun _ => 0)))] := hD
  refine lv_aload_n hx hb dX1_init_60 rfl (lv_at hl 0 rfl) ?_
  refine lv_iconst (v := 0) hx hb dX1_init_61 (by decide) ?_
  refine va_put (D := D) (ci := 1) (v := .int 0) (ty := .int) (C := RX1) (T := TX1) (N := 9) hx hb hts inX1 tyX1 tyX1_ok nmX1 hown hK hP hD hS 0 rfl rfl 7 (by decide) (hts _ w_185) (fun _ h9 => h9) rfl (by decide +kernel) rfl rfl (Nat.le_of_ble_eq_true rfl) dX1_init_62 (fun H locs hP hD hS => ?_)
  have hP : va_P D vwCl [(q_t, .inr (1, [.ref q_1, .ref q_2, .ref q_3, .ref q_4, .ref q_5, .ref q_6, .ref q_7, .int 0, .int 0])), (q_1, .inl (cI, 36, .inl (fun _ => 0))), (q_2, .inl (cI, 20, .inl (fun _ => 0))), (q_3, .inl (cI, 20, .inl (fun _ => 0))), (q_4, .inl (cZ, 20, .inl (fun _ => 0))), (q_5, .inl (cI, 20, .inl (fun _ => 0))), (q_6, .inl (cI, 12, .inl (fun _ => 0))), (q_7, .inl (cI, 12, .inl (fun _ => 0)))] H := hP
  have hD : va_D A [(q_t, .inr (1, [.ref q_1, .ref q_2, .ref q_3, .ref q_4, .ref q_5, .ref q_6, .ref q_7, .int 0, .int 0])), (q_1, .inl (cI, 36, .inl (fun _ => 0))), (q_2, .inl (cI, 20, .inl (fun _ => 0))), (q_3, .inl (cI, 20, .inl (fun _ => 0))), (q_4, .inl (cZ, 20, .inl (fun _ => 0))), (q_5, .inl (cI, 20, .inl (fun _ => 0))), (q_6, .inl (cI, 12, .inl (fun _ => 0))), (q_7, .inl (cI, 12, .inl (fun _ => 0)))] := hD
  refine lv_aload_n hx hb dX1_init_65 rfl (lv_at hl 0 rfl) ?_
  refine lv_iconst (v := 0) hx hb dX1_init_66 (by decide) ?_
  refine va_put (D := D) (ci := 1) (v := .int 0) (ty := .int) (C := RX1) (T := TX1) (N := 9) hx hb hts inX1 tyX1 tyX1_ok nmX1 hown hK hP hD hS 0 rfl rfl 8 (by decide) (hts _ w_187) (fun _ h9 => h9) rfl (by decide +kernel) rfl rfl (Nat.le_of_ble_eq_true rfl) dX1_init_67 (fun H locs hP hD hS => ?_)
  have hP : va_P D vwCl [(q_t, .inr (1, [.ref q_1, .ref q_2, .ref q_3, .ref q_4, .ref q_5, .ref q_6, .ref q_7, .int 0, .int 0])), (q_1, .inl (cI, 36, .inl (fun _ => 0))), (q_2, .inl (cI, 20, .inl (fun _ => 0))), (q_3, .inl (cI, 20, .inl (fun _ => 0))), (q_4, .inl (cZ, 20, .inl (fun _ => 0))), (q_5, .inl (cI, 20, .inl (fun _ => 0))), (q_6, .inl (cI, 12, .inl (fun _ => 0))), (q_7, .inl (cI, 12, .inl (fun _ => 0)))] H := hP
  have hD : va_D A [(q_t, .inr (1, [.ref q_1, .ref q_2, .ref q_3, .ref q_4, .ref q_5, .ref q_6, .ref q_7, .int 0, .int 0])), (q_1, .inl (cI, 36, .inl (fun _ => 0))), (q_2, .inl (cI, 20, .inl (fun _ => 0))), (q_3, .inl (cI, 20, .inl (fun _ => 0))), (q_4, .inl (cZ, 20, .inl (fun _ => 0))), (q_5, .inl (cI, 20, .inl (fun _ => 0))), (q_6, .inl (cI, 12, .inl (fun _ => 0))), (q_7, .inl (cI, 12, .inl (fun _ => 0)))] := hD
  exact rtN (fun i => ([q_1, q_2, q_3, q_4, q_5, q_6, q_7] : List Nat).getD i 0) hx hb hr hlocks hK hP hD hS dX1_init_70

set_option maxHeartbeats 4000000 in
set_option maxRecDepth 100000 in
theorem c_X2_init (l : Launch) (D : va_G) (cI cJ cZ : ClassId) (en : EnT) (q_t sz : Nat) {g36 g6 : Nat → Int32} (h36 : f_J7_fill_53178 36 (fun _ => 0) (-1) = some g36) (h6 : f_J7_fill_53178 6 (fun _ => 0) (-1) = some g6) : Met l yX2_init (Cond.code yX2_init cX2_init 1 none :: lw_g) ({ frames := 1, cells := 3, slots := 60, locals := 23 } : Room) (PC D cI cJ cZ en ([.ref q_t] : List Value) [(q_t, .inr (2, [.int 0, .int 0, .int 0, .int 0, .int 0, .int 0, .null, .null, .null]))] sz) (QN D cI cJ cZ (fun u => [(q_t, .inr (2, [.int 4, .int 4, .int 1, .int 0, .int 0, .int 1, .ref (u 0), .ref (u 1), .ref (u 2)])), ((u 0), .inl (cI, 36, .inl g36)), ((u 1), .inl (cI, 6, .inl g6)), ((u 2), .inl (cI, 18, .inl (fun _ => 0)))]) (va_A [(q_t, .inr (2, [.int 0, .int 0, .int 0, .int 0, .int 0, .int 0, .null, .null, .null]))] sz)) 3 60 (va_A [(q_t, .inr (2, [.int 0, .int 0, .int 0, .int 0, .int 0, .int 0, .null, .null, .null]))] sz) := by
  refine mk_metN (y := yX2_init) (cc := cX2_init) (maxL := 1) (ret := none) (av := ([.ref q_t] : List Value)) (sz := sz) (Qc := fun A => QN D cI cJ cZ (fun u => [(q_t, .inr (2, [.int 4, .int 4, .int 1, .int 0, .int 0, .int 1, .ref (u 0), .ref (u 1), .ref (u 2)])), ((u 0), .inl (cI, 36, .inl g36)), ((u 1), .inl (cI, 6, .inl g6)), ((u 2), .inl (cI, 18, .inl (fun _ => 0)))]) A) RX2 (by decide) rfl (Nat.le_of_ble_eq_true rfl) ?_
  intro p e s m below meth c ls A hx hb hr hml hown hts hlocks hin hA hK hE hl hD H locs hP hS
  have hl : lv_has ls 1 [(0, .ref q_t)] := hl
  have hin : meth.name = "<init>" := hin
  refine lv_aload_n hx hb dX2_init_0 rfl (lv_at hl 0 rfl) ?_
  refine W.objInit hx hb hown (hts _ w_129) (hts _ w_81) (hts _ w_82) rfl (by rw [hml]; exact hl.1) rfl dX2_init_1 (by decide) (Nat.le_of_ble_eq_true rfl) ?_
  refine W.eq (g2 := F0 m 4 ls []) rfl ?_
  refine lv_aload_n hx hb dX2_init_4 rfl (lv_at hl 0 rfl) ?_
  refine lv_iconst (v := 4) hx hb dX2_init_5 (by decide) ?_
  refine va_put (D := D) (ci := 2) (v := .int 4) (ty := .int) (C := RX2) (T := TX2) (N := 9) hx hb hts inX2 tyX2 tyX2_ok nmX2 hown hK hP hD hS 0 rfl rfl 0 (by decide) (hts _ w_133) (fun _ h9 => h9) rfl (by decide +kernel) rfl rfl (Nat.le_of_ble_eq_true rfl) dX2_init_6 (fun H locs hP hD hS => ?_)
  have hP : va_P D vwCl [(q_t, .inr (2, [.int 4, .int 0, .int 0, .int 0, .int 0, .int 0, .null, .null, .null]))] H := hP
  have hD : va_D A [(q_t, .inr (2, [.int 4, .int 0, .int 0, .int 0, .int 0, .int 0, .null, .null, .null]))] := hD
  refine lv_aload_n hx hb dX2_init_9 rfl (lv_at hl 0 rfl) ?_
  refine lv_iconst (v := 4) hx hb dX2_init_10 (by decide) ?_
  refine va_put (D := D) (ci := 2) (v := .int 4) (ty := .int) (C := RX2) (T := TX2) (N := 9) hx hb hts inX2 tyX2 tyX2_ok nmX2 hown hK hP hD hS 0 rfl rfl 1 (by decide) (hts _ w_136) (fun _ h9 => h9) rfl (by decide +kernel) rfl rfl (Nat.le_of_ble_eq_true rfl) dX2_init_11 (fun H locs hP hD hS => ?_)
  have hP : va_P D vwCl [(q_t, .inr (2, [.int 4, .int 4, .int 0, .int 0, .int 0, .int 0, .null, .null, .null]))] H := hP
  have hD : va_D A [(q_t, .inr (2, [.int 4, .int 4, .int 0, .int 0, .int 0, .int 0, .null, .null, .null]))] := hD
  refine lv_aload_n hx hb dX2_init_14 rfl (lv_at hl 0 rfl) ?_
  refine lv_iconst (v := 1) hx hb dX2_init_15 (by decide) ?_
  refine va_put (D := D) (ci := 2) (v := .int 1) (ty := .int) (C := RX2) (T := TX2) (N := 9) hx hb hts inX2 tyX2 tyX2_ok nmX2 hown hK hP hD hS 0 rfl rfl 2 (by decide) (hts _ w_139) (fun _ h9 => h9) rfl (by decide +kernel) rfl rfl (Nat.le_of_ble_eq_true rfl) dX2_init_16 (fun H locs hP hD hS => ?_)
  have hP : va_P D vwCl [(q_t, .inr (2, [.int 4, .int 4, .int 1, .int 0, .int 0, .int 0, .null, .null, .null]))] H := hP
  have hD : va_D A [(q_t, .inr (2, [.int 4, .int 4, .int 1, .int 0, .int 0, .int 0, .null, .null, .null]))] := hD
  refine lv_aload_n hx hb dX2_init_19 rfl (lv_at hl 0 rfl) ?_
  refine lv_iconst (v := 0) hx hb dX2_init_20 (by decide) ?_
  refine va_put (D := D) (ci := 2) (v := .int 0) (ty := .int) (C := RX2) (T := TX2) (N := 9) hx hb hts inX2 tyX2 tyX2_ok nmX2 hown hK hP hD hS 0 rfl rfl 3 (by decide) (hts _ w_143) (fun _ h9 => h9) rfl (by decide +kernel) rfl rfl (Nat.le_of_ble_eq_true rfl) dX2_init_21 (fun H locs hP hD hS => ?_)
  have hP : va_P D vwCl [(q_t, .inr (2, [.int 4, .int 4, .int 1, .int 0, .int 0, .int 0, .null, .null, .null]))] H := hP
  have hD : va_D A [(q_t, .inr (2, [.int 4, .int 4, .int 1, .int 0, .int 0, .int 0, .null, .null, .null]))] := hD
  refine lv_aload_n hx hb dX2_init_24 rfl (lv_at hl 0 rfl) ?_
  refine lv_iconst (v := 0) hx hb dX2_init_25 (by decide) ?_
  refine va_put (D := D) (ci := 2) (v := .int 0) (ty := .int) (C := RX2) (T := TX2) (N := 9) hx hb hts inX2 tyX2 tyX2_ok nmX2 hown hK hP hD hS 0 rfl rfl 4 (by decide) (hts _ w_146) (fun _ h9 => h9) rfl (by decide +kernel) rfl rfl (Nat.le_of_ble_eq_true rfl) dX2_init_26 (fun H locs hP hD hS => ?_)
  have hP : va_P D vwCl [(q_t, .inr (2, [.int 4, .int 4, .int 1, .int 0, .int 0, .int 0, .null, .null, .null]))] H := hP
  have hD : va_D A [(q_t, .inr (2, [.int 4, .int 4, .int 1, .int 0, .int 0, .int 0, .null, .null, .null]))] := hD
  refine lv_aload_n hx hb dX2_init_29 rfl (lv_at hl 0 rfl) ?_
  refine lv_iconst (v := 1) hx hb dX2_init_30 (by decide) ?_
  refine va_put (D := D) (ci := 2) (v := .int 1) (ty := .int) (C := RX2) (T := TX2) (N := 9) hx hb hts inX2 tyX2 tyX2_ok nmX2 hown hK hP hD hS 0 rfl rfl 5 (by decide) (hts _ w_148) (fun _ h9 => h9) rfl (by decide +kernel) rfl rfl (Nat.le_of_ble_eq_true rfl) dX2_init_31 (fun H locs hP hD hS => ?_)
  have hP : va_P D vwCl [(q_t, .inr (2, [.int 4, .int 4, .int 1, .int 0, .int 0, .int 1, .null, .null, .null]))] H := hP
  have hD : va_D A [(q_t, .inr (2, [.int 4, .int 4, .int 1, .int 0, .int 0, .int 1, .null, .null, .null]))] := hD
  refine lv_aload_n hx hb dX2_init_34 rfl (lv_at hl 0 rfl) ?_
  refine lv_bipush (v := 36) hx hb dX2_init_35 (by decide) ?_
  refine nwa (atype := .int) (ty := .int) (cA0 := cI) (a0 := (36, .inl (fun _ => 0))) (N := 36) hx hb (hts _ w_97) rfl 0 rfl un_int hK hP hD hS hA (fun _ => rfl) (by decide) (by decide) (by decide) (by decide) (by decide) dX2_init_37 (fun q_1 H hP hD hS => ?_)
  have hP : va_P D vwCl [(q_t, .inr (2, [.int 4, .int 4, .int 1, .int 0, .int 0, .int 1, .null, .null, .null])), (q_1, .inl (cI, 36, .inl (fun _ => 0)))] H := hP
  have hD : va_D A [(q_t, .inr (2, [.int 4, .int 4, .int 1, .int 0, .int 0, .int 1, .null, .null, .null])), (q_1, .inl (cI, 36, .inl (fun _ => 0)))] := hD
  refine W.widen (k := 1) (n := 36) (by decide) (by decide) ?_
  refine va_putF (D := D) (ci := 2) (v := .ref q_1) (ty := .array .int) (C := RX2) (T := TX2) (N := 9) hx hb hts inX2 tyX2 tyX2_ok nmX2 hown hK hP hD hS 0 rfl rfl 6 (by decide) (hts _ w_150) (fun _ h9 => h9) rfl hin rfl (by decide +kernel) rfl rfl (Nat.le_of_ble_eq_true rfl) dX2_init_39 (fun H locs hP hD hS => ?_)
  have hP : va_P D vwCl [(q_t, .inr (2, [.int 4, .int 4, .int 1, .int 0, .int 0, .int 1, .ref q_1, .null, .null])), (q_1, .inl (cI, 36, .inl (fun _ => 0)))] H := hP
  have hD : va_D A [(q_t, .inr (2, [.int 4, .int 4, .int 1, .int 0, .int 0, .int 1, .ref q_1, .null, .null])), (q_1, .inl (cI, 36, .inl (fun _ => 0)))] := hD
  refine lv_aload_n hx hb dX2_init_42 rfl (lv_at hl 0 rfl) ?_
  refine lv_bipush (v := 6) hx hb dX2_init_43 (by decide) ?_
  refine nwa (atype := .int) (ty := .int) (cA0 := cI) (a0 := (6, .inl (fun _ => 0))) (N := 6) hx hb (hts _ w_97) rfl 0 rfl un_int hK hP hD hS hA (fun _ => rfl) (by decide) (by decide) (by decide) (by decide) (by decide) dX2_init_45 (fun q_2 H hP hD hS => ?_)
  have hP : va_P D vwCl [(q_t, .inr (2, [.int 4, .int 4, .int 1, .int 0, .int 0, .int 1, .ref q_1, .null, .null])), (q_1, .inl (cI, 36, .inl (fun _ => 0))), (q_2, .inl (cI, 6, .inl (fun _ => 0)))] H := hP
  have hD : va_D A [(q_t, .inr (2, [.int 4, .int 4, .int 1, .int 0, .int 0, .int 1, .ref q_1, .null, .null])), (q_1, .inl (cI, 36, .inl (fun _ => 0))), (q_2, .inl (cI, 6, .inl (fun _ => 0)))] := hD
  refine W.widen (k := 2) (n := 42) (by decide) (by decide) ?_
  refine va_putF (D := D) (ci := 2) (v := .ref q_2) (ty := .array .int) (C := RX2) (T := TX2) (N := 9) hx hb hts inX2 tyX2 tyX2_ok nmX2 hown hK hP hD hS 0 rfl rfl 7 (by decide) (hts _ w_151) (fun _ h9 => h9) rfl hin rfl (by decide +kernel) rfl rfl (Nat.le_of_ble_eq_true rfl) dX2_init_47 (fun H locs hP hD hS => ?_)
  have hP : va_P D vwCl [(q_t, .inr (2, [.int 4, .int 4, .int 1, .int 0, .int 0, .int 1, .ref q_1, .ref q_2, .null])), (q_1, .inl (cI, 36, .inl (fun _ => 0))), (q_2, .inl (cI, 6, .inl (fun _ => 0)))] H := hP
  have hD : va_D A [(q_t, .inr (2, [.int 4, .int 4, .int 1, .int 0, .int 0, .int 1, .ref q_1, .ref q_2, .null])), (q_1, .inl (cI, 36, .inl (fun _ => 0))), (q_2, .inl (cI, 6, .inl (fun _ => 0)))] := hD
  refine lv_aload_n hx hb dX2_init_50 rfl (lv_at hl 0 rfl) ?_
  refine lv_bipush (v := 18) hx hb dX2_init_51 (by decide) ?_
  refine nwa (atype := .int) (ty := .int) (cA0 := cI) (a0 := (18, .inl (fun _ => 0))) (N := 18) hx hb (hts _ w_97) rfl 0 rfl un_int hK hP hD hS hA (fun _ => rfl) (by decide) (by decide) (by decide) (by decide) (by decide) dX2_init_53 (fun q_3 H hP hD hS => ?_)
  have hP : va_P D vwCl [(q_t, .inr (2, [.int 4, .int 4, .int 1, .int 0, .int 0, .int 1, .ref q_1, .ref q_2, .null])), (q_1, .inl (cI, 36, .inl (fun _ => 0))), (q_2, .inl (cI, 6, .inl (fun _ => 0))), (q_3, .inl (cI, 18, .inl (fun _ => 0)))] H := hP
  have hD : va_D A [(q_t, .inr (2, [.int 4, .int 4, .int 1, .int 0, .int 0, .int 1, .ref q_1, .ref q_2, .null])), (q_1, .inl (cI, 36, .inl (fun _ => 0))), (q_2, .inl (cI, 6, .inl (fun _ => 0))), (q_3, .inl (cI, 18, .inl (fun _ => 0)))] := hD
  refine W.widen (k := 3) (n := 60) (by decide) (by decide) ?_
  refine va_putF (D := D) (ci := 2) (v := .ref q_3) (ty := .array .int) (C := RX2) (T := TX2) (N := 9) hx hb hts inX2 tyX2 tyX2_ok nmX2 hown hK hP hD hS 0 rfl rfl 8 (by decide) (hts _ w_152) (fun _ h9 => h9) rfl hin rfl (by decide +kernel) rfl rfl (Nat.le_of_ble_eq_true rfl) dX2_init_55 (fun H locs hP hD hS => ?_)
  have hP : va_P D vwCl [(q_t, .inr (2, [.int 4, .int 4, .int 1, .int 0, .int 0, .int 1, .ref q_1, .ref q_2, .ref q_3])), (q_1, .inl (cI, 36, .inl (fun _ => 0))), (q_2, .inl (cI, 6, .inl (fun _ => 0))), (q_3, .inl (cI, 18, .inl (fun _ => 0)))] H := hP
  have hD : va_D A [(q_t, .inr (2, [.int 4, .int 4, .int 1, .int 0, .int 0, .int 1, .ref q_1, .ref q_2, .ref q_3])), (q_1, .inl (cI, 36, .inl (fun _ => 0))), (q_2, .inl (cI, 6, .inl (fun _ => 0))), (q_3, .inl (cI, 18, .inl (fun _ => 0)))] := hD
  refine lv_aload_n hx hb dX2_init_58 rfl (lv_at hl 0 rfl) ?_
  refine va_get (D := D) (ci := 2) (v := .ref q_1) (C := RX2) (T := TX2) (N := 9) hx hb hts inX2 hown hK hP 0 rfl rfl 6 (by decide) (hts _ w_150) (fun _ h9 => h9) rfl dX2_init_59 ?_
  refine lv_iconst (v := (-1)) hx hb dX2_init_62 (by decide) ?_
  refine cSv (rest := []) ⟨hx, hb, hml, hown, hts⟩ hE hK hP hD hS hA (c_J7_fill_53178 l D cI cJ cZ en q_1 36 H.size (fun _ => 0) (-1) h36) (gs_J7_fill_53178 w_130) hd_J7_fill_53178 ⟨rfl, rfl⟩ ⟨by decide, by decide⟩ [1] (And.intro rfl trivial) rfl (And.intro rfl trivial)  hl rfl (Nat.le_of_ble_eq_true rfl) ⟨by decide, by decide⟩ dX2_init_63 (fun H locs hP hD hS => ?_)
  have hP : va_P D vwCl [(q_t, .inr (2, [.int 4, .int 4, .int 1, .int 0, .int 0, .int 1, .ref q_1, .ref q_2, .ref q_3])), (q_1, .inl (cI, 36, .inl g36)), (q_2, .inl (cI, 6, .inl (fun _ => 0))), (q_3, .inl (cI, 18, .inl (fun _ => 0)))] H := hP
  have hD : va_D A [(q_t, .inr (2, [.int 4, .int 4, .int 1, .int 0, .int 0, .int 1, .ref q_1, .ref q_2, .ref q_3])), (q_1, .inl (cI, 36, .inl g36)), (q_2, .inl (cI, 6, .inl (fun _ => 0))), (q_3, .inl (cI, 18, .inl (fun _ => 0)))] := hD
  refine lv_aload_n hx hb dX2_init_66 rfl (lv_at hl 0 rfl) ?_
  refine va_get (D := D) (ci := 2) (v := .ref q_2) (C := RX2) (T := TX2) (N := 9) hx hb hts inX2 hown hK hP 0 rfl rfl 7 (by decide) (hts _ w_151) (fun _ h9 => h9) rfl dX2_init_67 ?_
  refine lv_iconst (v := (-1)) hx hb dX2_init_70 (by decide) ?_
  refine cSv (rest := []) ⟨hx, hb, hml, hown, hts⟩ hE hK hP hD hS hA (c_J7_fill_53178 l D cI cJ cZ en q_2 6 H.size (fun _ => 0) (-1) h6) (gs_J7_fill_53178 w_130) hd_J7_fill_53178 ⟨rfl, rfl⟩ ⟨by decide, by decide⟩ [2] (And.intro rfl trivial) rfl (And.intro rfl trivial)  hl rfl (Nat.le_of_ble_eq_true rfl) ⟨by decide, by decide⟩ dX2_init_71 (fun H locs hP hD hS => ?_)
  have hP : va_P D vwCl [(q_t, .inr (2, [.int 4, .int 4, .int 1, .int 0, .int 0, .int 1, .ref q_1, .ref q_2, .ref q_3])), (q_1, .inl (cI, 36, .inl g36)), (q_2, .inl (cI, 6, .inl g6)), (q_3, .inl (cI, 18, .inl (fun _ => 0)))] H := hP
  have hD : va_D A [(q_t, .inr (2, [.int 4, .int 4, .int 1, .int 0, .int 0, .int 1, .ref q_1, .ref q_2, .ref q_3])), (q_1, .inl (cI, 36, .inl g36)), (q_2, .inl (cI, 6, .inl g6)), (q_3, .inl (cI, 18, .inl (fun _ => 0)))] := hD
  exact rtN (fun i => ([q_1, q_2, q_3] : List Nat).getD i 0) hx hb hr hlocks hK hP hD hS dX2_init_74

set_option maxHeartbeats 4000000 in
set_option maxRecDepth 100000 in
theorem c_X3_init (l : Launch) (D : va_G) (cI cJ cZ : ClassId) (en : EnT) (q_t sz : Nat) : Met l yX3_init (Cond.code yX3_init cX3_init 1 none :: lw_g) ({ frames := 1, cells := 1, slots := 36, locals := 12 } : Room) (PC D cI cJ cZ en ([.ref q_t] : List Value) [(q_t, .inr (3, [.null]))] sz) (QN D cI cJ cZ (fun u => [(q_t, .inr (3, [.ref (u 0)])), ((u 0), .inl (cJ, 36, .inr (.inl (fun _ => 0))))]) (va_A [(q_t, .inr (3, [.null]))] sz)) 1 36 (va_A [(q_t, .inr (3, [.null]))] sz) := by
  refine mk_metN (y := yX3_init) (cc := cX3_init) (maxL := 1) (ret := none) (av := ([.ref q_t] : List Value)) (sz := sz) (Qc := fun A => QN D cI cJ cZ (fun u => [(q_t, .inr (3, [.ref (u 0)])), ((u 0), .inl (cJ, 36, .inr (.inl (fun _ => 0))))]) A) RX3 (by decide) rfl (Nat.le_of_ble_eq_true rfl) ?_
  intro p e s m below meth c ls A hx hb hr hml hown hts hlocks hin hA hK hE hl hD H locs hP hS
  have hl : lv_has ls 1 [(0, .ref q_t)] := hl
  have hin : meth.name = "<init>" := hin
  refine lv_aload_n hx hb dX3_init_0 rfl (lv_at hl 0 rfl) ?_
  refine W.objInit hx hb hown (hts _ w_261) (hts _ w_81) (hts _ w_82) rfl (by rw [hml]; exact hl.1) rfl dX3_init_1 (by decide) (Nat.le_of_ble_eq_true rfl) ?_
  refine W.eq (g2 := F0 m 4 ls []) rfl ?_
  refine lv_aload_n hx hb dX3_init_4 rfl (lv_at hl 0 rfl) ?_
  refine lv_bipush (v := 36) hx hb dX3_init_5 (by decide) ?_
  refine nwa (atype := .long) (ty := .long) (cA0 := cJ) (a0 := (36, .inr (.inl (fun _ => 0)))) (N := 36) hx hb (hts _ w_266) rfl 1 rfl un_long hK hP hD hS hA (fun _ => rfl) (by decide) (by decide) (by decide) (by decide) (by decide) dX3_init_7 (fun q_1 H hP hD hS => ?_)
  have hP : va_P D vwCl [(q_t, .inr (3, [.null])), (q_1, .inl (cJ, 36, .inr (.inl (fun _ => 0))))] H := hP
  have hD : va_D A [(q_t, .inr (3, [.null])), (q_1, .inl (cJ, 36, .inr (.inl (fun _ => 0))))] := hD
  refine W.widen (k := 1) (n := 36) (by decide) (by decide) ?_
  refine va_putF (D := D) (ci := 3) (v := .ref q_1) (ty := .array .long) (C := RX3) (T := TX3) (N := 1) hx hb hts inX3 tyX3 tyX3_ok nmX3 hown hK hP hD hS 0 rfl rfl 0 (by decide) (hts _ w_262) (fun _ h9 => h9) rfl hin rfl (by decide +kernel) rfl rfl (Nat.le_of_ble_eq_true rfl) dX3_init_9 (fun H locs hP hD hS => ?_)
  have hP : va_P D vwCl [(q_t, .inr (3, [.ref q_1])), (q_1, .inl (cJ, 36, .inr (.inl (fun _ => 0))))] H := hP
  have hD : va_D A [(q_t, .inr (3, [.ref q_1])), (q_1, .inl (cJ, 36, .inr (.inl (fun _ => 0))))] := hD
  exact rtN (fun i => ([q_1] : List Nat).getD i 0) hx hb hr hlocks hK hP hD hS dX3_init_12

set_option maxHeartbeats 4000000 in
set_option maxRecDepth 100000 in
theorem c_X4_init (l : Launch) (D : va_G) (cI cJ cZ : ClassId) (en : EnT) (q_t sz : Nat) {g36 g6 : Nat → Int32} (h36 : f_J7_fill_53178 36 (fun _ => 0) (-1) = some g36) (h6 : f_J7_fill_53178 6 (fun _ => 0) (-1) = some g6) : Met l yX4_init (Cond.code yX4_init cX4_init 1 none :: lw_g) ({ frames := 2, cells := 12, slots := 218, locals := 43 } : Room) (PC D cI cJ cZ en ([.ref q_t] : List Value) [(q_t, .inr (4, [.null, .null, .int 0]))] sz) (QN D cI cJ cZ (fun u => [(q_t, .inr (4, [.ref (u 0), .ref (u 4), .int 0])), ((u 0), .inr (2, [.int 4, .int 4, .int 1, .int 0, .int 0, .int 1, .ref (u 1), .ref (u 2), .ref (u 3)])), ((u 1), .inl (cI, 36, .inl g36)), ((u 2), .inl (cI, 6, .inl g6)), ((u 3), .inl (cI, 18, .inl (fun _ => 0))), ((u 4), .inr (1, [.ref (u 5), .ref (u 6), .ref (u 7), .ref (u 8), .ref (u 9), .ref (u 10), .ref (u 11), .int 0, .int 0])), ((u 5), .inl (cI, 36, .inl (fun _ => 0))), ((u 6), .inl (cI, 20, .inl (fun _ => 0))), ((u 7), .inl (cI, 20, .inl (fun _ => 0))), ((u 8), .inl (cZ, 20, .inl (fun _ => 0))), ((u 9), .inl (cI, 20, .inl (fun _ => 0))), ((u 10), .inl (cI, 12, .inl (fun _ => 0))), ((u 11), .inl (cI, 12, .inl (fun _ => 0)))]) (va_A [(q_t, .inr (4, [.null, .null, .int 0]))] sz)) 12 218 (va_A [(q_t, .inr (4, [.null, .null, .int 0]))] sz) := by
  refine mk_metN (y := yX4_init) (cc := cX4_init) (maxL := 1) (ret := none) (av := ([.ref q_t] : List Value)) (sz := sz) (Qc := fun A => QN D cI cJ cZ (fun u => [(q_t, .inr (4, [.ref (u 0), .ref (u 4), .int 0])), ((u 0), .inr (2, [.int 4, .int 4, .int 1, .int 0, .int 0, .int 1, .ref (u 1), .ref (u 2), .ref (u 3)])), ((u 1), .inl (cI, 36, .inl g36)), ((u 2), .inl (cI, 6, .inl g6)), ((u 3), .inl (cI, 18, .inl (fun _ => 0))), ((u 4), .inr (1, [.ref (u 5), .ref (u 6), .ref (u 7), .ref (u 8), .ref (u 9), .ref (u 10), .ref (u 11), .int 0, .int 0])), ((u 5), .inl (cI, 36, .inl (fun _ => 0))), ((u 6), .inl (cI, 20, .inl (fun _ => 0))), ((u 7), .inl (cI, 20, .inl (fun _ => 0))), ((u 8), .inl (cZ, 20, .inl (fun _ => 0))), ((u 9), .inl (cI, 20, .inl (fun _ => 0))), ((u 10), .inl (cI, 12, .inl (fun _ => 0))), ((u 11), .inl (cI, 12, .inl (fun _ => 0)))]) A) RX4 (by decide) rfl (Nat.le_of_ble_eq_true rfl) ?_
  intro p e s m below meth c ls A hx hb hr hml hown hts hlocks hin hA hK hE hl hD H locs hP hS
  have hl : lv_has ls 1 [(0, .ref q_t)] := hl
  have hin : meth.name = "<init>" := hin
  refine lv_aload_n hx hb dX4_init_0 rfl (lv_at hl 0 rfl) ?_
  refine W.objInit hx hb hown (hts _ w_215) (hts _ w_81) (hts _ w_82) rfl (by rw [hml]; exact hl.1) rfl dX4_init_1 (by decide) (Nat.le_of_ble_eq_true rfl) ?_
  refine W.eq (g2 := F0 m 4 ls []) rfl ?_
  refine lv_aload_n hx hb dX4_init_4 rfl (lv_at hl 0 rfl) ?_
  refine va_new (ci := 2) (fs := [.int 0, .int 0, .int 0, .int 0, .int 0, .int 0, .null, .null, .null]) (C := RX2) (T := TX2) (N := 9) hx hb hts inX2 tyX2 tyX2_ok hown (hts _ w_216) (hts _ w_125) (hts _ w_60) hK hP hD hS hA rfl (by decide +kernel) (by decide) (by decide) dX4_init_5 (fun q_1 H hP hD hS => ?_)
  have hP : va_P D vwCl [(q_t, .inr (4, [.null, .null, .int 0])), (q_1, .inr (2, [.int 0, .int 0, .int 0, .int 0, .int 0, .int 0, .null, .null, .null]))] H := hP
  have hD : va_D A [(q_t, .inr (4, [.null, .null, .int 0])), (q_1, .inr (2, [.int 0, .int 0, .int 0, .int 0, .int 0, .int 0, .null, .null, .null]))] := hD
  refine W.widen (k := 1) (n := 9) (by decide) (by decide) ?_
  refine lv_dup hx hb dX4_init_8 rfl ?_
  refine cIn (wr := [(q_t, .inr (4, [.null, .null, .int 0]))]) (rest := [.ref q_1, .ref q_t]) ⟨hx, hb, hml, hown, hts⟩ hE hK hP hD hS hA (c_X2_init l D cI cJ cZ en q_1 H.size h36 h6) w_128 w_60 w_217 w_127 (by decide +kernel) rfl ⟨rfl, rfl⟩ ⟨by decide, by decide⟩ hl rfl (Nat.le_of_ble_eq_true rfl) ⟨by decide, by decide⟩ dX4_init_9 (fun u_2 H locs hP hD hS => ?_)
  have hP : va_P D vwCl [(q_t, .inr (4, [.null, .null, .int 0])), (q_1, .inr (2, [.int 4, .int 4, .int 1, .int 0, .int 0, .int 1, .ref (u_2 0), .ref (u_2 1), .ref (u_2 2)])), ((u_2 0), .inl (cI, 36, .inl g36)), ((u_2 1), .inl (cI, 6, .inl g6)), ((u_2 2), .inl (cI, 18, .inl (fun _ => 0)))] H := hP
  have hD : va_D A [(q_t, .inr (4, [.null, .null, .int 0])), (q_1, .inr (2, [.int 4, .int 4, .int 1, .int 0, .int 0, .int 1, .ref (u_2 0), .ref (u_2 1), .ref (u_2 2)])), ((u_2 0), .inl (cI, 36, .inl g36)), ((u_2 1), .inl (cI, 6, .inl g6)), ((u_2 2), .inl (cI, 18, .inl (fun _ => 0)))] := hD
  refine W.widen (k := 4) (n := 69) (by decide) (by decide) ?_
  refine va_putF (D := D) (ci := 4) (v := .ref q_1) (ty := .object "EchoFines$Canyon") (C := RX4) (T := TX4) (N := 3) hx hb hts inX4 tyX4 tyX4_ok nmX4 hown hK hP hD hS 0 rfl rfl 0 (by decide) (hts _ w_220) (fun _ h9 => h9) rfl hin rfl (by decide +kernel) rfl rfl (Nat.le_of_ble_eq_true rfl) dX4_init_12 (fun H locs hP hD hS => ?_)
  have hP : va_P D vwCl [(q_t, .inr (4, [.ref q_1, .null, .int 0])), (q_1, .inr (2, [.int 4, .int 4, .int 1, .int 0, .int 0, .int 1, .ref (u_2 0), .ref (u_2 1), .ref (u_2 2)])), ((u_2 0), .inl (cI, 36, .inl g36)), ((u_2 1), .inl (cI, 6, .inl g6)), ((u_2 2), .inl (cI, 18, .inl (fun _ => 0)))] H := hP
  have hD : va_D A [(q_t, .inr (4, [.ref q_1, .null, .int 0])), (q_1, .inr (2, [.int 4, .int 4, .int 1, .int 0, .int 0, .int 1, .ref (u_2 0), .ref (u_2 1), .ref (u_2 2)])), ((u_2 0), .inl (cI, 36, .inl g36)), ((u_2 1), .inl (cI, 6, .inl g6)), ((u_2 2), .inl (cI, 18, .inl (fun _ => 0)))] := hD
  refine lv_aload_n hx hb dX4_init_15 rfl (lv_at hl 0 rfl) ?_
  refine va_new (ci := 1) (fs := [.null, .null, .null, .null, .null, .null, .null, .int 0, .int 0]) (C := RX1) (T := TX1) (N := 9) hx hb hts inX1 tyX1 tyX1_ok hown (hts _ w_218) (hts _ w_173) (hts _ w_62) hK hP hD hS hA rfl (by decide +kernel) (by decide) (by decide) dX4_init_16 (fun q_3 H hP hD hS => ?_)
  have hP : va_P D vwCl [(q_t, .inr (4, [.ref q_1, .null, .int 0])), (q_1, .inr (2, [.int 4, .int 4, .int 1, .int 0, .int 0, .int 1, .ref (u_2 0), .ref (u_2 1), .ref (u_2 2)])), ((u_2 0), .inl (cI, 36, .inl g36)), ((u_2 1), .inl (cI, 6, .inl g6)), ((u_2 2), .inl (cI, 18, .inl (fun _ => 0))), (q_3, .inr (1, [.null, .null, .null, .null, .null, .null, .null, .int 0, .int 0]))] H := hP
  have hD : va_D A [(q_t, .inr (4, [.ref q_1, .null, .int 0])), (q_1, .inr (2, [.int 4, .int 4, .int 1, .int 0, .int 0, .int 1, .ref (u_2 0), .ref (u_2 1), .ref (u_2 2)])), ((u_2 0), .inl (cI, 36, .inl g36)), ((u_2 1), .inl (cI, 6, .inl g6)), ((u_2 2), .inl (cI, 18, .inl (fun _ => 0))), (q_3, .inr (1, [.null, .null, .null, .null, .null, .null, .null, .int 0, .int 0]))] := hD
  refine W.widen (k := 5) (n := 78) (by decide) (by decide) ?_
  refine lv_dup hx hb dX4_init_19 rfl ?_
  refine cInN (wr := [(q_t, .inr (4, [.ref q_1, .null, .int 0])), (q_1, .inr (2, [.int 4, .int 4, .int 1, .int 0, .int 0, .int 1, .ref (u_2 0), .ref (u_2 1), .ref (u_2 2)])), ((u_2 0), .inl (cI, 36, .inl g36)), ((u_2 1), .inl (cI, 6, .inl g6)), ((u_2 2), .inl (cI, 18, .inl (fun _ => 0)))]) (rest := [.ref q_3, .ref q_t]) (host := RX9) ⟨hx, hb, hml, hown, hts⟩ hE hK hP hD hS hA (c_X1_init l D cI cJ cZ en q_3 H.size) w_176 w_62 (by decide +kernel) w_175 (by decide +kernel) rfl ⟨rfl, rfl⟩ ⟨by decide, by decide⟩ hl rfl (Nat.le_of_ble_eq_true rfl) ⟨by decide, by decide⟩ dX4_init_20 (fun u_4 H locs hP hD hS => ?_)
  have hP : va_P D vwCl [(q_t, .inr (4, [.ref q_1, .null, .int 0])), (q_1, .inr (2, [.int 4, .int 4, .int 1, .int 0, .int 0, .int 1, .ref (u_2 0), .ref (u_2 1), .ref (u_2 2)])), ((u_2 0), .inl (cI, 36, .inl g36)), ((u_2 1), .inl (cI, 6, .inl g6)), ((u_2 2), .inl (cI, 18, .inl (fun _ => 0))), (q_3, .inr (1, [.ref (u_4 0), .ref (u_4 1), .ref (u_4 2), .ref (u_4 3), .ref (u_4 4), .ref (u_4 5), .ref (u_4 6), .int 0, .int 0])), ((u_4 0), .inl (cI, 36, .inl (fun _ => 0))), ((u_4 1), .inl (cI, 20, .inl (fun _ => 0))), ((u_4 2), .inl (cI, 20, .inl (fun _ => 0))), ((u_4 3), .inl (cZ, 20, .inl (fun _ => 0))), ((u_4 4), .inl (cI, 20, .inl (fun _ => 0))), ((u_4 5), .inl (cI, 12, .inl (fun _ => 0))), ((u_4 6), .inl (cI, 12, .inl (fun _ => 0)))] H := hP
  have hD : va_D A [(q_t, .inr (4, [.ref q_1, .null, .int 0])), (q_1, .inr (2, [.int 4, .int 4, .int 1, .int 0, .int 0, .int 1, .ref (u_2 0), .ref (u_2 1), .ref (u_2 2)])), ((u_2 0), .inl (cI, 36, .inl g36)), ((u_2 1), .inl (cI, 6, .inl g6)), ((u_2 2), .inl (cI, 18, .inl (fun _ => 0))), (q_3, .inr (1, [.ref (u_4 0), .ref (u_4 1), .ref (u_4 2), .ref (u_4 3), .ref (u_4 4), .ref (u_4 5), .ref (u_4 6), .int 0, .int 0])), ((u_4 0), .inl (cI, 36, .inl (fun _ => 0))), ((u_4 1), .inl (cI, 20, .inl (fun _ => 0))), ((u_4 2), .inl (cI, 20, .inl (fun _ => 0))), ((u_4 3), .inl (cZ, 20, .inl (fun _ => 0))), ((u_4 4), .inl (cI, 20, .inl (fun _ => 0))), ((u_4 5), .inl (cI, 12, .inl (fun _ => 0))), ((u_4 6), .inl (cI, 12, .inl (fun _ => 0)))] := hD
  refine W.widen (k := 12) (n := 218) (by decide) (by decide) ?_
  refine va_putF (D := D) (ci := 4) (v := .ref q_3) (ty := .object "EchoFines$Book") (C := RX4) (T := TX4) (N := 3) hx hb hts inX4 tyX4 tyX4_ok nmX4 hown hK hP hD hS 0 rfl rfl 1 (by decide) (hts _ w_222) (fun _ h9 => h9) rfl hin rfl (by decide +kernel) rfl rfl (Nat.le_of_ble_eq_true rfl) dX4_init_23 (fun H locs hP hD hS => ?_)
  have hP : va_P D vwCl [(q_t, .inr (4, [.ref q_1, .ref q_3, .int 0])), (q_1, .inr (2, [.int 4, .int 4, .int 1, .int 0, .int 0, .int 1, .ref (u_2 0), .ref (u_2 1), .ref (u_2 2)])), ((u_2 0), .inl (cI, 36, .inl g36)), ((u_2 1), .inl (cI, 6, .inl g6)), ((u_2 2), .inl (cI, 18, .inl (fun _ => 0))), (q_3, .inr (1, [.ref (u_4 0), .ref (u_4 1), .ref (u_4 2), .ref (u_4 3), .ref (u_4 4), .ref (u_4 5), .ref (u_4 6), .int 0, .int 0])), ((u_4 0), .inl (cI, 36, .inl (fun _ => 0))), ((u_4 1), .inl (cI, 20, .inl (fun _ => 0))), ((u_4 2), .inl (cI, 20, .inl (fun _ => 0))), ((u_4 3), .inl (cZ, 20, .inl (fun _ => 0))), ((u_4 4), .inl (cI, 20, .inl (fun _ => 0))), ((u_4 5), .inl (cI, 12, .inl (fun _ => 0))), ((u_4 6), .inl (cI, 12, .inl (fun _ => 0)))] H := hP
  have hD : va_D A [(q_t, .inr (4, [.ref q_1, .ref q_3, .int 0])), (q_1, .inr (2, [.int 4, .int 4, .int 1, .int 0, .int 0, .int 1, .ref (u_2 0), .ref (u_2 1), .ref (u_2 2)])), ((u_2 0), .inl (cI, 36, .inl g36)), ((u_2 1), .inl (cI, 6, .inl g6)), ((u_2 2), .inl (cI, 18, .inl (fun _ => 0))), (q_3, .inr (1, [.ref (u_4 0), .ref (u_4 1), .ref (u_4 2), .ref (u_4 3), .ref (u_4 4), .ref (u_4 5), .ref (u_4 6), .int 0, .int 0])), ((u_4 0), .inl (cI, 36, .inl (fun _ => 0))), ((u_4 1), .inl (cI, 20, .inl (fun _ => 0))), ((u_4 2), .inl (cI, 20, .inl (fun _ => 0))), ((u_4 3), .inl (cZ, 20, .inl (fun _ => 0))), ((u_4 4), .inl (cI, 20, .inl (fun _ => 0))), ((u_4 5), .inl (cI, 12, .inl (fun _ => 0))), ((u_4 6), .inl (cI, 12, .inl (fun _ => 0)))] := hD
  refine lv_aload_n hx hb dX4_init_26 rfl (lv_at hl 0 rfl) ?_
  refine lv_iconst (v := 0) hx hb dX4_init_27 (by decide) ?_
  refine va_put (D := D) (ci := 4) (v := .int 0) (ty := .boolean) (C := RX4) (T := TX4) (N := 3) hx hb hts inX4 tyX4 tyX4_ok nmX4 hown hK hP hD hS 0 rfl rfl 2 (by decide) (hts _ w_224) (fun _ h9 => h9) rfl (by decide +kernel) rfl rfl (Nat.le_of_ble_eq_true rfl) dX4_init_28 (fun H locs hP hD hS => ?_)
  have hP : va_P D vwCl [(q_t, .inr (4, [.ref q_1, .ref q_3, .int 0])), (q_1, .inr (2, [.int 4, .int 4, .int 1, .int 0, .int 0, .int 1, .ref (u_2 0), .ref (u_2 1), .ref (u_2 2)])), ((u_2 0), .inl (cI, 36, .inl g36)), ((u_2 1), .inl (cI, 6, .inl g6)), ((u_2 2), .inl (cI, 18, .inl (fun _ => 0))), (q_3, .inr (1, [.ref (u_4 0), .ref (u_4 1), .ref (u_4 2), .ref (u_4 3), .ref (u_4 4), .ref (u_4 5), .ref (u_4 6), .int 0, .int 0])), ((u_4 0), .inl (cI, 36, .inl (fun _ => 0))), ((u_4 1), .inl (cI, 20, .inl (fun _ => 0))), ((u_4 2), .inl (cI, 20, .inl (fun _ => 0))), ((u_4 3), .inl (cZ, 20, .inl (fun _ => 0))), ((u_4 4), .inl (cI, 20, .inl (fun _ => 0))), ((u_4 5), .inl (cI, 12, .inl (fun _ => 0))), ((u_4 6), .inl (cI, 12, .inl (fun _ => 0)))] H := hP
  have hD : va_D A [(q_t, .inr (4, [.ref q_1, .ref q_3, .int 0])), (q_1, .inr (2, [.int 4, .int 4, .int 1, .int 0, .int 0, .int 1, .ref (u_2 0), .ref (u_2 1), .ref (u_2 2)])), ((u_2 0), .inl (cI, 36, .inl g36)), ((u_2 1), .inl (cI, 6, .inl g6)), ((u_2 2), .inl (cI, 18, .inl (fun _ => 0))), (q_3, .inr (1, [.ref (u_4 0), .ref (u_4 1), .ref (u_4 2), .ref (u_4 3), .ref (u_4 4), .ref (u_4 5), .ref (u_4 6), .int 0, .int 0])), ((u_4 0), .inl (cI, 36, .inl (fun _ => 0))), ((u_4 1), .inl (cI, 20, .inl (fun _ => 0))), ((u_4 2), .inl (cI, 20, .inl (fun _ => 0))), ((u_4 3), .inl (cZ, 20, .inl (fun _ => 0))), ((u_4 4), .inl (cI, 20, .inl (fun _ => 0))), ((u_4 5), .inl (cI, 12, .inl (fun _ => 0))), ((u_4 6), .inl (cI, 12, .inl (fun _ => 0)))] := hD
  exact rtN (fun i => ([q_1, (u_2 0), (u_2 1), (u_2 2), q_3, (u_4 0), (u_4 1), (u_4 2), (u_4 3), (u_4 4), (u_4 5), (u_4 6)] : List Nat).getD i 0) hx hb hr hlocks hK hP hD hS dX4_init_31

set_option maxHeartbeats 4000000 in
set_option maxRecDepth 100000 in
theorem c_X5_init (l : Launch) (D : va_G) (cI cJ cZ : ClassId) (en : EnT) (q_t sz : Nat) : Met l yX5_init (Cond.code yX5_init cX5_init 1 none :: lw_g) ({ frames := 1, cells := 1, slots := 3, locals := 12 } : Room) (PC D cI cJ cZ en ([.ref q_t] : List Value) [(q_t, .inr (5, [.null, .int 0, .int 0, .int 0, .null, .int 0]))] sz) (QN D cI cJ cZ (fun u => [(q_t, .inr (5, [.null, .int 0, .int 0, .int 0, .ref (u 0), .int 0])), ((u 0), .inl (cI, 3, .inl (fun _ => 0)))]) (va_A [(q_t, .inr (5, [.null, .int 0, .int 0, .int 0, .null, .int 0]))] sz)) 1 3 (va_A [(q_t, .inr (5, [.null, .int 0, .int 0, .int 0, .null, .int 0]))] sz) := by
  refine mk_metN (y := yX5_init) (cc := cX5_init) (maxL := 1) (ret := none) (av := ([.ref q_t] : List Value)) (sz := sz) (Qc := fun A => QN D cI cJ cZ (fun u => [(q_t, .inr (5, [.null, .int 0, .int 0, .int 0, .ref (u 0), .int 0])), ((u 0), .inl (cI, 3, .inl (fun _ => 0)))]) A) RX5 (by decide) rfl (Nat.le_of_ble_eq_true rfl) ?_
  intro p e s m below meth c ls A hx hb hr hml hown hts hlocks hin hA hK hE hl hD H locs hP hS
  have hl : lv_has ls 1 [(0, .ref q_t)] := hl
  have hin : meth.name = "<init>" := hin
  refine lv_aload_n hx hb dX5_init_0 rfl (lv_at hl 0 rfl) ?_
  refine W.objInit hx hb hown (hts _ w_103) (hts _ w_81) (hts _ w_82) rfl (by rw [hml]; exact hl.1) rfl dX5_init_1 (by decide) (Nat.le_of_ble_eq_true rfl) ?_
  refine W.eq (g2 := F0 m 4 ls []) rfl ?_
  refine lv_aload_n hx hb dX5_init_4 rfl (lv_at hl 0 rfl) ?_
  refine lv_null hx hb dX5_init_5 ?_
  refine va_put (D := D) (ci := 5) (v := .null) (ty := .object "EchoFines$Text") (C := RX5) (T := TX5) (N := 6) hx hb hts inX5 tyX5 tyX5_ok nmX5 hown hK hP hD hS 0 rfl rfl 0 (by decide) (hts _ w_104) (fun _ h9 => h9) rfl (by decide +kernel) rfl rfl (Nat.le_of_ble_eq_true rfl) dX5_init_6 (fun H locs hP hD hS => ?_)
  have hP : va_P D vwCl [(q_t, .inr (5, [.null, .int 0, .int 0, .int 0, .null, .int 0]))] H := hP
  have hD : va_D A [(q_t, .inr (5, [.null, .int 0, .int 0, .int 0, .null, .int 0]))] := hD
  refine lv_aload_n hx hb dX5_init_9 rfl (lv_at hl 0 rfl) ?_
  refine lv_iconst (v := 0) hx hb dX5_init_10 (by decide) ?_
  refine va_put (D := D) (ci := 5) (v := .int 0) (ty := .int) (C := RX5) (T := TX5) (N := 6) hx hb hts inX5 tyX5 tyX5_ok nmX5 hown hK hP hD hS 0 rfl rfl 1 (by decide) (hts _ w_105) (fun _ h9 => h9) rfl (by decide +kernel) rfl rfl (Nat.le_of_ble_eq_true rfl) dX5_init_11 (fun H locs hP hD hS => ?_)
  have hP : va_P D vwCl [(q_t, .inr (5, [.null, .int 0, .int 0, .int 0, .null, .int 0]))] H := hP
  have hD : va_D A [(q_t, .inr (5, [.null, .int 0, .int 0, .int 0, .null, .int 0]))] := hD
  refine lv_aload_n hx hb dX5_init_14 rfl (lv_at hl 0 rfl) ?_
  refine lv_iconst (v := 0) hx hb dX5_init_15 (by decide) ?_
  refine va_put (D := D) (ci := 5) (v := .int 0) (ty := .int) (C := RX5) (T := TX5) (N := 6) hx hb hts inX5 tyX5 tyX5_ok nmX5 hown hK hP hD hS 0 rfl rfl 2 (by decide) (hts _ w_106) (fun _ h9 => h9) rfl (by decide +kernel) rfl rfl (Nat.le_of_ble_eq_true rfl) dX5_init_16 (fun H locs hP hD hS => ?_)
  have hP : va_P D vwCl [(q_t, .inr (5, [.null, .int 0, .int 0, .int 0, .null, .int 0]))] H := hP
  have hD : va_D A [(q_t, .inr (5, [.null, .int 0, .int 0, .int 0, .null, .int 0]))] := hD
  refine lv_aload_n hx hb dX5_init_19 rfl (lv_at hl 0 rfl) ?_
  refine lv_iconst (v := 0) hx hb dX5_init_20 (by decide) ?_
  refine va_put (D := D) (ci := 5) (v := .int 0) (ty := .int) (C := RX5) (T := TX5) (N := 6) hx hb hts inX5 tyX5 tyX5_ok nmX5 hown hK hP hD hS 0 rfl rfl 3 (by decide) (hts _ w_107) (fun _ h9 => h9) rfl (by decide +kernel) rfl rfl (Nat.le_of_ble_eq_true rfl) dX5_init_21 (fun H locs hP hD hS => ?_)
  have hP : va_P D vwCl [(q_t, .inr (5, [.null, .int 0, .int 0, .int 0, .null, .int 0]))] H := hP
  have hD : va_D A [(q_t, .inr (5, [.null, .int 0, .int 0, .int 0, .null, .int 0]))] := hD
  refine lv_aload_n hx hb dX5_init_24 rfl (lv_at hl 0 rfl) ?_
  refine lv_iconst (v := 3) hx hb dX5_init_25 (by decide) ?_
  refine nwa (atype := .int) (ty := .int) (cA0 := cI) (a0 := (3, .inl (fun _ => 0))) (N := 3) hx hb (hts _ w_97) rfl 0 rfl un_int hK hP hD hS hA (fun _ => rfl) (by decide) (by decide) (by decide) (by decide) (by decide) dX5_init_26 (fun q_1 H hP hD hS => ?_)
  have hP : va_P D vwCl [(q_t, .inr (5, [.null, .int 0, .int 0, .int 0, .null, .int 0])), (q_1, .inl (cI, 3, .inl (fun _ => 0)))] H := hP
  have hD : va_D A [(q_t, .inr (5, [.null, .int 0, .int 0, .int 0, .null, .int 0])), (q_1, .inl (cI, 3, .inl (fun _ => 0)))] := hD
  refine W.widen (k := 1) (n := 3) (by decide) (by decide) ?_
  refine va_putF (D := D) (ci := 5) (v := .ref q_1) (ty := .array .int) (C := RX5) (T := TX5) (N := 6) hx hb hts inX5 tyX5 tyX5_ok nmX5 hown hK hP hD hS 0 rfl rfl 4 (by decide) (hts _ w_108) (fun _ h9 => h9) rfl hin rfl (by decide +kernel) rfl rfl (Nat.le_of_ble_eq_true rfl) dX5_init_28 (fun H locs hP hD hS => ?_)
  have hP : va_P D vwCl [(q_t, .inr (5, [.null, .int 0, .int 0, .int 0, .ref q_1, .int 0])), (q_1, .inl (cI, 3, .inl (fun _ => 0)))] H := hP
  have hD : va_D A [(q_t, .inr (5, [.null, .int 0, .int 0, .int 0, .ref q_1, .int 0])), (q_1, .inl (cI, 3, .inl (fun _ => 0)))] := hD
  refine lv_aload_n hx hb dX5_init_31 rfl (lv_at hl 0 rfl) ?_
  refine lv_iconst (v := 0) hx hb dX5_init_32 (by decide) ?_
  refine va_put (D := D) (ci := 5) (v := .int 0) (ty := .int) (C := RX5) (T := TX5) (N := 6) hx hb hts inX5 tyX5 tyX5_ok nmX5 hown hK hP hD hS 0 rfl rfl 5 (by decide) (hts _ w_109) (fun _ h9 => h9) rfl (by decide +kernel) rfl rfl (Nat.le_of_ble_eq_true rfl) dX5_init_33 (fun H locs hP hD hS => ?_)
  have hP : va_P D vwCl [(q_t, .inr (5, [.null, .int 0, .int 0, .int 0, .ref q_1, .int 0])), (q_1, .inl (cI, 3, .inl (fun _ => 0)))] H := hP
  have hD : va_D A [(q_t, .inr (5, [.null, .int 0, .int 0, .int 0, .ref q_1, .int 0])), (q_1, .inl (cI, 3, .inl (fun _ => 0)))] := hD
  exact rtN (fun i => ([q_1] : List Nat).getD i 0) hx hb hr hlocks hK hP hD hS dX5_init_36

set_option maxHeartbeats 4000000 in
set_option maxRecDepth 100000 in
theorem c_X6_init (l : Launch) (D : va_G) (cI cJ cZ : ClassId) (en : EnT) (q_t sz : Nat) : Met l yX6_init (Cond.code yX6_init cX6_init 1 none :: lw_g) ({ frames := 1, cells := 2, slots := 128, locals := 12 } : Room) (PC D cI cJ cZ en ([.ref q_t] : List Value) [(q_t, .inr (6, [.null, .null]))] sz) (QN D cI cJ cZ (fun u => [(q_t, .inr (6, [.ref (u 0), .ref (u 1)])), ((u 0), .inl (cI, 64, .inl (fun _ => 0))), ((u 1), .inl (cI, 64, .inl (fun _ => 0)))]) (va_A [(q_t, .inr (6, [.null, .null]))] sz)) 2 128 (va_A [(q_t, .inr (6, [.null, .null]))] sz) := by
  refine mk_metN (y := yX6_init) (cc := cX6_init) (maxL := 1) (ret := none) (av := ([.ref q_t] : List Value)) (sz := sz) (Qc := fun A => QN D cI cJ cZ (fun u => [(q_t, .inr (6, [.ref (u 0), .ref (u 1)])), ((u 0), .inl (cI, 64, .inl (fun _ => 0))), ((u 1), .inl (cI, 64, .inl (fun _ => 0)))]) A) RX6 (by decide) rfl (Nat.le_of_ble_eq_true rfl) ?_
  intro p e s m below meth c ls A hx hb hr hml hown hts hlocks hin hA hK hE hl hD H locs hP hS
  have hl : lv_has ls 1 [(0, .ref q_t)] := hl
  have hin : meth.name = "<init>" := hin
  refine lv_aload_n hx hb dX6_init_0 rfl (lv_at hl 0 rfl) ?_
  refine W.objInit hx hb hown (hts _ w_272) (hts _ w_81) (hts _ w_82) rfl (by rw [hml]; exact hl.1) rfl dX6_init_1 (by decide) (Nat.le_of_ble_eq_true rfl) ?_
  refine W.eq (g2 := F0 m 4 ls []) rfl ?_
  refine lv_aload_n hx hb dX6_init_4 rfl (lv_at hl 0 rfl) ?_
  refine lv_bipush (v := 64) hx hb dX6_init_5 (by decide) ?_
  refine nwa (atype := .int) (ty := .int) (cA0 := cI) (a0 := (64, .inl (fun _ => 0))) (N := 64) hx hb (hts _ w_97) rfl 0 rfl un_int hK hP hD hS hA (fun _ => rfl) (by decide) (by decide) (by decide) (by decide) (by decide) dX6_init_7 (fun q_1 H hP hD hS => ?_)
  have hP : va_P D vwCl [(q_t, .inr (6, [.null, .null])), (q_1, .inl (cI, 64, .inl (fun _ => 0)))] H := hP
  have hD : va_D A [(q_t, .inr (6, [.null, .null])), (q_1, .inl (cI, 64, .inl (fun _ => 0)))] := hD
  refine W.widen (k := 1) (n := 64) (by decide) (by decide) ?_
  refine va_putF (D := D) (ci := 6) (v := .ref q_1) (ty := .array .int) (C := RX6) (T := TX6) (N := 2) hx hb hts inX6 tyX6 tyX6_ok nmX6 hown hK hP hD hS 0 rfl rfl 0 (by decide) (hts _ w_273) (fun _ h9 => h9) rfl hin rfl (by decide +kernel) rfl rfl (Nat.le_of_ble_eq_true rfl) dX6_init_9 (fun H locs hP hD hS => ?_)
  have hP : va_P D vwCl [(q_t, .inr (6, [.ref q_1, .null])), (q_1, .inl (cI, 64, .inl (fun _ => 0)))] H := hP
  have hD : va_D A [(q_t, .inr (6, [.ref q_1, .null])), (q_1, .inl (cI, 64, .inl (fun _ => 0)))] := hD
  refine lv_aload_n hx hb dX6_init_12 rfl (lv_at hl 0 rfl) ?_
  refine lv_bipush (v := 64) hx hb dX6_init_13 (by decide) ?_
  refine nwa (atype := .int) (ty := .int) (cA0 := cI) (a0 := (64, .inl (fun _ => 0))) (N := 64) hx hb (hts _ w_97) rfl 0 rfl un_int hK hP hD hS hA (fun _ => rfl) (by decide) (by decide) (by decide) (by decide) (by decide) dX6_init_15 (fun q_2 H hP hD hS => ?_)
  have hP : va_P D vwCl [(q_t, .inr (6, [.ref q_1, .null])), (q_1, .inl (cI, 64, .inl (fun _ => 0))), (q_2, .inl (cI, 64, .inl (fun _ => 0)))] H := hP
  have hD : va_D A [(q_t, .inr (6, [.ref q_1, .null])), (q_1, .inl (cI, 64, .inl (fun _ => 0))), (q_2, .inl (cI, 64, .inl (fun _ => 0)))] := hD
  refine W.widen (k := 2) (n := 128) (by decide) (by decide) ?_
  refine va_putF (D := D) (ci := 6) (v := .ref q_2) (ty := .array .int) (C := RX6) (T := TX6) (N := 2) hx hb hts inX6 tyX6 tyX6_ok nmX6 hown hK hP hD hS 0 rfl rfl 1 (by decide) (hts _ w_274) (fun _ h9 => h9) rfl hin rfl (by decide +kernel) rfl rfl (Nat.le_of_ble_eq_true rfl) dX6_init_17 (fun H locs hP hD hS => ?_)
  have hP : va_P D vwCl [(q_t, .inr (6, [.ref q_1, .ref q_2])), (q_1, .inl (cI, 64, .inl (fun _ => 0))), (q_2, .inl (cI, 64, .inl (fun _ => 0)))] H := hP
  have hD : va_D A [(q_t, .inr (6, [.ref q_1, .ref q_2])), (q_1, .inl (cI, 64, .inl (fun _ => 0))), (q_2, .inl (cI, 64, .inl (fun _ => 0)))] := hD
  exact rtN (fun i => ([q_1, q_2] : List Nat).getD i 0) hx hb hr hlocks hK hP hD hS dX6_init_20

set_option maxHeartbeats 4000000 in
set_option maxRecDepth 100000 in
theorem c_X7_init (l : Launch) (D : va_G) (cI cJ cZ : ClassId) (en : EnT) (q_t sz : Nat) : Met l yX7_init (Cond.code yX7_init cX7_init 1 none :: lw_g) ({ frames := 1, cells := 1, slots := 200, locals := 12 } : Room) (PC D cI cJ cZ en ([.ref q_t] : List Value) [(q_t, .inr (7, [.null, .int 0]))] sz) (QN D cI cJ cZ (fun u => [(q_t, .inr (7, [.ref (u 0), .int 0])), ((u 0), .inl (cI, 200, .inl (fun _ => 0)))]) (va_A [(q_t, .inr (7, [.null, .int 0]))] sz)) 1 200 (va_A [(q_t, .inr (7, [.null, .int 0]))] sz) := by
  refine mk_metN (y := yX7_init) (cc := cX7_init) (maxL := 1) (ret := none) (av := ([.ref q_t] : List Value)) (sz := sz) (Qc := fun A => QN D cI cJ cZ (fun u => [(q_t, .inr (7, [.ref (u 0), .int 0])), ((u 0), .inl (cI, 200, .inl (fun _ => 0)))]) A) RX7 (by decide) rfl (Nat.le_of_ble_eq_true rfl) ?_
  intro p e s m below meth c ls A hx hb hr hml hown hts hlocks hin hA hK hE hl hD H locs hP hS
  have hl : lv_has ls 1 [(0, .ref q_t)] := hl
  have hin : meth.name = "<init>" := hin
  refine lv_aload_n hx hb dX7_init_0 rfl (lv_at hl 0 rfl) ?_
  refine W.objInit hx hb hown (hts _ w_88) (hts _ w_81) (hts _ w_82) rfl (by rw [hml]; exact hl.1) rfl dX7_init_1 (by decide) (Nat.le_of_ble_eq_true rfl) ?_
  refine W.eq (g2 := F0 m 4 ls []) rfl ?_
  refine lv_aload_n hx hb dX7_init_4 rfl (lv_at hl 0 rfl) ?_
  refine lv_sipush (v := 200) hx hb dX7_init_5 (by decide) ?_
  refine nwa (atype := .int) (ty := .int) (cA0 := cI) (a0 := (200, .inl (fun _ => 0))) (N := 200) hx hb (hts _ w_97) rfl 0 rfl un_int hK hP hD hS hA (fun _ => rfl) (by decide) (by decide) (by decide) (by decide) (by decide) dX7_init_8 (fun q_1 H hP hD hS => ?_)
  have hP : va_P D vwCl [(q_t, .inr (7, [.null, .int 0])), (q_1, .inl (cI, 200, .inl (fun _ => 0)))] H := hP
  have hD : va_D A [(q_t, .inr (7, [.null, .int 0])), (q_1, .inl (cI, 200, .inl (fun _ => 0)))] := hD
  refine W.widen (k := 1) (n := 200) (by decide) (by decide) ?_
  refine va_putF (D := D) (ci := 7) (v := .ref q_1) (ty := .array .int) (C := RX7) (T := TX7) (N := 2) hx hb hts inX7 tyX7 tyX7_ok nmX7 hown hK hP hD hS 0 rfl rfl 0 (by decide) (hts _ w_89) (fun _ h9 => h9) rfl hin rfl (by decide +kernel) rfl rfl (Nat.le_of_ble_eq_true rfl) dX7_init_10 (fun H locs hP hD hS => ?_)
  have hP : va_P D vwCl [(q_t, .inr (7, [.ref q_1, .int 0])), (q_1, .inl (cI, 200, .inl (fun _ => 0)))] H := hP
  have hD : va_D A [(q_t, .inr (7, [.ref q_1, .int 0])), (q_1, .inl (cI, 200, .inl (fun _ => 0)))] := hD
  refine lv_aload_n hx hb dX7_init_13 rfl (lv_at hl 0 rfl) ?_
  refine lv_iconst (v := 0) hx hb dX7_init_14 (by decide) ?_
  refine va_put (D := D) (ci := 7) (v := .int 0) (ty := .int) (C := RX7) (T := TX7) (N := 2) hx hb hts inX7 tyX7 tyX7_ok nmX7 hown hK hP hD hS 0 rfl rfl 1 (by decide) (hts _ w_90) (fun _ h9 => h9) rfl (by decide +kernel) rfl rfl (Nat.le_of_ble_eq_true rfl) dX7_init_15 (fun H locs hP hD hS => ?_)
  have hP : va_P D vwCl [(q_t, .inr (7, [.ref q_1, .int 0])), (q_1, .inl (cI, 200, .inl (fun _ => 0)))] H := hP
  have hD : va_D A [(q_t, .inr (7, [.ref q_1, .int 0])), (q_1, .inl (cI, 200, .inl (fun _ => 0)))] := hD
  exact rtN (fun i => ([q_1] : List Nat).getD i 0) hx hb hr hlocks hK hP hD hS dX7_init_18

set_option maxHeartbeats 4000000 in
set_option maxRecDepth 100000 in
theorem c_X8_init (l : Launch) (D : va_G) (cI cJ cZ : ClassId) (en : EnT) (q_t sz : Nat) : Met l yX8_init (Cond.code yX8_init cX8_init 1 none :: lw_g) ({ frames := 1, cells := 2, slots := 488, locals := 12 } : Room) (PC D cI cJ cZ en ([.ref q_t] : List Value) [(q_t, .inr (8, [.null, .null]))] sz) (QN D cI cJ cZ (fun u => [(q_t, .inr (8, [.ref (u 0), .ref (u 1)])), ((u 0), .inl (cI, 480, .inl (fun _ => 0))), ((u 1), .inl (cI, 8, .inl (fun _ => 0)))]) (va_A [(q_t, .inr (8, [.null, .null]))] sz)) 2 488 (va_A [(q_t, .inr (8, [.null, .null]))] sz) := by
  refine mk_metN (y := yX8_init) (cc := cX8_init) (maxL := 1) (ret := none) (av := ([.ref q_t] : List Value)) (sz := sz) (Qc := fun A => QN D cI cJ cZ (fun u => [(q_t, .inr (8, [.ref (u 0), .ref (u 1)])), ((u 0), .inl (cI, 480, .inl (fun _ => 0))), ((u 1), .inl (cI, 8, .inl (fun _ => 0)))]) A) RX8 (by decide) rfl (Nat.le_of_ble_eq_true rfl) ?_
  intro p e s m below meth c ls A hx hb hr hml hown hts hlocks hin hA hK hE hl hD H locs hP hS
  have hl : lv_has ls 1 [(0, .ref q_t)] := hl
  have hin : meth.name = "<init>" := hin
  refine lv_aload_n hx hb dX8_init_0 rfl (lv_at hl 0 rfl) ?_
  refine W.objInit hx hb hown (hts _ w_238) (hts _ w_81) (hts _ w_82) rfl (by rw [hml]; exact hl.1) rfl dX8_init_1 (by decide) (Nat.le_of_ble_eq_true rfl) ?_
  refine W.eq (g2 := F0 m 4 ls []) rfl ?_
  refine lv_aload_n hx hb dX8_init_4 rfl (lv_at hl 0 rfl) ?_
  refine lv_sipush (v := 480) hx hb dX8_init_5 (by decide) ?_
  refine nwa (atype := .int) (ty := .int) (cA0 := cI) (a0 := (480, .inl (fun _ => 0))) (N := 480) hx hb (hts _ w_97) rfl 0 rfl un_int hK hP hD hS hA (fun _ => rfl) (by decide) (by decide) (by decide) (by decide) (by decide) dX8_init_8 (fun q_1 H hP hD hS => ?_)
  have hP : va_P D vwCl [(q_t, .inr (8, [.null, .null])), (q_1, .inl (cI, 480, .inl (fun _ => 0)))] H := hP
  have hD : va_D A [(q_t, .inr (8, [.null, .null])), (q_1, .inl (cI, 480, .inl (fun _ => 0)))] := hD
  refine W.widen (k := 1) (n := 480) (by decide) (by decide) ?_
  refine va_putF (D := D) (ci := 8) (v := .ref q_1) (ty := .array .int) (C := RX8) (T := TX8) (N := 2) hx hb hts inX8 tyX8 tyX8_ok nmX8 hown hK hP hD hS 0 rfl rfl 0 (by decide) (hts _ w_239) (fun _ h9 => h9) rfl hin rfl (by decide +kernel) rfl rfl (Nat.le_of_ble_eq_true rfl) dX8_init_10 (fun H locs hP hD hS => ?_)
  have hP : va_P D vwCl [(q_t, .inr (8, [.ref q_1, .null])), (q_1, .inl (cI, 480, .inl (fun _ => 0)))] H := hP
  have hD : va_D A [(q_t, .inr (8, [.ref q_1, .null])), (q_1, .inl (cI, 480, .inl (fun _ => 0)))] := hD
  refine lv_aload_n hx hb dX8_init_13 rfl (lv_at hl 0 rfl) ?_
  refine lv_bipush (v := 8) hx hb dX8_init_14 (by decide) ?_
  refine nwa (atype := .int) (ty := .int) (cA0 := cI) (a0 := (8, .inl (fun _ => 0))) (N := 8) hx hb (hts _ w_97) rfl 0 rfl un_int hK hP hD hS hA (fun _ => rfl) (by decide) (by decide) (by decide) (by decide) (by decide) dX8_init_16 (fun q_2 H hP hD hS => ?_)
  have hP : va_P D vwCl [(q_t, .inr (8, [.ref q_1, .null])), (q_1, .inl (cI, 480, .inl (fun _ => 0))), (q_2, .inl (cI, 8, .inl (fun _ => 0)))] H := hP
  have hD : va_D A [(q_t, .inr (8, [.ref q_1, .null])), (q_1, .inl (cI, 480, .inl (fun _ => 0))), (q_2, .inl (cI, 8, .inl (fun _ => 0)))] := hD
  refine W.widen (k := 2) (n := 488) (by decide) (by decide) ?_
  refine va_putF (D := D) (ci := 8) (v := .ref q_2) (ty := .array .int) (C := RX8) (T := TX8) (N := 2) hx hb hts inX8 tyX8 tyX8_ok nmX8 hown hK hP hD hS 0 rfl rfl 1 (by decide) (hts _ w_240) (fun _ h9 => h9) rfl hin rfl (by decide +kernel) rfl rfl (Nat.le_of_ble_eq_true rfl) dX8_init_18 (fun H locs hP hD hS => ?_)
  have hP : va_P D vwCl [(q_t, .inr (8, [.ref q_1, .ref q_2])), (q_1, .inl (cI, 480, .inl (fun _ => 0))), (q_2, .inl (cI, 8, .inl (fun _ => 0)))] H := hP
  have hD : va_D A [(q_t, .inr (8, [.ref q_1, .ref q_2])), (q_1, .inl (cI, 480, .inl (fun _ => 0))), (q_2, .inl (cI, 8, .inl (fun _ => 0)))] := hD
  exact rtN (fun i => ([q_1, q_2] : List Nat).getD i 0) hx hb hr hlocks hK hP hD hS dX8_init_21
