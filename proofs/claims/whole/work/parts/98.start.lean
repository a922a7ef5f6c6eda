section M98
theorem init_L : ∀ (d j fu : Nat) (v : Nat → Int32), j + d = 44 → d < fu → ∃ v', f_X10_init_L fu (nI j) v = some v' ∧ ∀ i, v' i = if j ≤ i ∧ i < 44 then -1 else v i := by
  intro d
  induction d with
  | zero =>
    intro j fu v hj hfu
    obtain ⟨fu, rfl⟩ : ∃ m, fu = m + 1 := ⟨fu - 1, by omega⟩
    have : j = 44 := by omega
    subst this
    exact ⟨v, by rw [f_X10_init_L, if_pos (show (44 : Int32) ≤ nI 44 by decide)], fun i => by rw [if_neg (by omega)]⟩
  | succ d ih =>
    intro j fu v hj hfu
    obtain ⟨fu, rfl⟩ : ∃ m, fu = m + 1 := ⟨fu - 1, by omega⟩
    obtain ⟨v', h1, h2⟩ := ih (j + 1) fu (upd v j (-1)) (by omega) (by omega)
    refine ⟨v', ?_, fun i => ?_⟩
    · rw [← h1, f_X10_init_L, if_neg (show ¬ (44 : Int32) ≤ nI j from nI_ge (b := 44) (by omega) (by decide)), gd_t (ib_nI (show j < 558 by omega) (by decide)), st1, nI_clamp (by omega)]
    · rw [h2]
      by_cases q : i = j
      · subst q
        rw [if_neg (by omega), if_pos (by omega), upd_same]
      · rw [upd_ne _ _ q]
        by_cases q2 : j ≤ i ∧ i < 44
        · rw [if_pos (by omega), if_pos q2]
        · rw [if_neg (by omega), if_neg q2]
theorem RR_start {g36 g6 z : Nat → Int32} (h36 : ∀ i, i < 36 → g36 i = -1) (h6 : ∀ i, i < 6 → g6 i = -1) (z0 : z 0 = 4) (z1 : z 1 = 4) (z2 : ∀ i, 2 ≤ i → i < 44 → z i = -1) (z3 : ∀ i, 44 ≤ i → z i = 0) : RR X0 (XA0 g36 g6) Y0 (YA0 z) := by
  refine ⟨⟨0, by decide, rfl, rfl, fun i hi => absurd hi (Nat.not_lt_zero i)⟩, ?_, ?_, ?_, ⟨rfl, Or.inl rfl⟩, ⟨rfl, Or.inl rfl⟩⟩
  · refine ⟨4, 4, by decide, by decide, by decide, by decide, rfl, rfl, z0, z1, fun i hi => ?_, fun p hp => ?_⟩
    · show z (0 + (2 + i)) = g36 i ∧ (g36 i = -1 ∨ ∃ c : Nat, c ≤ 99 ∧ g36 i = nI c)
      rw [z2 _ (by omega) (by omega), h36 i hi]
      exact ⟨rfl, Or.inl rfl⟩
    · show z (0 + (38 + p)) = g6 p ∧ (g6 p = -1 ∨ ∃ c : Nat, c < 4 * 4 ∧ g6 p = nI c ∧ g36 c = -1)
      rw [z2 _ (by omega) (by omega), h6 p hp]
      exact ⟨rfl, Or.inl rfl⟩
  · exact ⟨rfl, rfl, rfl, rfl, ⟨1, by decide, rfl⟩, ⟨1, by decide, by decide, rfl⟩, 0, by decide, rfl, fun i hi => absurd hi (Nat.not_lt_zero i)⟩
  · refine ⟨fun c d hc hd => ?_, ⟨0, by decide, rfl, ?_, fun i hi => absurd hi (Nat.not_lt_zero i)⟩, 0, by decide, rfl, ?_, fun i hi => absurd hi (Nat.not_lt_zero i)⟩
    · show (0 : Int32) = z (0 + (44 + 6 * c + d)) - z (0 + (44 + 6 * d + c))
      rw [z3 _ (by omega), z3 _ (by omega)]
      rfl
    · show z (0 + 80) = nI 0
      rw [z3 _ (by omega)]
      rfl
    · show z (0 + 161) = nI 0
      rw [z3 _ (by omega)]
      rfl
theorem whole_start {p : Program} {e : Env} {s : State} {m : MethodId} {below : List Frame} {meth : Method} {c : Code} (l : Launch) {b L : Nat} {xs : Nat → Int32} (hL : L ≤ 3072) (C0 : lw_At p s m meth c b L xs) : W p l e room_1 s m #[Value.ref b] below meth c s.heap [] 0 0 (lw_Z below #[Value.ref b] s) (entryFrame m ([Value.ref b] : List Value).toArray 4) := by
  obtain ⟨g36, f1, f2⟩ := fillC (-1) (show 36 < 4000 by decide) (fun _ => 0)
  obtain ⟨g6, f3, f4⟩ := fillC (-1) (show 6 < 4000 by decide) (fun _ => 0)
  obtain ⟨z, k1, k2⟩ := init_L 42 2 FU (upd (upd (fun _ => 0) 0 4) 1 4) (by decide) (by decide)
  have hf : f_X10_init = some z := k1
  refine whole_open l ob_write ob_erase ob_fault ob_canyon ob_cell ob_person ob_law ob_cry ob_costs ob_sounds ob_led ob_whisper ob_owed ob_pay ob_settled ob_stand ob_fall ob_changed ob_note ob_forget ob_who ob_living ob_cancel ob_keep ob_back ob_count f1 f3 hf (RR_start (fun i hi => by rw [f2, if_pos hi]) (fun i hi => by rw [f4, if_pos hi]) ?_ ?_ ?_ ?_) hL C0
  · rw [k2, if_neg (by omega), upd_ne _ _ (by decide), upd_same]
  · rw [k2, if_neg (by omega), upd_same]
  · intro i h1 h2
    rw [k2, if_pos ⟨h1, h2⟩]
  · intro i h1
    rw [k2, if_neg (by omega), upd_ne _ _ (by omega), upd_ne _ _ (by omega)]
end M98
