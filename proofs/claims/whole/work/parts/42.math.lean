section M42
theorem lit_nI (n : Nat) [OfNat Int32 n] : True := trivial
theorem nl (k n : Nat) (h : k < n) (hn : n < 2 ^ 31) : ¬ nI n ≤ nI k := nI_ge h hn
/-- the loops' step: from k to k + 1 -/
theorem st1 (k : Nat) : nI k + 1 = nI (k + 1) := nI_1 k
def pAt (wi : Nat → Int32) (c : Int32) : Nat → Int32
  | 0 => 0
  | k + 1 => if wi k = c then pAt wi c k ||| (1 <<< (nI k &&& 31)) else pAt wi c k
theorem pAt_congr {wi wi' : Nat → Int32} {c : Int32} : ∀ (k : Nat), (∀ p, p < k → wi p = wi' p) → pAt wi c k = pAt wi' c k := by
  intro k
  induction k with
  | zero => intro _; rfl
  | succ k ih =>
    intro h
    rw [pAt, pAt, h k (by omega), ih (fun p hp => h p (by omega))]
theorem pAt_L14 (wi : Nat → Int32) (c : Int32) : ∀ (d k n : Nat), k + d = 6 → d < n → f_X2_personsAt_L14 wi c n (pAt wi c k) (nI k) = some (pAt wi c 6) := by
  intro d
  induction d with
  | zero =>
    intro k n hk hn
    obtain ⟨n, rfl⟩ : ∃ m, n = m + 1 := ⟨n - 1, by omega⟩
    have : k = 6 := by omega
    subst this
    rw [f_X2_personsAt_L14]
    rfl
  | succ d ih =>
    intro k n hk hn
    obtain ⟨n, rfl⟩ : ∃ m, n = m + 1 := ⟨n - 1, by omega⟩
    rw [f_X2_personsAt_L14, if_neg (show ¬ (6 : Int32) ≤ nI k from nI_ge (b := 6) (by omega) (by decide)), gd_t (ib_nI (by omega) (by decide)), nI_clamp (by omega)]
    have := ih (k + 1) n (by omega) (by omega)
    rw [pAt] at this
    unfold f_X2_personsAt_J36
    rw [st1]
    by_cases h : wi k = c
    · rw [if_pos h]; rw [if_pos h] at this; exact this
    · rw [if_neg h]; rw [if_neg h] at this; exact this
theorem or_0 (x : Int32) : x ||| 0 = x := by
  apply Int32.toBitVec_inj.mp
  simp
theorem pAt_L4 (row : Nat → Int32) (c : Int32) : ∀ (d k n : Nat), k + d = 6 → d < n → f_X10_personsAt_L4 row c n (pAt (fun p => row (38 + p)) c k) (nI k) = some (pAt (fun p => row (38 + p)) c 6) := by
  intro d
  induction d with
  | zero =>
    intro k n hk hn
    obtain ⟨n, rfl⟩ : ∃ m, n = m + 1 := ⟨n - 1, by omega⟩
    have : k = 6 := by omega
    subst this
    rw [f_X10_personsAt_L4]
    rfl
  | succ d ih =>
    intro k n hk hn
    obtain ⟨n, rfl⟩ : ∃ m, n = m + 1 := ⟨n - 1, by omega⟩
    rw [f_X10_personsAt_L4, if_neg (show ¬ (6 : Int32) ≤ nI k from nI_ge (b := 6) (by omega) (by decide)), show (38 : Int32) + nI k = nI (38 + k) from nI_add 38 k, gd_t (ib_nI (by omega) (by decide)), nI_clamp (by omega)]
    have := ih (k + 1) n (by omega) (by omega)
    rw [pAt] at this
    unfold f_X10_personsAt_J31
    rw [st1]
    by_cases h : row (38 + k) = c
    · rw [if_pos h]; rw [if_pos h] at this; exact this
    · rw [if_neg h, or_0]; rw [if_neg h] at this; exact this
theorem personsAtM (row : Nat → Int32) (c : Int32) : f_X10_personsAt row c = some (pAt (fun p => row (38 + p)) c 6) := pAt_L4 row c 6 0 FU rfl (by decide)
theorem mul_le36 {a b : Nat} (h1 : a ≤ 6) (h2 : b ≤ 6) : a * b ≤ 36 := Nat.mul_le_mul h1 h2
theorem has_nI {w h : Int32} {a b : Nat} (hw : w = nI a) (hh : h = nI b) (ha : a ≤ 6) (hb : b ≤ 6) {j : Nat} (hj : j < a * b) : f_X2_has w h (nI j) = some 1 := by
  have := mul_le36 ha hb
  unfold f_X2_has
  rw [hw, hh, nI_mul, if_neg (nI_pos (by omega)), if_neg (nI_ge hj (by omega)), if_neg (show ¬ (36 : Int32) ≤ nI j from nI_ge (b := 36) (by omega) (by decide))]
theorem cellsM {row : Nat → Int32} {a b : Nat} (h0 : row 0 = nI a) (h1 : row 1 = nI b) : f_X10_cells row = some (nI (a * b)) := by
  have e : f_X10_cells row = some (row 0 * row 1) := rfl
  rw [e, h0, h1, nI_mul]
theorem ccase {w h : Int32} {gr wi row : Nat → Int32} {a b : Nat} (ha1 : 1 ≤ a) (ha : a ≤ 6) (hb1 : 1 ≤ b) (hb : b ≤ 6) (hw : w = nI a) (hh : h = nI b) (h0 : row 0 = nI a) (h1 : row 1 = nI b) (x : Int32) : (∃ j, j < a * b ∧ x = nI j ∧ f_X2_has w h x = some 1 ∧ f_X10_isCell row x = some 1) ∨ (f_X2_has w h x = some 0 ∧ f_X10_isCell row x = some 0) := by
  have h36 := mul_le36 ha hb
  have hpos : 1 ≤ a * b := Nat.mul_le_mul ha1 hb1
  have e : f_X10_isCell row x = (f_X10_in x.toInt64 (Int32.toInt64 0) (Int32.toInt64 (nI (a * b) - 1))).bind (fun z10 => (gd (z10 = 0 ∨ z10 = 1) (some z10))) := by
    unfold f_X10_isCell
    rw [cellsM h0 h1]
    rfl
  rw [e, in_32, show nI (a * b) - 1 = nI (a * b - 1) from nI_sub' (b := 1) hpos]
  by_cases hx : 0 ≤ x
  · obtain ⟨j, hj, rfl⟩ := nI_of (Int32.not_lt.mpr hx)
    by_cases hjn : j < a * b
    · refine Or.inl ⟨j, hjn, rfl, has_nI hw hh ha hb hjn, ?_⟩
      rw [if_pos ⟨hx, nI_le (by omega) (by omega)⟩]
      rfl
    · refine Or.inr ⟨?_, ?_⟩
      · unfold f_X2_has
        rw [hw, hh, nI_mul, if_neg (nI_pos hj), if_pos (nI_le (by omega) hj)]
      · rw [if_neg (fun q => nI_ge (show a * b - 1 < j by omega) hj q.2)]
        rfl
  · refine Or.inr ⟨?_, ?_⟩
    · unfold f_X2_has
      rw [if_pos (Int32.not_le.mp hx)]
    · rw [if_neg (fun q => hx q.1)]
      rfl
theorem isFloorM (row : Nat → Int32) {j : Nat} (hj : j < 36) : f_X10_isFloor row (nI j) = some (if row (2 + j) = -1 then 1 else 0) := by
  unfold f_X10_isFloor
  rw [show (2 : Int32) + nI j = nI (2 + j) from nI_add 2 j, gd_t (ib_nI (by omega) (by decide)), nI_clamp (by omega)]
  by_cases h : row (2 + j) = -1
  · rw [if_pos h, if_pos h]
  · rw [if_neg h, if_neg h]
theorem isFloorC {w h : Int32} {a b : Nat} (gr : Nat → Int32) (hw : w = nI a) (hh : h = nI b) (ha : a ≤ 6) (hb : b ≤ 6) {j : Nat} (hj : j < a * b) : f_X2_isFloor w h gr (nI j) = some (if gr j = -1 then 1 else 0) := by
  have := mul_le36 ha hb
  unfold f_X2_isFloor
  rw [has_nI hw hh ha hb hj, bS, i10, gd_t (ib_nI (by omega) (by decide)), nI_clamp (by omega)]
  by_cases h : gr j = -1
  · rw [if_pos h, if_pos h]
  · rw [if_neg h, if_neg h]
theorem isRockC {w h : Int32} {a b : Nat} (gr : Nat → Int32) (hw : w = nI a) (hh : h = nI b) (ha : a ≤ 6) (hb : b ≤ 6) {j : Nat} (hj : j < a * b) : f_X2_isRock w h gr (nI j) = some (if gr j = -1 then 0 else 1) := by
  have := mul_le36 ha hb
  unfold f_X2_isRock
  rw [has_nI hw hh ha hb hj, bS, i10, gd_t (ib_nI (by omega) (by decide)), nI_clamp (by omega)]
  by_cases h : gr j = -1
  · rw [if_pos h, if_pos h]
  · rw [if_neg h, if_neg h]
theorem softOfC {w h : Int32} {a b : Nat} (gr : Nat → Int32) (hw : w = nI a) (hh : h = nI b) (ha : a ≤ 6) (hb : b ≤ 6) {j : Nat} (hj : j < a * b) : f_X2_softOf w h gr (nI j) = some (if 0 < gr j then gr j else 0) := by
  have := mul_le36 ha hb
  unfold f_X2_softOf
  rw [has_nI hw hh ha hb hj, bS, i10, gd_t (ib_nI (by omega) (by decide)), nI_clamp (by omega)]
theorem personsAtC {w h : Int32} {a b : Nat} (wi : Nat → Int32) (hw : w = nI a) (hh : h = nI b) (ha : a ≤ 6) (hb : b ≤ 6) {j : Nat} (hj : j < a * b) : f_X2_personsAt w h wi (nI j) = some (pAt wi (nI j) 6) := by
  unfold f_X2_personsAt
  rw [has_nI hw hh ha hb hj, bS, i10]
  exact pAt_L14 wi (nI j) 6 0 FU rfl (by decide)
theorem ob_cell : Ob_cell RR := by
  intro X XA XL Y YA x1 x2 h
  have h0 := h
  obtain ⟨ht, ⟨a, b, ha1, ha, hb1, hb, hw, hh, hr0, hr1, hg, hp⟩, hl, hbk, hi1, hi2⟩ := h
  have h36 := mul_le36 ha hb
  unfold f_X9_cell f_X10_cell
  rcases ccase (gr := XA 2) (wi := XA 3) ha1 ha hb1 hb hw hh hr0 hr1 x1 with ⟨j, hj, rfl, hc, hd⟩ | ⟨hc, hd⟩
  · have hgj := hg j (by omega)
    simp only [Nat.zero_add] at hgj hp
    simp only [hc, hd, bS, i10, isRockC _ hw hh ha hb hj, softOfC _ hw hh ha hb hj, personsAtC _ hw hh ha hb hj, isFloorM _ (show j < 36 by omega), personsAtM, hgj.1]
    by_cases q0 : x2 = 0
    · simp only [if_pos q0]
      by_cases f : XA 2 j = -1
      · simp only [if_pos f, i00, i10]; exact ⟨_, _, rfl, rfl, rfl, h0⟩
      · simp only [if_neg f, i00, i10]; exact ⟨_, _, rfl, rfl, rfl, h0⟩
    · by_cases q1 : x2 = 1
      · simp only [if_neg q0, if_pos q1]
        by_cases f : XA 2 j = -1
        · simp only [f, if_pos, i10]; exact ⟨_, _, rfl, rfl, rfl, h0⟩
        · obtain ⟨c, hc1, hc2⟩ := hgj.2.resolve_left f
          have e : (2 : Int32) + nI j = nI (2 + j) := nI_add 2 j
          simp only [if_neg f, i00, e, gd_t (ib_nI (show 2 + j < 558 by omega) (by decide)), nI_clamp (show 2 + j < 2 ^ 31 by omega), hgj.1]
          refine ⟨_, _, rfl, rfl, ?_, h0⟩
          rw [hc2]
          by_cases z : c = 0
          · subst z; rfl
          · rw [if_pos (show (0 : Int32) < nI c from nI_lt (a := 0) (by omega) (by omega))]
      · by_cases q2 : x2 = 2
        · simp only [if_neg q0, if_neg q1, if_pos q2]
          refine ⟨_, _, rfl, rfl, ?_, h0⟩
          exact pAt_congr 6 (fun p hp6 => (hp p hp6).1.symm)
        · simp only [if_neg q0, if_neg q1, if_neg q2]
          exact ⟨_, _, rfl, rfl, rfl, h0⟩
  · simp only [hc, hd, bS, i00]
    exact ⟨_, _, rfl, rfl, rfl, h0⟩
end M42
