section M40
theorem in_eq (x a b : Int64) : f_X10_in x a b = some (if a ≤ x ∧ x ≤ b then 1 else 0) := by
  unfold f_X10_in
  by_cases h1 : a ≤ x
  · have e1 : ¬ lg_cmp x a < 0 := by
      intro h
      have := (lg_cmp_ge x a).mpr h1
      exact absurd h (Int32.not_lt.mpr this)
    rw [if_neg e1]
    by_cases h2 : x ≤ b
    · have e2 : ¬ 0 < lg_cmp x b := by
        intro h
        unfold lg_cmp at h
        by_cases h3 : x > b
        · exact absurd h2 (Int64.not_le.mpr h3)
        · rw [if_neg h3] at h
          by_cases h4 : x = b
          · rw [if_pos h4] at h; exact absurd h (by decide)
          · rw [if_neg h4] at h; exact absurd h (by decide)
      rw [if_neg e2, if_pos ⟨h1, h2⟩]
    · have e2 : 0 < lg_cmp x b := by
        unfold lg_cmp
        rw [if_pos (Int64.not_le.mp h2)]
        decide
      rw [if_pos e2, if_neg (fun h => h2 h.2)]
  · have e1 : lg_cmp x a < 0 := by
      refine Int32.not_le.mp (fun h => h1 ?_)
      exact (lg_cmp_ge x a).mp h
    rw [if_pos e1, if_neg (fun h => h1 h.1)]
theorem i64_le {x y : Int32} : x.toInt64 ≤ y.toInt64 ↔ x ≤ y := by
  rw [Int64.le_iff_toInt_le, Int32.le_iff_toInt_le, Int32.toInt_toInt64, Int32.toInt_toInt64]
theorem in_32 (x a b : Int32) : f_X10_in x.toInt64 a.toInt64 b.toInt64 = some (if a ≤ x ∧ x ≤ b then 1 else 0) := by
  simp only [in_eq, i64_le]
theorem ib_nI {k n : Nat} (h : k < n) (hn : n < 2 ^ 31) : ib (nI k) n := vp_in_nI h hn
/-- a number in bounds is one of nI -/
theorem rng {x : Int32} {n : Nat} (hn : n < 2 ^ 31) (h0 : 0 ≤ x) (h1 : x ≤ nI n) : ∃ j, j ≤ n ∧ x = nI j := nI_of2 (nI_toInt hn) (Int32.not_lt.mpr h0) h1
theorem pcase (x : Int32) : (∃ j, j < 6 ∧ x = nI j ∧ f_X9_isPerson x = some 1 ∧ f_X10_isPerson x = some 1) ∨ (f_X9_isPerson x = some 0 ∧ f_X10_isPerson x = some 0) := by
  have e : f_X10_isPerson x = (f_X10_in x.toInt64 (Int32.toInt64 0) (Int32.toInt64 5)).bind (fun z6 => (gd (z6 = 0 ∨ z6 = 1) (some z6))) := rfl
  rw [e, in_32]
  by_cases h0 : 0 ≤ x
  · by_cases h5 : x ≤ 5
    · obtain ⟨j, hj, rfl⟩ := rng (n := 5) (by decide) h0 h5
      refine Or.inl ⟨j, by omega, rfl, ?_, ?_⟩
      · unfold f_X9_isPerson
        rw [if_neg (Int32.not_lt.mpr h0), if_neg (fun h => absurd (Int32.le_trans h h5) (by decide))]
      · rw [if_pos ⟨h0, h5⟩]; rfl
    · refine Or.inr ⟨?_, ?_⟩
      · unfold f_X9_isPerson
        rw [if_neg (Int32.not_lt.mpr h0), if_pos]
        have := Int32.not_le.mp h5
        rw [Int32.lt_iff_toInt_lt] at this
        rw [Int32.le_iff_toInt_le]
        simp at this ⊢
        omega
      · rw [if_neg (fun h => h5 h.2)]; rfl
  · refine Or.inr ⟨?_, ?_⟩
    · unfold f_X9_isPerson
      rw [if_pos (Int32.not_le.mp h0)]
    · rw [if_neg (fun h => h0 h.1)]; rfl
theorem lcase (x : Int32) : (∃ j, 1 ≤ j ∧ j ≤ 99 ∧ x = nI j ∧ f_X9_isLoud x = some 1 ∧ f_X10_isLoud x = some 1) ∨ (f_X9_isLoud x = some 0 ∧ f_X10_isLoud x = some 0) := by
  have e : f_X10_isLoud x = (f_X10_in x.toInt64 (Int32.toInt64 1) (Int32.toInt64 99)).bind (fun z6 => (gd (z6 = 0 ∨ z6 = 1) (some z6))) := rfl
  rw [e, in_32]
  by_cases h0 : 1 ≤ x
  · by_cases h5 : x ≤ 99
    · obtain ⟨j, hj, rfl⟩ := rng (n := 99) (by decide) (Int32.le_trans (by decide) h0) h5
      refine Or.inl ⟨j, ?_, by omega, rfl, ?_, ?_⟩
      · exact (nI_leI (a := 1) (by decide) (by omega)).mp h0
      · unfold f_X9_isLoud
        rw [if_neg (Int32.not_lt.mpr h0), if_neg (Int32.not_lt.mpr h5)]
      · rw [if_pos ⟨h0, h5⟩]; rfl
    · refine Or.inr ⟨?_, ?_⟩
      · unfold f_X9_isLoud
        rw [if_neg (Int32.not_lt.mpr h0), if_pos (Int32.not_le.mp h5)]
      · rw [if_neg (fun h => h5 h.2)]; rfl
  · refine Or.inr ⟨?_, ?_⟩
    · unfold f_X9_isLoud
      rw [if_pos (Int32.not_le.mp h0)]
    · rw [if_neg (fun h => h0 h.1)]; rfl
theorem hcase (x : Int32) : (∃ j, j < 24 ∧ x = nI j ∧ f_X9_isHour x = some 1 ∧ f_X10_isHour x = some 1) ∨ (f_X9_isHour x = some 0 ∧ f_X10_isHour x = some 0) := by
  have e : f_X10_isHour x = (f_X10_in x.toInt64 (Int32.toInt64 0) (Int32.toInt64 23)).bind (fun z6 => (gd (z6 = 0 ∨ z6 = 1) (some z6))) := rfl
  rw [e, in_32]
  by_cases h0 : 0 ≤ x
  · by_cases h5 : x ≤ 23
    · obtain ⟨j, hj, rfl⟩ := rng (n := 23) (by decide) h0 h5
      refine Or.inl ⟨j, by omega, rfl, ?_, ?_⟩
      · unfold f_X9_isHour
        rw [if_neg (Int32.not_lt.mpr h0), if_neg (fun h => absurd (Int32.le_trans h h5) (by decide))]
      · rw [if_pos ⟨h0, h5⟩]; rfl
    · refine Or.inr ⟨?_, ?_⟩
      · unfold f_X9_isHour
        rw [if_neg (Int32.not_lt.mpr h0), if_pos]
        have := Int32.not_le.mp h5
        rw [Int32.lt_iff_toInt_lt] at this
        rw [Int32.le_iff_toInt_le]
        simp at this ⊢
        omega
      · rw [if_neg (fun h => h5 h.2)]; rfl
  · refine Or.inr ⟨?_, ?_⟩
    · unfold f_X9_isHour
      rw [if_pos (Int32.not_le.mp h0)]
    · rw [if_neg (fun h => h0 h.1)]; rfl
/-! the relation -/
def RText (xl : Int32) (xb : Nat → Int32) (yl : Int32) (yt : Nat → Int32) : Prop := ∃ n : Nat, n ≤ 200 ∧ xl = nI n ∧ yl = nI n ∧ ∀ i, i < n → xb i = yt i ∧ ∃ c : Nat, c < 256 ∧ xb i = nI c
def RCan (w h : Int32) (gr wi row : Nat → Int32) (o : Nat) : Prop := ∃ a b : Nat, 1 ≤ a ∧ a ≤ 6 ∧ 1 ≤ b ∧ b ≤ 6 ∧ w = nI a ∧ h = nI b ∧ row o = nI a ∧ row (o + 1) = nI b ∧ (∀ i, i < 36 → row (o + (2 + i)) = gr i ∧ (gr i = -1 ∨ ∃ c : Nat, c ≤ 99 ∧ gr i = nI c)) ∧ ∀ p, p < 6 → row (o + (38 + p)) = wi p ∧ (wi p = -1 ∨ ∃ c : Nat, c < a * b ∧ wi p = nI c ∧ gr c = -1)
def RCry (i : Nat) (criers louds highs hours row : Nat → Int32) (o : Nat) : Prop := row (o + (81 + 4 * i)) = criers i ∧ row (o + (82 + 4 * i)) = louds i ∧ row (o + (83 + 4 * i)) = highs i ∧ row (o + (84 + 4 * i)) = hours i ∧ (∃ c : Nat, c < 6 ∧ criers i = nI c) ∧ (∃ c : Nat, 1 ≤ c ∧ c ≤ 99 ∧ louds i = nI c) ∧ (highs i = 0 ∨ highs i = 1) ∧ ∃ c : Nat, c < 24 ∧ hours i = nI c
def RNote (i : Nat) (hearers minutes row : Nat → Int32) (o : Nat) : Prop := row (o + (162 + 2 * i)) = hearers i ∧ row (o + (163 + 2 * i)) = minutes i ∧ (∃ c : Nat, c < 6 ∧ hearers i = nI c) ∧ ∃ c : Nat, c < 100 ∧ minutes i = nI c
def RBook (cries notes : Int32) (debts criers louds highs hours hearers minutes row : Nat → Int32) (o : Nat) : Prop := (∀ a b, a < 6 → b < 6 → debts (6 * a + b) = row (o + (44 + 6 * a + b)) - row (o + (44 + 6 * b + a))) ∧ (∃ n : Nat, n ≤ 20 ∧ cries = nI n ∧ row (o + 80) = nI n ∧ ∀ i, i < n → RCry i criers louds highs hours row o) ∧ ∃ k : Nat, k ≤ 12 ∧ notes = nI k ∧ row (o + 161) = nI k ∧ ∀ i, i < k → RNote i hearers minutes row o
def RLaw (fade laws nh nt : Int32) (lp : Nat → Int32) (yfade ylaws ynight ytimes : Int32) (yl : Nat → Int32) : Prop := yfade = fade ∧ ylaws = laws ∧ ynight = nh ∧ ytimes = nt ∧ (∃ c : Nat, c ≤ 9 ∧ fade = nI c) ∧ (∃ c : Nat, 1 ≤ c ∧ c ≤ 9 ∧ nt = nI c) ∧ ∃ n : Nat, n ≤ 6 ∧ laws = nI n ∧ ∀ i, i < n → yl (3 * i) = lp (3 * i) ∧ yl (3 * i + 1) = lp (3 * i + 1) ∧ yl (3 * i + 2) = lp (3 * i + 2) ∧ (∃ c : Nat, 1 ≤ c ∧ c ≤ 99 ∧ lp (3 * i) = nI c) ∧ (∃ c : Nat, c ≤ 60 ∧ lp (3 * i + 1) = nI c) ∧ ∃ c : Nat, 1 ≤ c ∧ c ≤ 99 ∧ lp (3 * i + 2) = nI c
def RImg (kept yk w h fade laws nh nt cries notes : Int32) (gr wi lp debts criers louds highs hours hearers minutes row : Nat → Int32) (o : Nat) (fade0 laws0 nh0 nt0 : Int32) (lp0 : Nat → Int32) : Prop := yk = kept ∧ (kept = 0 ∨ (kept = 1 ∧ RCan w h gr wi row o ∧ RBook cries notes debts criers louds highs hours hearers minutes row o ∧ fade = fade0 ∧ laws = laws0 ∧ nh = nh0 ∧ nt = nt0 ∧ ∀ i, i < 18 → lp i = lp0 i))
def RR (X : Nat → Int32) (XA : Nat → Nat → Int32) (Y : Nat → Int32) (YA : Nat → Nat → Int32) : Prop := RText (X 0) (XA 0) (Y 0) (YA 2) ∧ RCan (X 5) (X 6) (XA 2) (XA 3) (YA 0) 0 ∧ RLaw (X 7) (X 8) (X 9) (X 10) (XA 4) (Y 5) (Y 2) (Y 3) (Y 4) (YA 4) ∧ RBook (X 17) (X 18) (XA 8) (XA 9) (XA 10) (XA 11) (XA 12) (XA 13) (XA 14) (YA 0) 0 ∧ RImg (X 19) (YA 1 0) (X 20) (X 21) (X 22) (X 23) (X 24) (X 25) (X 26) (X 27) (XA 15) (XA 16) (XA 17) (XA 18) (XA 19) (XA 20) (XA 21) (XA 22) (XA 23) (XA 24) (YA 0) 186 (X 7) (X 8) (X 9) (X 10) (XA 4) ∧ RImg (X 28) (YA 1 1) (X 29) (X 30) (X 31) (X 32) (X 33) (X 34) (X 35) (X 36) (XA 25) (XA 26) (XA 27) (XA 28) (XA 29) (XA 30) (XA 31) (XA 32) (XA 33) (XA 34) (YA 0) 372 (X 7) (X 8) (X 9) (X 10) (XA 4)
theorem ob_erase : Ob_erase RR := by
  intro X XA XL Y YA h
  obtain ⟨⟨n, h1, h2, h3, h4⟩, hr⟩ := h
  exact ⟨_, _, rfl, rfl, by rw [h2, h3], ⟨0, by decide, rfl, rfl, fun i hi => absurd hi (Nat.not_lt_zero i)⟩, hr⟩
end M40
