section M41
theorem gd_t {α : Type} {c : Prop} [Decidable c] {x : Option α} (h : c) : gd c x = x := if_pos h
theorem bS {α β : Type} (a : α) (f : α → Option β) : (some a).bind f = f a := rfl
theorem i10 {α : Type} (x y : α) : (if (1 : Int32) = 0 then x else y) = y := if_neg (by decide)
theorem i00 {α : Type} (x y : α) : (if (0 : Int32) = 0 then x else y) = x := if_pos rfl
theorem ib_of {x : Int32} {k n : Nat} (e : x = nI k) (h : k < n) (hn : n < 2 ^ 31) : ib x n := by rw [e]; exact ib_nI h hn
theorem cl_of {x : Int32} {k : Nat} (e : x = nI k) (h : k < 2 ^ 31) : Int32.toNatClampNeg x = k := by rw [e]; exact nI_clamp h
theorem upd_same (f : Nat → Int32) (k : Nat) (x : Int32) : upd f k x k = x := pk_us
theorem upd_ne (f : Nat → Int32) {k j : Nat} (x : Int32) (h : j ≠ k) : upd f k x j = f j := pk_un h
theorem nI_mul (a b : Nat) : nI a * nI b = nI (a * b) := by
  show Int32.ofNat a * Int32.ofNat b = Int32.ofNat (a * b)
  exact (Int32.ofNat_mul a b).symm
theorem nI_sub' {a b : Nat} (h : b ≤ a) : nI a - nI b = nI (a - b) := by
  have e : nI a = nI (a - b) + nI b := by rw [nI_add]; congr 1; omega
  rw [e]
  exact Int32.add_sub_cancel _ _
/-- RBook and RCan speak of single places of row -/
theorem RCan_row {w h : Int32} {gr wi row row' : Nat → Int32} {o : Nat} (H : RCan w h gr wi row o) (e : ∀ i, i < 44 → row' (o + i) = row (o + i)) : RCan w h gr wi row' o := by
  obtain ⟨a, b, h1, h2, h3, h4, h5, h6, h7, h8, h9, h10⟩ := H
  exact ⟨a, b, h1, h2, h3, h4, h5, h6, by rw [show o = o + 0 from rfl, e 0 (by decide)]; exact h7, by rw [e 1 (by decide)]; exact h8, fun i hi => ⟨by rw [e (2 + i) (by omega)]; exact (h9 i hi).1, (h9 i hi).2⟩, fun p hp => ⟨by rw [e (38 + p) (by omega)]; exact (h10 p hp).1, (h10 p hp).2⟩⟩
theorem RCry_row {i : Nat} {criers louds highs hours row row' : Nat → Int32} {o : Nat} (H : RCry i criers louds highs hours row o) (hi : i < 20) (e : ∀ i, 44 ≤ i → i < 186 → row' (o + i) = row (o + i)) : RCry i criers louds highs hours row' o := by
  obtain ⟨h1, h2, h3, h4, h5⟩ := H
  exact ⟨by rw [e _ (by omega) (by omega)]; exact h1, by rw [e _ (by omega) (by omega)]; exact h2, by rw [e _ (by omega) (by omega)]; exact h3, by rw [e _ (by omega) (by omega)]; exact h4, h5⟩
theorem RNote_row {i : Nat} {hearers minutes row row' : Nat → Int32} {o : Nat} (H : RNote i hearers minutes row o) (hi : i < 12) (e : ∀ i, 44 ≤ i → i < 186 → row' (o + i) = row (o + i)) : RNote i hearers minutes row' o := by
  obtain ⟨h1, h2, h5⟩ := H
  exact ⟨by rw [e _ (by omega) (by omega)]; exact h1, by rw [e _ (by omega) (by omega)]; exact h2, h5⟩
theorem RBook_row {cries notes : Int32} {debts criers louds highs hours hearers minutes row row' : Nat → Int32} {o : Nat} (H : RBook cries notes debts criers louds highs hours hearers minutes row o) (e : ∀ i, 44 ≤ i → i < 186 → row' (o + i) = row (o + i)) : RBook cries notes debts criers louds highs hours hearers minutes row' o := by
  obtain ⟨h1, ⟨n, hn, h2, h3, h4⟩, k, hk, h5, h6, h7⟩ := H
  exact ⟨fun a b ha hb => by rw [e _ (by omega) (by omega), e _ (by omega) (by omega)]; exact h1 a b ha hb, ⟨n, hn, h2, by rw [e _ (by omega) (by omega)]; exact h3, fun i hi => RCry_row (h4 i hi) (by omega) e⟩, k, hk, h5, by rw [e _ (by omega) (by omega)]; exact h6, fun i hi => RNote_row (h7 i hi) (by omega) e⟩
theorem RImg_row {kept yk w h fade laws nh nt cries notes : Int32} {gr wi lp debts criers louds highs hours hearers minutes row row' : Nat → Int32} {o : Nat} {fade0 laws0 nh0 nt0 : Int32} {lp0 : Nat → Int32} (H : RImg kept yk w h fade laws nh nt cries notes gr wi lp debts criers louds highs hours hearers minutes row o fade0 laws0 nh0 nt0 lp0) (e : ∀ i, i < 186 → row' (o + i) = row (o + i)) : RImg kept yk w h fade laws nh nt cries notes gr wi lp debts criers louds highs hours hearers minutes row' o fade0 laws0 nh0 nt0 lp0 := by
  obtain ⟨h1, h2 | ⟨h2, h3, h4, h5⟩⟩ := H
  · exact ⟨h1, Or.inl h2⟩
  · exact ⟨h1, Or.inr ⟨h2, RCan_row h3 (fun i hi => e i (by omega)), RBook_row h4 (fun i _ hi => e i hi), h5⟩⟩
theorem forgetR (row : Nat → Int32) : f_X10_forget row = some (row 161, upd row 161 0) := rfl
/-- row changed at one place of the notes or the cries: nothing else is touched -/
theorem ob_forget : Ob_forget RR := by
  intro X XA XL Y YA h
  obtain ⟨ht, hc, hl, ⟨hd, ⟨n, hn, h2, h3, h4⟩, k, hk, h5, h6, h7⟩, hi1, hi2⟩ := h
  refine ⟨_, _, rfl, forgetR _, ?_, ht, ?_, hl, ?_, ?_, ?_⟩
  · show X 18 = YA 0 161
    rw [h5]
    exact h6.symm
  · show RCan (X 5) (X 6) (XA 2) (XA 3) (upd (YA 0) 161 0) 0
    exact RCan_row hc (fun i hi => upd_ne _ _ (by omega))
  · show RBook (X 17) 0 (XA 8) (XA 9) (XA 10) (XA 11) (XA 12) (XA 13) (XA 14) (upd (YA 0) 161 0) 0
    refine ⟨fun a b ha hb => ?_, ⟨n, hn, h2, (upd_ne _ _ (by omega)).trans h3, fun i hi => ?_⟩, 0, by decide, rfl, upd_same _ _ _, fun i hi => absurd hi (Nat.not_lt_zero i)⟩
    · rw [upd_ne _ _ (by omega), upd_ne _ _ (by omega)]
      exact hd a b ha hb
    · obtain ⟨g1, g2, g3, g4, g5⟩ := h4 i hi
      exact ⟨(upd_ne _ _ (by omega)).trans g1, (upd_ne _ _ (by omega)).trans g2, (upd_ne _ _ (by omega)).trans g3, (upd_ne _ _ (by omega)).trans g4, g5⟩
  · exact RImg_row hi1 (fun i hi => upd_ne _ _ (by omega : 186 + i ≠ 161))
  · exact RImg_row hi2 (fun i hi => upd_ne _ _ (by omega : 372 + i ≠ 161))
theorem debt_nI (debts : Nat → Int32) {a b : Nat} (ha : a < 6) (hb : b < 6) : f_X1_debt debts (nI a) (nI b) = some (debts (6 * a + b)) := by
  have e : nI a * 6 + nI b = nI (6 * a + b) := by
    rw [show (6 : Int32) = nI 6 from rfl, nI_mul, nI_add]; congr 1; omega
  unfold f_X1_debt
  rcases pcase (nI a) with ⟨j, hj, ej, hp, -⟩ | ⟨hp, -⟩
  · rcases pcase (nI b) with ⟨j2, hj2, ej2, hp2, -⟩ | ⟨hp2, -⟩
    · simp only [hp, hp2, bS, i10]
      rw [e, gd_t (ib_nI (by omega) (by decide)), nI_clamp (by omega)]
    · exfalso
      revert hp2
      have : ∀ b, b < 6 → ¬ f_X9_isPerson (nI b) = some 0 := by decide
      exact this b hb
  · exfalso
    revert hp
    have : ∀ b, b < 6 → ¬ f_X9_isPerson (nI b) = some 0 := by decide
    exact this a ha
theorem owedBy_nI (row : Nat → Int32) {a b : Nat} (ha : a < 6) (hb : b < 6) : f_X10_owedBy row (nI a) (nI b) = some (row (44 + 6 * a + b) - row (44 + 6 * b + a)) := by
  have e : ∀ a b : Nat, 44 + 6 * nI a + nI b = nI (44 + 6 * a + b) := fun a b => by
    rw [show (6 : Int32) = nI 6 from rfl, show (44 : Int32) = nI 44 from rfl, nI_mul, nI_add, nI_add]
  unfold f_X10_owedBy
  rw [e, e, gd_t (ib_nI (by omega) (by decide)), gd_t (ib_nI (by omega) (by decide)), nI_clamp (by omega), nI_clamp (by omega)]
theorem ob_owed : Ob_owed RR := by
  intro X XA XL Y YA x1 x2 h
  have h0 := h
  obtain ⟨ht, hc, hl, ⟨hd, hcr, hn⟩, hi1, hi2⟩ := h
  unfold f_X9_owed f_X10_owed
  rcases pcase x1 with ⟨a, ha, rfl, hp, hq⟩ | ⟨hp, hq⟩
  · rcases pcase x2 with ⟨b, hb, rfl, hp2, hq2⟩ | ⟨hp2, hq2⟩
    · by_cases hab : nI a = nI b
      · simp only [hp, hq, hp2, hq2, bS, i10, if_pos hab]
        exact ⟨_, _, rfl, rfl, rfl, h0⟩
      · simp only [hp, hq, hp2, hq2, bS, i10, if_neg hab, debt_nI _ ha hb, owedBy_nI _ ha hb]
        refine ⟨_, _, rfl, rfl, ?_, h0⟩
        rw [Int32.add_comm, hd a b ha hb]
        simp only [Nat.zero_add]
    · simp only [hp, hq, hp2, hq2, bS, i10, i00]
      exact ⟨_, _, rfl, rfl, rfl, h0⟩
  · simp only [hp, hq, bS, i00]
    exact ⟨_, _, rfl, rfl, rfl, h0⟩
theorem lit_lt {x : Int32} {n : Nat} (h : x < nI n) (h0 : 0 ≤ x) (hn : n < 2 ^ 31) : ∃ j, j < n ∧ x = nI j := by
  obtain ⟨j, hj, rfl⟩ := nI_of (Int32.not_lt.mpr h0)
  exact ⟨j, (nI_ltI hj hn).mp h, rfl⟩
theorem lawPart_nI {laws : Int32} {n : Nat} (lp : Nat → Int32) (hl : laws = nI n) (hn : n ≤ 6) {i j : Nat} (hi : i < n) (hj : j < 3) : f_X2_lawPart laws lp (nI i) (nI j) = some (lp (3 * i + j)) := by
  have e : nI i * 3 + nI j = nI (3 * i + j) := by
    rw [show (3 : Int32) = nI 3 from rfl, nI_mul, nI_add]; congr 1; omega
  unfold f_X2_lawPart
  rw [hl, if_neg (nI_pos (by omega)), if_neg (nI_ge hi (by omega)), if_neg (show ¬ (6 : Int32) ≤ nI i from nI_ge (b := 6) (by omega) (by decide)), if_neg (nI_pos (by omega)), if_pos (show nI j < (3 : Int32) from nI_lt (b := 3) hj (by decide)), e, gd_t (ib_nI (by omega) (by decide)), nI_clamp (by omega)]
theorem in_02 (x : Int32) : f_X10_in x.toInt64 0 2 = some (if 0 ≤ x ∧ x ≤ 2 then 1 else 0) := in_32 x 0 2
theorem ob_law : Ob_law RR := by
  intro X XA XL Y YA x1 x2 h
  have h0 := h
  obtain ⟨ht, hc, ⟨hl1, hl2, hl3, hl4, hl5, hl6, n, hn, hl7, hl8⟩, hbk, hi1, hi2⟩ := h
  unfold f_X9_law f_X10_law
  rw [in_02]
  by_cases hx : x1 < 0
  · simp only [if_pos hx]
    exact ⟨_, _, rfl, rfl, rfl, h0⟩
  · by_cases hw0 : x2 < 0
    · simp only [if_neg hx, if_pos hw0, if_neg (fun q : 0 ≤ x2 ∧ x2 ≤ 2 => absurd q.1 (Int32.not_le.mpr hw0)), bS, i00]
      exact ⟨_, _, rfl, rfl, rfl, h0⟩
    · by_cases hw2 : x2 ≤ 2
      · obtain ⟨j, hj, rfl⟩ := rng (n := 2) (by decide) (Int32.not_lt.mp hw0) hw2
        obtain ⟨i, hi, rfl⟩ := nI_of hx
        simp only [if_neg hx, if_neg hw0, if_pos hw2, if_pos (show 0 ≤ nI j ∧ nI j ≤ 2 from ⟨Int32.not_lt.mp hw0, hw2⟩), bS, i10]
        by_cases hin : i < n
        · have h1 : nI i < X 8 := by rw [hl7]; exact nI_lt hin (by omega)
          have h2 : ¬ Y 2 ≤ nI i := by rw [hl2, hl7]; exact nI_ge hin (by omega)
          have e : 3 * nI i + nI j = nI (3 * i + j) := by
            rw [show (3 : Int32) = nI 3 from rfl, nI_mul, nI_add]
          simp only [if_pos h1, if_neg h2, lawPart_nI (XA 4) hl7 hn hin (show j < 3 by omega), bS, e, gd_t (ib_nI (show 3 * i + j < 18 by omega) (by decide)), nI_clamp (show 3 * i + j < 2 ^ 31 by omega)]
          refine ⟨_, _, rfl, rfl, ?_, h0⟩
          obtain ⟨g1, g2, g3, -⟩ := hl8 i hin
          rcases (show j = 0 ∨ j = 1 ∨ j = 2 by omega) with rfl | rfl | rfl
          · exact g1.symm
          · exact g2.symm
          · exact g3.symm
        · have h1 : ¬ nI i < X 8 := by rw [hl7]; exact nI_nlt (by omega) hi
          have h2 : Y 2 ≤ nI i := by rw [hl2, hl7]; exact nI_le (by omega) hi
          simp only [if_neg h1, if_pos h2]
          exact ⟨_, _, rfl, rfl, rfl, h0⟩
      · simp only [if_neg hx, if_neg hw0, if_neg hw2, if_neg (fun q : 0 ≤ x2 ∧ x2 ≤ 2 => hw2 q.2), bS, i00]
        exact ⟨_, _, rfl, rfl, rfl, h0⟩
end M41
