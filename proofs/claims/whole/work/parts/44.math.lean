section M44
theorem isP1 : ∀ b, b < 6 → f_X9_isPerson (nI b) = some 1 := by decide
theorem e6 (a b : Nat) : nI a * 6 + nI b = nI (6 * a + b) := by
  rw [show (6 : Int32) = nI 6 from rfl, nI_mul, nI_add]; congr 1; omega
theorem e44 (a b : Nat) : 44 + 6 * nI a + nI b = nI (44 + 6 * a + b) := by
  rw [show (6 : Int32) = nI 6 from rfl, show (44 : Int32) = nI 44 from rfl, nI_mul, nI_add, nI_add]
/-- debts when one owes n more -/
def owe (debts : Nat → Int32) (a b : Nat) (n : Int32) : Nat → Int32 := upd (upd debts (6 * a + b) (debts (6 * a + b) + n)) (6 * b + a) (upd debts (6 * a + b) (debts (6 * a + b) + n) (6 * b + a) - n)
theorem owe_nI (debts : Nat → Int32) {a b : Nat} (ha : a < 6) (hb : b < 6) (n : Int32) : f_X1_owe debts (nI a) (nI b) n = some (owe debts a b n) := by
  unfold f_X1_owe
  simp only [isP1 a ha, isP1 b hb, bS, i10, e6, gd_t (ib_nI (show 6 * a + b < 36 by omega) (by decide)), gd_t (ib_nI (show 6 * b + a < 36 by omega) (by decide)), nI_clamp (show 6 * a + b < 2 ^ 31 by omega), nI_clamp (show 6 * b + a < 2 ^ 31 by omega)]
  rfl
theorem owe_at (debts : Nat → Int32) {a b c d : Nat} (ha : a < 6) (hb : b < 6) (hab : a ≠ b) (hc : c < 6) (hd : d < 6) (n : Int32) : owe debts a b n (6 * c + d) = if c = a ∧ d = b then debts (6 * a + b) + n else if c = b ∧ d = a then debts (6 * b + a) - n else debts (6 * c + d) := by
  unfold owe
  by_cases h1 : c = a ∧ d = b
  · obtain ⟨rfl, rfl⟩ := h1
    rw [if_pos ⟨rfl, rfl⟩, upd_ne _ _ (by omega), upd_same]
  · rw [if_neg h1]
    by_cases h2 : c = b ∧ d = a
    · obtain ⟨rfl, rfl⟩ := h2
      rw [if_pos ⟨rfl, rfl⟩, upd_same, upd_ne _ _ (by omega)]
    · rw [if_neg h2, upd_ne _ _ (by omega), upd_ne _ _ (by omega)]
theorem sub_neg' (x n : Int32) : x - -n = x + n := by rw [Int32.sub_eq_add_neg, Int32.neg_neg]
theorem ob_pay : Ob_pay RR := by
  intro X XA XL Y YA x1 x2 x3 h
  have h0 := h
  obtain ⟨ht, hc, hl, ⟨hd, ⟨N, hN, hc1, hc2, hc3⟩, ⟨k, hk, h5, h6, h7⟩⟩, hi1, hi2⟩ := h
  unfold f_X9_pay f_X10_pay
  rw [show f_X10_in x3.toInt64 1 9999 = some (if 1 ≤ x3 ∧ x3 ≤ 9999 then 1 else 0) from in_32 x3 1 9999]
  rcases pcase x1 with ⟨a, ha, rfl, hp, hq⟩ | ⟨hp, hq⟩
  · rcases pcase x2 with ⟨b, hb, rfl, hp2, hq2⟩ | ⟨hp2, hq2⟩
    · by_cases hab : nI a = nI b
      · simp only [hp, hq, hp2, hq2, bS, i10, if_pos hab]
        exact ⟨_, _, rfl, rfl, rfl, h0⟩
      · have hne : a ≠ b := fun e => hab (by rw [e])
        by_cases g1 : x3 < 1
        · simp only [hp, hq, hp2, hq2, bS, i10, i00, if_neg hab, if_pos g1, if_neg (fun q : 1 ≤ x3 ∧ x3 ≤ 9999 => absurd q.1 (Int32.not_le.mpr g1))]
          exact ⟨_, _, rfl, rfl, rfl, h0⟩
        · by_cases g2 : x3 ≤ 9999
          · have ed : XA 8 (6 * a + b) = YA 0 (44 + 6 * a + b) - YA 0 (44 + 6 * b + a) := by have := hd a b ha hb; simp only [Nat.zero_add] at this; exact this
            simp only [hp, hq, hp2, hq2, bS, i10, if_neg hab, if_neg g1, if_pos g2, if_pos (show 1 ≤ x3 ∧ x3 ≤ 9999 from ⟨Int32.not_lt.mp g1, g2⟩), debt_nI _ ha hb, owedBy_nI _ ha hb, owe_nI _ ha hb, e44, gd_t (ib_nI (show 44 + 6 * a + b < 558 by omega) (by decide)), nI_clamp (show 44 + 6 * a + b < 2 ^ 31 by omega), ← ed]
            by_cases g3 : x3 ≤ XA 8 (6 * a + b)
            · simp only [if_pos g3]
              refine ⟨_, _, rfl, rfl, ?_, ht, ?_, hl, ?_, ?_, ?_⟩
              · show 100000000 + owe (XA 8) a b (-x3) (6 * a + b) = upd (YA 0) (44 + 6 * a + b) (YA 0 (44 + 6 * a + b) - x3) (44 + 6 * a + b) - upd (YA 0) (44 + 6 * a + b) (YA 0 (44 + 6 * a + b) - x3) (44 + 6 * b + a) + 100000000
                rw [owe_at _ ha hb hne ha hb, if_pos ⟨rfl, rfl⟩, upd_same, upd_ne _ _ (by omega), ed, Int32.add_comm]
                congr 1
                rw [← Int32.sub_eq_add_neg, Int32.sub_eq_add_neg, Int32.sub_eq_add_neg, Int32.sub_eq_add_neg, Int32.sub_eq_add_neg, Int32.add_assoc, Int32.add_assoc, Int32.add_comm (-YA 0 (44 + 6 * b + a))]
              · exact RCan_row hc (fun i hi => upd_ne _ _ (by omega : 0 + i ≠ 44 + 6 * a + b))
              · show RBook (X 17) (X 18) (owe (XA 8) a b (-x3)) (XA 9) (XA 10) (XA 11) (XA 12) (XA 13) (XA 14) (upd (YA 0) (44 + 6 * a + b) (YA 0 (44 + 6 * a + b) - x3)) 0
                refine ⟨fun c d hc' hd' => ?_, ⟨N, hN, hc1, (upd_ne _ _ (by omega)).trans hc2, fun i hi => ?_⟩, k, hk, h5, (upd_ne _ _ (by omega)).trans h6, fun i hi => ?_⟩
                · have := hd c d hc' hd'
                  simp only [Nat.zero_add] at this ⊢
                  rw [owe_at _ ha hb hne hc' hd']
                  by_cases q1 : c = a ∧ d = b
                  · obtain ⟨rfl, rfl⟩ := q1
                    rw [if_pos ⟨rfl, rfl⟩, upd_same, upd_ne _ _ (by omega), this, Int32.sub_eq_add_neg, Int32.sub_eq_add_neg, Int32.sub_eq_add_neg, Int32.add_assoc, Int32.add_assoc, Int32.add_comm (-YA 0 (44 + 6 * d + c))]
                  · rw [if_neg q1]
                    by_cases q2 : c = b ∧ d = a
                    · obtain ⟨rfl, rfl⟩ := q2
                      rw [if_pos ⟨rfl, rfl⟩, upd_same, upd_ne _ _ (by omega), this, sub_neg', Int32.sub_eq_add_neg, Int32.sub_eq_add_neg, Int32.sub_eq_add_neg, Int32.neg_add, sub_neg', Int32.add_assoc]
                    · rw [if_neg q2, this, upd_ne _ _ (by omega), upd_ne _ _ (by omega)]
                · obtain ⟨g1, g2, g3, g4, g5⟩ := hc3 i hi
                  exact ⟨(upd_ne _ _ (by omega)).trans g1, (upd_ne _ _ (by omega)).trans g2, (upd_ne _ _ (by omega)).trans g3, (upd_ne _ _ (by omega)).trans g4, g5⟩
                · obtain ⟨g1, g2, g3⟩ := h7 i hi
                  exact ⟨(upd_ne _ _ (by omega)).trans g1, (upd_ne _ _ (by omega)).trans g2, g3⟩
              · exact RImg_row hi1 (fun i hi => upd_ne _ _ (by omega : 186 + i ≠ 44 + 6 * a + b))
              · exact RImg_row hi2 (fun i hi => upd_ne _ _ (by omega : 372 + i ≠ 44 + 6 * a + b))
            · simp only [if_neg g3]
              exact ⟨_, _, rfl, rfl, rfl, h0⟩
          · simp only [hp, hq, hp2, hq2, bS, i10, i00, if_neg hab, if_neg g1, if_neg g2, if_neg (fun q : 1 ≤ x3 ∧ x3 ≤ 9999 => g2 q.2)]
            exact ⟨_, _, rfl, rfl, rfl, h0⟩
    · simp only [hp, hq, hp2, hq2, bS, i10, i00]
      exact ⟨_, _, rfl, rfl, rfl, h0⟩
  · simp only [hp, hq, bS, i00]
    exact ⟨_, _, rfl, rfl, rfl, h0⟩
end M44
