section M43
theorem ib80 : ib 80 558 := by decide
theorem ib161 : ib 161 558 := by decide
def sm (f : Nat → Int32) : Nat → Int32
  | 0 => 0
  | k + 1 => sm f k + f k
theorem sm_congr {f g : Nat → Int32} : ∀ (k : Nat), (∀ p, p < k → f p = g p) → sm f k = sm g k := by
  intro k
  induction k with
  | zero => intro _; rfl
  | succ k ih =>
    intro h
    rw [sm, sm, h k (by omega), ih (fun p hp => h p (by omega))]
def ct (f : Nat → Int32) (c : Int32) : Nat → Int32
  | 0 => 0
  | k + 1 => ct f c k + (if f k = c then 1 else 0)
theorem ct_congr {f g : Nat → Int32} {c : Int32} : ∀ (k : Nat), (∀ p, p < k → f p = g p) → ct f c k = ct g c k := by
  intro k
  induction k with
  | zero => intro _; rfl
  | succ k ih =>
    intro h
    rw [ct, ct, h k (by omega), ih (fun p hp => h p (by omega))]
theorem net_L4C (debts : Nat → Int32) {a : Nat} (ha : a < 6) : ∀ (d k n : Nat), k + d = 6 → d < n → f_X1_netOf_L4 debts (nI a) n (sm (fun k => debts (6 * k + a)) k) (nI k) = some (sm (fun k => debts (6 * k + a)) 6) := by
  intro d
  induction d with
  | zero =>
    intro k n hk hn
    obtain ⟨n, rfl⟩ : ∃ m, n = m + 1 := ⟨n - 1, by omega⟩
    have : k = 6 := by omega
    subst this
    rw [f_X1_netOf_L4]
    rfl
  | succ d ih =>
    intro k n hk hn
    obtain ⟨n, rfl⟩ : ∃ m, n = m + 1 := ⟨n - 1, by omega⟩
    rw [f_X1_netOf_L4, if_neg (show ¬ (6 : Int32) ≤ nI k from nI_ge (b := 6) (by omega) (by decide)), debt_nI _ (by omega) ha, bS, st1]
    exact ih (k + 1) n (by omega) (by omega)
theorem netC (debts : Nat → Int32) {a : Nat} (ha : a < 6) : f_X1_netOf debts (nI a) = some (sm (fun k => debts (6 * k + a)) 6) := net_L4C debts ha 6 0 FU rfl (by decide)
theorem net_L4M (row : Nat → Int32) {a : Nat} (ha : a < 6) : ∀ (d k n : Nat), k + d = 6 → d < n → f_X10_net_L4 row (nI a) n (sm (fun k => row (44 + 6 * k + a) - row (44 + 6 * a + k)) k) (nI k) = some (sm (fun k => row (44 + 6 * k + a) - row (44 + 6 * a + k)) 6) := by
  have e : ∀ a b : Nat, 44 + 6 * nI a + nI b = nI (44 + 6 * a + b) := fun a b => by
    rw [show (6 : Int32) = nI 6 from rfl, show (44 : Int32) = nI 44 from rfl, nI_mul, nI_add, nI_add]
  intro d
  induction d with
  | zero =>
    intro k n hk hn
    obtain ⟨n, rfl⟩ : ∃ m, n = m + 1 := ⟨n - 1, by omega⟩
    have : k = 6 := by omega
    subst this
    rw [f_X10_net_L4]
    rfl
  | succ d ih =>
    intro k n hk hn
    obtain ⟨n, rfl⟩ : ∃ m, n = m + 1 := ⟨n - 1, by omega⟩
    rw [f_X10_net_L4, if_neg (show ¬ (6 : Int32) ≤ nI k from nI_ge (b := 6) (by omega) (by decide)), e, e, gd_t (ib_nI (by omega) (by decide)), gd_t (ib_nI (by omega) (by decide)), nI_clamp (by omega), nI_clamp (by omega), st1]
    exact ih (k + 1) n (by omega) (by omega)
theorem netM (row : Nat → Int32) {a : Nat} (ha : a < 6) : f_X10_net row (nI a) = some (sm (fun k => row (44 + 6 * k + a) - row (44 + 6 * a + k)) 6) := net_L4M row ha 6 0 FU rfl (by decide)
theorem isCry_nI {k : Nat} (h : k < 20) : f_X1_isCry (nI k) = some 1 := by
  unfold f_X1_isCry
  rw [if_neg (nI_pos (by omega)), if_neg (show ¬ (20 : Int32) ≤ nI k from nI_ge (b := 20) h (by decide))]
theorem crierOf_nI (f : Nat → Int32) {k : Nat} (h : k < 20) : f_X1_crierOf f (nI k) = some (f k) := by
  unfold f_X1_crierOf
  rw [isCry_nI h, bS, i10, gd_t (ib_nI h (by decide)), nI_clamp (by omega)]
theorem add_0' (x : Int32) : x + 0 = x := Int32.add_zero x
theorem cries_L4C (criers : Nat → Int32) (c : Int32) {N : Nat} (hN : N ≤ 20) : ∀ (d k n : Nat), k + d = N → d < n → f_X1_criesOf_L4 (nI N) criers c n (ct criers c k) (nI k) = some (ct criers c N) := by
  intro d
  induction d with
  | zero =>
    intro k n hk hn
    obtain ⟨n, rfl⟩ : ∃ m, n = m + 1 := ⟨n - 1, by omega⟩
    have : k = N := by omega
    subst this
    rw [f_X1_criesOf_L4, if_pos (nI_le (by omega) (by omega))]
  | succ d ih =>
    intro k n hk hn
    obtain ⟨n, rfl⟩ : ∃ m, n = m + 1 := ⟨n - 1, by omega⟩
    have := ih (k + 1) n (by omega) (by omega)
    rw [ct] at this
    rw [f_X1_criesOf_L4, if_neg (nI_ge (by omega) (by omega)), crierOf_nI _ (by omega), bS]
    unfold f_X1_criesOf_J24
    rw [st1]
    by_cases h : criers k = c
    · rw [if_pos h]; rw [if_pos h] at this; exact this
    · rw [if_neg h]; rw [if_neg h, add_0'] at this; exact this
theorem cries_L4M (row : Nat → Int32) (c : Int32) {N : Nat} (hN : N ≤ 20) (h80 : row 80 = nI N) : ∀ (d k n : Nat), k + d = N → d < n → f_X10_criesOf_L4 row c n (ct (fun i => row (81 + 4 * i)) c k) (nI k) = some (ct (fun i => row (81 + 4 * i)) c N) := by
  intro d
  induction d with
  | zero =>
    intro k n hk hn
    obtain ⟨n, rfl⟩ : ∃ m, n = m + 1 := ⟨n - 1, by omega⟩
    have : k = N := by omega
    subst this
    rw [f_X10_criesOf_L4, gd_t ib80, show Int32.toNatClampNeg 80 = 80 from rfl, h80, if_pos (nI_le (by omega) (by omega))]
  | succ d ih =>
    intro k n hk hn
    obtain ⟨n, rfl⟩ : ∃ m, n = m + 1 := ⟨n - 1, by omega⟩
    have := ih (k + 1) n (by omega) (by omega)
    rw [ct] at this
    rw [f_X10_criesOf_L4, gd_t ib80, show Int32.toNatClampNeg 80 = 80 from rfl, h80, if_neg (nI_ge (by omega) (by omega)), show (81 : Int32) + 4 * nI k = nI (81 + 4 * k) from (by rw [show (4 : Int32) = nI 4 from rfl, nI_mul]; exact nI_add 81 (4 * k)), gd_t (ib_nI (by omega) (by decide)), nI_clamp (by omega)]
    unfold f_X10_criesOf_J36
    rw [st1]
    by_cases h : row (81 + 4 * k) = c
    · rw [if_pos h]; rw [if_pos h] at this; exact this
    · rw [if_neg h]; rw [if_neg h] at this; exact this
theorem windowOf_nI (wi : Nat → Int32) {a : Nat} (ha : a < 6) : f_X2_windowOf wi (nI a) = some (wi a) := by
  have : ∀ b, b < 6 → f_X9_isPerson (nI b) = some 1 := by decide
  unfold f_X2_windowOf
  rw [this a ha, bS, i10, gd_t (ib_nI ha (by decide)), nI_clamp (by omega)]
theorem ob_person : Ob_person RR := by
  intro X XA XL Y YA x1 x2 h
  have h0 := h
  obtain ⟨ht, ⟨a0, b0, ha1, ha2, hb1, hb, hw, hh, hr0, hr1, hg, hp⟩, hl, ⟨hd, ⟨N, hN, hc1, hc2, hc3⟩, hn⟩, hi1, hi2⟩ := h
  simp only [Nat.zero_add] at hp hd hc2
  unfold f_X9_person f_X10_person
  rcases pcase x1 with ⟨a, ha, rfl, hp1, hq1⟩ | ⟨hp1, hq1⟩
  · simp only [hp1, hq1, bS, i10, windowOf_nI _ ha, netC _ ha, netM _ ha, show (38 : Int32) + nI a = nI (38 + a) from nI_add 38 a, gd_t (ib_nI (show 38 + a < 558 by omega) (by decide)), nI_clamp (show 38 + a < 2 ^ 31 by omega)]
    by_cases q0 : x2 = 0
    · simp only [if_pos q0]
      exact ⟨_, _, rfl, rfl, (hp a ha).1.symm, h0⟩
    · by_cases q1 : x2 = 1
      · simp only [if_neg q0, if_pos q1]
        refine ⟨_, _, rfl, rfl, ?_, h0⟩
        rw [Int32.add_comm, sm_congr 6 (fun k hk => hd k a hk ha)]
      · by_cases q2 : x2 = 2
        · simp only [if_neg q0, if_neg q1, if_pos q2]
          have e1 : f_X1_criesOf (X 17) (XA 9) (nI a) = some (ct (XA 9) (nI a) N) := by
            rw [hc1]; exact cries_L4C (XA 9) (nI a) hN N 0 FU (by omega) (by have : FU = 5000 := rfl; omega)
          have e2 : f_X10_criesOf (YA 0) (nI a) = some (ct (fun i => YA 0 (81 + 4 * i)) (nI a) N) := cries_L4M (YA 0) (nI a) hN hc2 N 0 FU (by omega) (by have : FU = 5000 := rfl; omega)
          rw [e1, e2]
          refine ⟨_, _, rfl, rfl, ?_, h0⟩
          exact ct_congr N (fun i hi => by have := (hc3 i hi).1; simp only [Nat.zero_add] at this; exact this.symm)
        · simp only [if_neg q0, if_neg q1, if_neg q2]
          exact ⟨_, _, rfl, rfl, rfl, h0⟩
  · simp only [hp1, hq1, bS, i00]
    exact ⟨_, _, rfl, rfl, rfl, h0⟩
end M43
