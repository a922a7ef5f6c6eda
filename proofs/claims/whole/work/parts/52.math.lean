section M52
/-! the way of a sound -/
theorem nI_div {a b : Nat} (ha : a < 2 ^ 31) (hb : b < 2 ^ 31) : nI a / nI b = nI (a / b) := by
  have hq : a / b ≤ a := Nat.div_le_self a b
  apply Int32.toInt_inj.mp
  rw [Int32.toInt_div, nI_toInt ha, nI_toInt hb, nI_toInt (by omega), ← Int.ofNat_tdiv]
  generalize a / b = q at hq ⊢
  exact Int.bmod_eq_of_le (by omega) (by omega)
theorem nI_rem {a b : Nat} (ha : a < 2 ^ 31) (hb : b < 2 ^ 31) : nI a - nI a / nI b * nI b = nI (a % b) := by
  have h := Nat.div_add_mod a b
  have h2 : a / b * b ≤ a := Nat.div_mul_le_self a b
  rw [nI_div ha hb, nI_mul, nI_sub' h2]
  congr 1
  rw [Nat.mul_comm] at h
  omega
/-- the cell that lies ahead -/
def ah (a b c w : Nat) : Option Nat :=
  let x := c % a + 1 + (if w = 1 ∨ w = 2 ∨ w = 3 then 1 else 0) - (if w = 5 ∨ w = 6 ∨ w = 7 then 1 else 0)
  let y := c / a + 1 + (if w = 3 ∨ w = 4 ∨ w = 5 then 1 else 0) - (if w = 0 ∨ w = 1 ∨ w = 7 then 1 else 0)
  if 1 ≤ x ∧ x ≤ a ∧ 1 ≤ y ∧ y ≤ b then some (a * (y - 1) + (x - 1)) else none
def oI : Option Nat → Int32
  | none => -1
  | some c => nI c
def ahOk (a b c w : Nat) : Option Nat → Bool
  | none => decide (¬ (0 ≤ nI (c % a) + colF w ∧ nI (c % a) + colF w ≤ nI a - 1) ∨ ¬ (0 ≤ nI (c / a) + rowF w ∧ nI (c / a) + rowF w ≤ nI b - 1))
  | some c' => decide (c' < a * b ∧ nI (c % a) + colF w = nI (c' % a) ∧ nI (c / a) + rowF w = nI (c' / a) ∧ nI a * nI (c' / a) + nI (c' % a) = nI c' ∧ 2 + nI a * nI (c' / a) + nI (c % a) + colF w = nI (2 + c') ∧ c' % a < a ∧ c' / a < b ∧ a * (c' / a) + c' % a = c')
theorem ah_all : ∀ a, a < 7 → ∀ b, b < 7 → ∀ c, c < a * b → ∀ w, w < 8 → f_X2_ahead (nI a) (nI b) (nI c) (nI w) = some (oI (ah a b c w)) ∧ ahOk a b c w (ah a b c w) = true := by decide +kernel
theorem ah_C {a b c w : Nat} (ha : a ≤ 6) (hb : b ≤ 6) (hc : c < a * b) (hw : w < 8) : f_X2_ahead (nI a) (nI b) (nI c) (nI w) = some (oI (ah a b c w)) := (ah_all a (by omega) b (by omega) c hc w hw).1
theorem ah_some {a b c w c' : Nat} (ha : a ≤ 6) (hb : b ≤ 6) (hc : c < a * b) (hw : w < 8) (h : ah a b c w = some c') : c' < a * b ∧ nI (c % a) + colF w = nI (c' % a) ∧ nI (c / a) + rowF w = nI (c' / a) ∧ nI a * nI (c' / a) + nI (c' % a) = nI c' ∧ 2 + nI a * nI (c' / a) + nI (c % a) + colF w = nI (2 + c') ∧ c' % a < a ∧ c' / a < b ∧ a * (c' / a) + c' % a = c' := by
  have := (ah_all a (by omega) b (by omega) c hc w hw).2
  rw [h] at this
  exact of_decide_eq_true this
theorem ah_none {a b c w : Nat} (ha : a ≤ 6) (hb : b ≤ 6) (hc : c < a * b) (hw : w < 8) (h : ah a b c w = none) : ¬ (0 ≤ nI (c % a) + colF w ∧ nI (c % a) + colF w ≤ nI a - 1) ∨ ¬ (0 ≤ nI (c / a) + rowF w ∧ nI (c / a) + rowF w ≤ nI b - 1) := by
  have := (ah_all a (by omega) b (by omega) c hc w hw).2
  rw [h] at this
  exact of_decide_eq_true this
def hW (w : Nat) : Nat := if w = 1 ∨ w = 3 then 2 else 6
def vW (w : Nat) : Nat := if w = 1 ∨ w = 7 then 0 else 4
def wb (w : Nat) (p q : Int32) : Nat := if w % 2 = 0 ∨ p = q then (w + 4) % 8 else if p = 0 then (12 - w) % 8 else (8 - w) % 8
theorem wb_lt (w : Nat) (p q : Int32) : wb w p q < 8 := by
  unfold wb
  by_cases h : w % 2 = 0 ∨ p = q
  · rw [if_pos h]; omega
  · rw [if_neg h]
    by_cases h2 : p = 0
    · rw [if_pos h2]; omega
    · rw [if_neg h2]; omega
theorem hvW (w : Nat) : hW w < 8 ∧ vW w < 8 := by
  unfold hW vW
  constructor <;> split <;> omega
/-- whether a rock lies there -/
def rk (a b : Nat) (gr : Nat → Int32) (c w : Nat) : Int32 :=
  match ah a b c w with
  | none => 0
  | some c' => if gr c' = -1 then 0 else 1
theorem rk01 (a b : Nat) (gr : Nat → Int32) (c w : Nat) : rk a b gr c w = 0 ∨ rk a b gr c w = 1 := by
  unfold rk
  split
  · exact Or.inl rfl
  · split
    · exact Or.inl rfl
    · exact Or.inr rfl
def sN (x : Int32) : Nat := Int32.toNatClampNeg x
def lbk (hi g : Int32) (l : Nat) : Nat := l - l * (if hi = 0 then sN g else min 100 (2 * sN g)) / 100
theorem lbk_le (hi g : Int32) (l : Nat) : lbk hi g l ≤ l := Nat.sub_le _ _
def pth (a b : Nat) (gr : Nat → Int32) (f : Nat) (hi : Int32) : Nat → Nat → Nat → Nat → Nat → List (Option (Nat × Nat × Nat))
  | 0, _, _, _, _ => []
  | d + 1, c, w, l, th =>
    match ah a b c w with
    | none => []
    | some c' =>
      if gr c' = -1 then (if l ≤ f then [] else some (c', l - f, th) :: pth a b gr f hi d c' w (l - f) th)
      else if lbk hi (gr c') l = 0 then [] else none :: pth a b gr f hi d c (wb w (rk a b gr c (hW w)) (rk a b gr c (vW w))) (lbk hi (gr c') l) (th + 1)
theorem pth_len (a b : Nat) (gr : Nat → Int32) (f : Nat) (hi : Int32) : ∀ d c w l th, (pth a b gr f hi d c w l th).length ≤ d := by
  intro d
  induction d with
  | zero => intro c w l th; exact Nat.le_refl 0
  | succ d ih =>
    intro c w l th
    rw [pth]
    split
    · exact Nat.zero_le _
    · split
      · split
        · exact Nat.zero_le _
        · exact Nat.succ_le_succ (ih _ _ _ _)
      · split
        · exact Nat.zero_le _
        · exact Nat.succ_le_succ (ih _ _ _ _)
def okS (a b : Nat) (gr : Nat → Int32) (m : Nat) (v : Nat × Nat × Nat) : Prop := v.1 < a * b ∧ gr v.1 = -1 ∧ 1 ≤ v.2.1 ∧ v.2.1 ≤ 99 ∧ v.2.2 ≤ m
theorem pth_ok {a b : Nat} (ha : a ≤ 6) (hb : b ≤ 6) (gr : Nat → Int32) (f : Nat) (hi : Int32) : ∀ d c w l th, c < a * b → w < 8 → l ≤ 99 → ∀ v, some v ∈ pth a b gr f hi d c w l th → okS a b gr (th + d) v := by
  intro d
  induction d with
  | zero => intro c w l th _ _ _ v hv; exact absurd hv (List.not_mem_nil)
  | succ d ih =>
    intro c w l th hc hw hl v hv
    rw [pth] at hv
    split at hv
    · exact absurd hv (List.not_mem_nil)
    · rename_i c' h
      have hc' := (ah_some ha hb hc hw h).1
      split at hv
      · rename_i hg
        split at hv
        · exact absurd hv (List.not_mem_nil)
        · rcases List.mem_cons.mp hv with e | hv
          · cases e
            exact ⟨hc', hg, by show 1 ≤ l - f; omega, by show l - f ≤ 99; omega, by show th ≤ _; omega⟩
          · have := ih _ _ _ _ hc' hw (by omega) v hv
            exact ⟨this.1, this.2.1, this.2.2.1, this.2.2.2.1, by have := this.2.2.2.2; omega⟩
      · split at hv
        · exact absurd hv (List.not_mem_nil)
        · rcases List.mem_cons.mp hv with e | hv
          · cases e
          · have := ih _ _ _ _ hc (wb_lt _ _ _) (Nat.le_trans (lbk_le _ _ _) hl) v hv
            exact ⟨this.1, this.2.1, this.2.2.1, this.2.2.2.1, by have := this.2.2.2.2; omega⟩
end M52
