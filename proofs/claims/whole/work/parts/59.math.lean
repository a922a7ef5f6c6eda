section M59
/-- not by rfl: so that simp leaves a proof, and the kernel has nothing to unfold -/
theorem bN {α β : Type} (a : α) (f : α → Option β) : (some a).bind f = f a := (congrArg (fun x : Option β => x) (rfl : (some a).bind f = f a)).trans rfl
theorem RR_sc {X : Nat → Int32} {XA : Nat → Nat → Int32} {Y : Nat → Int32} {YA : Nat → Nat → Int32} (h : RR X XA Y YA) : ∃ a b f : Nat, 1 ≤ a ∧ a ≤ 6 ∧ 1 ≤ b ∧ b ≤ 6 ∧ f ≤ 9 ∧ X 5 = nI a ∧ X 6 = nI b ∧ X 7 = nI f ∧ Y 5 = nI f ∧ YA 0 0 = nI a ∧ YA 0 1 = nI b ∧ okG (XA 2) ∧ okR a b (XA 2) (YA 0) ∧ ∀ p, p < 6 → YA 0 (38 + p) = XA 3 p ∧ (XA 3 p = -1 ∨ ∃ c : Nat, c < a * b ∧ XA 3 p = nI c ∧ XA 2 c = -1) := by
  obtain ⟨ht, ⟨a, b, ha1, ha, hb1, hb, hw, hh, hr0, hr1, hg, hp⟩, ⟨hl1, hl2, hl3, hl4, ⟨f, hf, hl5⟩, hl6⟩, hbk, hi1, hi2⟩ := h
  simp only [Nat.zero_add] at hr0 hr1 hg hp
  exact ⟨a, b, f, ha1, ha, hb1, hb, hf, hw, hh, hl5, hl1.trans hl5, hr0, hr1, fun i hi => (hg i hi).2, ⟨hr0, hr1, fun i hi => (hg i hi).1⟩, hp⟩
theorem lsU480 {W : Nat → List (Option (Nat × Nat × Nat))} {a b : Nat} {gr : Nat → Int32} (hW : okW W a b gr) : (lsU W 8).length ≤ 480 := lsU_len (fun w hw => (hW w hw).1) 8 (by omega)
def gSnd (to : Int32) (s : Int32 × Int32 × Int32 × Int32) (e : Nat × Nat × Nat × Nat × Nat) : Int32 × Int32 × Int32 × Int32 := if nI e.1 = to then (s.1 + 1, (if nI e.2.2.2.1 ≤ 0 then s.2.1 + 0 else s.2.1 + 1), (if s.2.2.1 = -1 then nI e.2.1 else if s.2.2.1 ≤ nI e.2.1 then s.2.2.1 else nI e.2.1), if nI e.2.2.1 ≤ s.2.2.2 then s.2.2.2 else nI e.2.2.1) else s
theorem soundsM {L : List (Nat × Nat × Nat × Nat × Nat)} {m : Int32} {ca ti lo tw wa : Nat → Int32} (hL : LayS L (m, ca, ti, lo, tw, wa)) (h480 : L.length ≤ 480) (to x5 : Int32) : f_X10_sounds_L85 m ca ti lo tw wa to x5 FU 0 0 (-1) (-1) 0 = f_X10_sounds_J193 m ca ti lo tw wa x5 (L.foldl (gSnd to) (0, 0, -1, -1)).1 (L.foldl (gSnd to) (0, 0, -1, -1)).2.1 (L.foldl (gSnd to) (0, 0, -1, -1)).2.2.1 (L.foldl (gSnd to) (0, 0, -1, -1)).2.2.2 := by
  obtain ⟨hm, hL⟩ := hL
  have hm : m = nI L.length := hm
  subst hm
  refine g_ref L (gSnd to) (fun n s x => f_X10_sounds_L85 (nI L.length) ca ti lo tw wa to x5 n s.1 s.2.1 s.2.2.1 s.2.2.2 x) (fun s => f_X10_sounds_J193 (nI L.length) ca ti lo tw wa x5 s.1 s.2.1 s.2.2.1 s.2.2.2) (fun n s => ?_) (fun n s k e he => ?_) L.length 0 FU (0, 0, -1, -1) (Nat.zero_add _) (by have : FU = 5000 := rfl; omega)
  · show f_X10_sounds_L85 (nI L.length) ca ti lo tw wa to x5 (n + 1) s.1 s.2.1 s.2.2.1 s.2.2.2 (nI L.length) = _
    rw [f_X10_sounds_L85, if_pos (nI_le (Nat.le_refl _) (by omega))]
  · have hk := lt_of_get he
    obtain ⟨e1, e2, e3, e4, e5⟩ := hL k e he
    have e1 : ca k = nI e.1 := e1
    have e2 : ti k = nI e.2.1 := e2
    have e3 : lo k = nI e.2.2.1 := e3
    have e4 : tw k = nI e.2.2.2.1 := e4
    show f_X10_sounds_L85 (nI L.length) ca ti lo tw wa to x5 (n + 1) s.1 s.2.1 s.2.2.1 s.2.2.2 (nI k) = f_X10_sounds_L85 (nI L.length) ca ti lo tw wa to x5 n (gSnd to s e).1 (gSnd to s e).2.1 (gSnd to s e).2.2.1 (gSnd to s e).2.2.2 (nI (k + 1))
    rw [f_X10_sounds_L85, if_neg (nI_ge hk (by omega)), gd_t (ib_nI (show k < 480 by omega) (by decide))]
    unfold gSnd f_X10_sounds_J126 f_X10_sounds_J147 f_X10_sounds_J159 f_X10_sounds_J185 f_X10_sounds_J187
    simp only [gd_t (ib_nI (show k < 480 by omega) (by decide)), nI_clamp (show k < 2 ^ 31 by omega), e1, e2, e3, e4, st1]
    by_cases q1 : nI e.1 = to
    · simp only [if_pos q1]
      by_cases q2 : nI e.2.2.2.1 ≤ 0 <;> by_cases q3 : s.2.2.1 = -1 <;> by_cases q4 : s.2.2.1 ≤ nI e.2.1 <;> by_cases q5 : nI e.2.2.1 ≤ s.2.2.2 <;> simp only [q2, q3, q4, q5, if_true, if_false]
    · simp only [if_neg q1]
theorem gSnd_fold (to : Int32) : ∀ (L : List (Nat × Nat × Nat × Nat × Nat)) (s : Int32 × Int32 × Int32 × Int32), (∀ e ∈ L, e.2.2.2.1 ≤ 60) → L.foldl (gSnd to) s = (L.foldl (gCo to 0) s.1, L.foldl (gCo to 1) s.2.1, L.foldl (gFi to) s.2.2.1, L.foldl (gGr to) s.2.2.2) := by
  intro L
  induction L with
  | nil => intro s _; rfl
  | cons e r ih =>
    intro s hb
    have h60 := hb e (by simp)
    have hn : ¬ nI e.2.2.2.1 < 0 := nI_pos (by omega)
    have hg : gSnd to s e = (gCo to 0 s.1 e, gCo to 1 s.2.1 e, gFi to s.2.2.1 e, gGr to s.2.2.2 e) := by
      unfold gSnd gCo gFi gGr
      by_cases q1 : nI e.1 = to
      · simp only [if_pos q1, if_neg hn]
        have e2 : (if nI e.2.2.2.1 ≤ 0 then s.2.1 + 0 else s.2.1 + 1) = if nI e.2.2.2.1 < 1 then s.2.1 else s.2.1 + 1 := by
          by_cases z : e.2.2.2.1 = 0
          · rw [z]
            show s.2.1 + 0 = s.2.1
            exact add_0' _
          · rw [if_neg (nI_nle (by omega) (by omega)), if_neg (show ¬ nI e.2.2.2.1 < 1 from nI_nlt (b := 1) (by omega) (by omega))]
        have e4 : (if nI e.2.2.1 ≤ s.2.2.2 then s.2.2.2 else nI e.2.2.1) = if s.2.2.2 < nI e.2.2.1 then nI e.2.2.1 else s.2.2.2 := by
          by_cases z : nI e.2.2.1 ≤ s.2.2.2
          · rw [if_pos z, if_neg (Int32.not_lt.mpr z)]
          · rw [if_neg z, if_pos (Int32.not_le.mp z)]
        rw [e2, e4]
      · simp only [if_neg q1]
    rw [List.foldl_cons, hg, ih _ (fun x hx => hb x (by simp [hx]))]
    rfl
theorem in_03 (x : Int32) : f_X10_in x.toInt64 0 3 = some (if 0 ≤ x ∧ x ≤ 3 then 1 else 0) := in_32 x 0 3
set_option maxRecDepth 20000 in
theorem ob_sounds : Ob_sounds RR := by
  intro X XA XL Y YA x1 x2 x3 x4 x5 hx h
  obtain ⟨a, b, f, ha1, ha, hb1, hb, hf, e5, e6, e7, y5, r0, r1, hG, hR, hwin⟩ := RR_sc h
  have h36 := mul_le36 ha hb
  unfold f_X9_sounds f_X10_sounds
  rw [in_03]
  rcases ccase (gr := XA 2) (wi := XA 3) ha1 ha hb1 hb e5 e6 r0 r1 x1 with ⟨c, hc, rfl, q1, q2⟩ | ⟨q1, q2⟩
  · rcases ccase (gr := XA 2) (wi := XA 3) ha1 ha hb1 hb e5 e6 r0 r1 x4 with ⟨j, hj, rfl, q3, q4⟩ | ⟨q3, q4⟩
    · rcases lcase x2 with ⟨l, hl1, hl, rfl, q5, q6⟩ | ⟨q5, q6⟩
      · by_cases w0 : x5 < 0
        · simp only [q1, q2, q3, q4, q5, q6, bN, i10, i00, if_pos w0, if_neg (fun q : 0 ≤ x5 ∧ x5 ≤ 3 => absurd q.1 (Int32.not_le.mpr w0))]
          exact ⟨_, _, rfl, rfl, rfl, h⟩
        · by_cases w3 : x5 ≤ 3
          · simp only [q1, q2, q3, q4, q5, q6, bN, i10, if_neg w0, if_pos w3, if_pos (show 0 ≤ x5 ∧ x5 ≤ 3 from ⟨Int32.not_lt.mp w0, w3⟩), isRockC (XA 2) e5 e6 ha hb hc, isRockC (XA 2) e5 e6 ha hb hj, isFloorM (YA 0) (show c < 36 by omega), isFloorM (YA 0) (show j < 36 by omega), hR.2.2 c (by omega), hR.2.2 j (by omega)]
            by_cases g1 : XA 2 c = -1
            · by_cases g2 : XA 2 j = -1
              · obtain ⟨mk, la, s1, hv⟩ := spreadC hG ha1 ha hb hf x3 hc hl (XA 35) (XA 36)
                obtain ⟨⟨m, ca, ti, lo, tw, wa⟩, s2, hLay⟩ := laySoundsM hG hR ha1 ha hb1 hb hf x3 hc hl1 hl (Y 12) (YA 6) (YA 7) (YA 8) (YA 9) (YA 10)
                have hW := okWy ha hb (XA 2) f x3 hc hl
                have hbb := lsU_b ha hb hW
                rw [← e5, ← e6, ← e7] at s1
                rw [← y5] at s2
                have hfold := gSnd_fold (nI j) (lsU (Wy a b (XA 2) f x3 c l) 8) (0, 0, -1, -1) (fun e he => (hbb e he).2.2.2.1)
                simp only [if_pos g1, if_pos g2, i10, i00, s1, s2, bN, soundsM hLay (lsU480 hW), hfold]
                unfold f_X10_sounds_J193
                by_cases c0 : x5 = 0
                · simp only [if_pos c0, comingToC ha hb hW hv (show j < 36 by omega), bN]
                  exact ⟨_, _, rfl, rfl, rfl, h⟩
                · by_cases c1 : x5 = 1
                  · simp only [if_neg c0, if_pos c1, comingToC ha hb hW hv (show j < 36 by omega), bN]
                    exact ⟨_, _, rfl, rfl, rfl, h⟩
                  · by_cases c2 : x5 = 2
                    · obtain ⟨r, t1, t2⟩ := first_L2 ha hb hW hv (show j < 36 by omega) 60 1 FU (by decide) (by decide) (by decide) (fun w t' v _ h1 h2 _ => by omega)
                      have t1' : f_X8_firstTickAt mk la (nI j) = some r := t1
                      simp only [if_neg c0, if_neg c1, if_pos c2, t1', bN]
                      refine ⟨_, _, rfl, rfl, ?_, h⟩
                      have hf2 := gFi_fst (to := j) (by omega) (lsU (Wy a b (XA 2) f x3 c l) 8) [] (-1) (fun e he => ⟨(hbb e (by simpa using he)).1, (hbb e (by simpa using he)).2.1⟩) (Or.inl ⟨rfl, fun e he => absurd he (List.not_mem_nil)⟩)
                      exact isFirst_eq t2 (isFst_First hW hf2)
                    · simp only [if_neg c0, if_neg c1, if_neg c2, greatestC ha hb hW hv (show j < 36 by omega), bN]
                      exact ⟨_, _, rfl, rfl, rfl, h⟩
              · simp only [if_pos g1, if_neg g2, i10, i00, if_neg (show ¬ (1 : Int32) = 0 by decide)]
                exact ⟨_, _, rfl, rfl, rfl, h⟩
            · simp only [if_neg g1, i10, i00]
              exact ⟨_, _, rfl, rfl, rfl, h⟩
          · simp only [q1, q2, q3, q4, q5, q6, bN, i10, i00, if_neg w0, if_neg w3, if_neg (fun q : 0 ≤ x5 ∧ x5 ≤ 3 => w3 q.2)]
            exact ⟨_, _, rfl, rfl, rfl, h⟩
      · simp only [q1, q2, q3, q4, q5, q6, bN, i10, i00]
        exact ⟨_, _, rfl, rfl, rfl, h⟩
    · simp only [q1, q2, q3, q4, bN, i10, i00]
      exact ⟨_, _, rfl, rfl, rfl, h⟩
  · simp only [q1, q2, bN, i00]
    exact ⟨_, _, rfl, rfl, rfl, h⟩
end M59
