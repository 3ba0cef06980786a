/-! BEST: the values by bits and the choice, beside all ways tried one after another -/
/-- what the values are: of none 0, of more by the lowest one -/
def HV (W : Int → Int → Int) (U : Int → Int) (o : Int) (n : Nat) : Prop := U 0 = 0 ∧ (∀ b : Nat, b < 2 ^ n → 0 ≤ U b) ∧ ∀ b : Nat, 0 < b → b < 2 ^ n → U b = nBest W U o (nLow b) (nRst b) (U (nRst b)) (6 - nLow b)
theorem nBest_ext {W : Int → Int → Int} {U V : Int → Int} {o v : Int} {l r : Nat} (hr : r < 128) (h : ∀ c : Nat, c ≤ r → U c = V c) : ∀ m, l + m ≤ 6 → nBest W U o l r v m = nBest W V o l r v m
  | 0, _ => rfl
  | m + 1, hm => by
    have ih := nBest_ext (W := W) (o := o) (v := v) (l := l) hr h m (by omega)
    have e : nVw W U o l ((l + 1 + m : Nat) : Int) r = nVw W V o l ((l + 1 + m : Nat) : Int) r := by
      unfold nVw
      rw [nClr_eq hr (by omega), h _ (nClr_le hr (by omega))]
    show (if nIs ((l + 1 + m : Nat) : Int) r then (if nBest W U o l r v m < nVw W U o l ((l + 1 + m : Nat) : Int) r then nVw W U o l ((l + 1 + m : Nat) : Int) r else nBest W U o l r v m) else nBest W U o l r v m) = if nIs ((l + 1 + m : Nat) : Int) r then (if nBest W V o l r v m < nVw W V o l ((l + 1 + m : Nat) : Int) r then nVw W V o l ((l + 1 + m : Nat) : Int) r else nBest W V o l r v m) else nBest W V o l r v m
    rw [ih, e]
theorem rV_st (W : Int → Int → Int) (o : Int) (g : Nat → Int) {b : Nat} : ∀ (k x : Nat), x ≤ b → rV W o g (b + k) x = rV W o g b x
  | 0, _, _ => rfl
  | k + 1, x, h => by
    show (if x = b + k + 1 then _ else rV W o g (b + k) x) = _
    rw [if_neg (by omega), rV_st W o g k x h]
theorem HV_of {W : Int → Int → Int} {o : Int} {g : Nat → Int} {n : Nat} (hn : n ≤ 7) (hw : ∀ i j, 0 ≤ W i j ∧ W i j ≤ 20) (ho : 0 ≤ o ∧ o ≤ 100) : HV W (nVal (rV W o g (2 ^ n - 1))) o n := by
  have p1 : 1 ≤ 2 ^ n := Nat.one_le_two_pow
  have p2 : 2 ^ n ≤ 2 ^ 7 := Nat.pow_le_pow_right (by decide) hn
  have at' : ∀ x : Nat, x < 2 ^ n → nVal (rV W o g (2 ^ n - 1)) x = rV W o g x x := by
    intro x hx
    rw [nVal_n _ (by omega), show 2 ^ n - 1 = x + (2 ^ n - 1 - x) from by omega, rV_st W o g _ x (Nat.le_refl _)]
  refine ⟨?_, fun b hb => ?_, fun b h0 hb => ?_⟩
  · have := at' 0 (by omega)
    rw [show ((0 : Nat) : Int) = 0 from rfl] at this
    rw [this]
    exact (if_pos rfl : (if (0 : Nat) = 0 then (0 : Int) else g 0) = 0)
  · rw [at' b hb]
    exact (rV_bd hw ho b (by omega) b (Nat.le_refl _)).1
  · rw [at' b hb]
    obtain ⟨c, rfl⟩ : ∃ c, b = c + 1 := ⟨b - 1, by omega⟩
    have l1 := nRst_lt (b := c + 1) (by omega) (by omega)
    have l2 := nLow_le (b := c + 1) (by omega) (by omega)
    show (if c + 1 = c + 1 then nBest W (nVal (rV W o g c)) o (nLow (c + 1)) (nRst (c + 1)) (nVal (rV W o g c) (nRst (c + 1))) (6 - nLow (c + 1)) else _) = _
    rw [if_pos rfl]
    have e : ∀ x : Nat, x ≤ nRst (c + 1) → nVal (rV W o g c) x = nVal (rV W o g (2 ^ n - 1)) x := by
      intro x hx
      rw [at' x (by omega), nVal_n _ (by omega)]
      have := rV_st W o g (b := x) (c - x) x (Nat.le_refl _)
      rw [show x + (c - x) = c from by omega] at this
      exact this
    rw [e _ (Nat.le_refl _)]
    exact nBest_ext (by omega) e _ (by omega)
/-- the greatest of them -/
theorem nBest_max {W : Int → Int → Int} {U : Int → Int} {o v : Int} {l r : Nat} (hr : r < 128) : ∀ m, l + m ≤ 6 → v ≤ nBest W U o l r v m ∧ (∀ q, l < q → q ≤ l + m → r.testBit q = true → nVw W U o l (q : Int) r ≤ nBest W U o l r v m) ∧ (nBest W U o l r v m = v ∨ ∃ q, l < q ∧ q ≤ l + m ∧ r.testBit q = true ∧ nBest W U o l r v m = nVw W U o l (q : Int) r)
  | 0, _ => ⟨Int.le_refl _, fun q h1 h2 => by omega, Or.inl rfl⟩
  | m + 1, hm => by
    obtain ⟨i1, i2, i3⟩ := nBest_max (W := W) (U := U) (o := o) (v := v) (l := l) hr m (by omega)
    have hi := nIn (p := l + 1 + m) (b := r) (by omega) hr
    have e : nBest W U o l r v (m + 1) = if nIs ((l + 1 + m : Nat) : Int) r then (if nBest W U o l r v m < nVw W U o l ((l + 1 + m : Nat) : Int) r then nVw W U o l ((l + 1 + m : Nat) : Int) r else nBest W U o l r v m) else nBest W U o l r v m := rfl
    rw [e]
    by_cases c : nIs ((l + 1 + m : Nat) : Int) r
    · rw [if_pos c]
      by_cases g : nBest W U o l r v m < nVw W U o l ((l + 1 + m : Nat) : Int) r
      · rw [if_pos g]
        refine ⟨by omega, fun q h1 h2 h3 => ?_, Or.inr ⟨l + 1 + m, by omega, by omega, hi.mp c, rfl⟩⟩
        by_cases z : q = l + 1 + m
        · rw [z]
          exact Int.le_refl _
        · have := i2 q h1 (by omega) h3
          omega
      · rw [if_neg g]
        refine ⟨i1, fun q h1 h2 h3 => ?_, i3.imp id (fun ⟨q, a, b, w⟩ => ⟨q, a, by omega, w⟩)⟩
        by_cases z : q = l + 1 + m
        · rw [z]
          omega
        · exact i2 q h1 (by omega) h3
    · rw [if_neg c]
      refine ⟨i1, fun q h1 h2 h3 => ?_, i3.imp id (fun ⟨q, a, b, w⟩ => ⟨q, a, by omega, w⟩)⟩
      by_cases z : q = l + 1 + m
      · rw [z] at h3
        exact absurd (hi.mpr h3) c
      · exact i2 q h1 (by omega) h3
abbrev gS : Type := (Nat × (Nat → Int)) × (Int × Int)
def gSt (W : Int → Int → Int) (U : Int → Int) (o : Int) (p : Nat) (s : gS) : gS := if s.1.1.testBit p then (if nLp W U o p s.1.1 < 0 then ((nClr s.1.1 p, s.1.2), s.2) else ((nClr (nClr s.1.1 p) (nLp W U o p s.1.1).toNat, fun j => if j = (nLp W U o p s.1.1).toNat then (p : Int) else if j = p then nLp W U o p s.1.1 else s.1.2 j), (s.2.1 + 1, s.2.2 + W p (nLp W U o p s.1.1)))) else s
def gE (W : Int → Int → Int) (U : Int → Int) (o : Int) : Nat → Nat → gS → gS
  | 0, _, s => s
  | k + 1, p, s => gE W U o k (p + 1) (gSt W U o p s)
theorem gE_ch (W : Int → Int → Int) (U : Int → Int) (o : Int) (all : Nat) (g : Nat → Int) : ∀ k p, gE W U o k p (rCh W U o all g p) = rCh W U o all g (p + k)
  | 0, _ => rfl
  | k + 1, p => by
    have ih := gE_ch W U o all g k (p + 1)
    show gE W U o k (p + 1) (gSt W U o p (rCh W U o all g p)) = _
    rw [show p + (k + 1) = p + 1 + k from by omega, ← ih]
    rfl
/-- from people that there are none of on, nothing more is chosen -/
theorem gE_out (W : Int → Int → Int) (U : Int → Int) (o : Int) {s : gS} : ∀ k p, (∀ q, p ≤ q → s.1.1.testBit q = false) → gE W U o k p s = s
  | 0, _, _ => rfl
  | k + 1, p, h => by
    have e : gSt W U o p s = s := by
      unfold gSt
      rw [if_neg (by rw [h p (Nat.le_refl _)]; decide)]
    show gE W U o k (p + 1) (gSt W U o p s) = s
    rw [e]
    exact gE_out W U o k (p + 1) (fun q hq => h q (by omega))
theorem gE_add (W : Int → Int → Int) (U : Int → Int) (o : Int) : ∀ k m p s, gE W U o (k + m) p s = gE W U o m (p + k) (gE W U o k p s)
  | 0, m, p, s => by rw [Nat.zero_add]; rfl
  | k + 1, m, p, s => by
    rw [show k + 1 + m = (k + m) + 1 from by omega]
    show gE W U o (k + m) (p + 1) (gSt W U o p s) = gE W U o m (p + (k + 1)) (gE W U o k (p + 1) (gSt W U o p s))
    rw [gE_add W U o k m (p + 1), show p + (k + 1) = p + 1 + k from by omega]
/-- who is left from p on -/
def LI (n p left : Nat) : Prop := left < 2 ^ n ∧ ∀ q, q < p → left.testBit q = false
theorem low_of {p left : Nat} (h : left < 128) (hp : p < 7) (h1 : ∀ q, q < p → left.testBit q = false) (h2 : left.testBit p = true) : 0 < left ∧ nLow left = p ∧ nRst left = nClr left p := by
  have h0 : 0 < left := by
    apply Nat.pos_of_ne_zero
    intro z
    rw [z, Nat.zero_testBit] at h2
    exact absurd h2 (by decide)
  have c := (nBit_chk ⟨left, h⟩ h0).2.2.2.2.2 ⟨p, hp⟩
  have t := nLow_t h0 h
  have e : nLow left = p := by
    by_cases g : p < nLow left
    · have := c.2.1 g
      dsimp only at this
      rw [h2] at this
      exact absurd this (by decide)
    · by_cases g2 : nLow left < p
      · rw [h1 _ g2] at t
        exact absurd t (by decide)
      · omega
  exact ⟨h0, e, by rw [← e, nClr_low h0 h]⟩
theorem nClr_tb {b q x : Nat} (hb : b < 128) (hq : q < 7) (hx : x < 7) : (nClr b q).testBit x = (b.testBit x && decide (¬ x = q)) := by
  have := (nClr_chk ⟨b, hb⟩ ⟨q, hq⟩).2.2 ⟨x, hx⟩
  dsimp only at this
  rw [this]
  congr 1
  exact decide_eq_decide.mpr ⟨fun h z => h (Fin.ext z), fun h z => h (congrArg Fin.val z)⟩
theorem LI_clr {n p left q : Nat} (hn : n ≤ 7) (h : LI n p left) (hp : p < 7) (hq : q < 7) (hq' : q = p ∨ left.testBit p = false) : LI n (p + 1) (nClr left q) := by
  have p2 : 2 ^ n ≤ 2 ^ 7 := Nat.pow_le_pow_right (by decide) hn
  have hl := h.1
  refine ⟨Nat.lt_of_le_of_lt (nClr_le (by omega) hq) h.1, fun x hx => ?_⟩
  rw [nClr_tb (by omega) hq (by omega)]
  by_cases z : x = p
  · rcases hq' with e | e
    · rw [z, decide_eq_false (by omega), Bool.and_false]
    · rw [z, e, Bool.false_and]
  · rw [h.2 x (by omega), Bool.false_and]
theorem nSz_one : ∀ b : Fin 128, ∀ q : Fin 7, b.val.testBit q.val = true → nSz (nClr b.val q.val) + 1 = nSz b.val := by decide +kernel
section BST
variable {W : Int → Int → Int} {U : Int → Int} {o : Int} {n : Nat}
/-- what the lowest one's step is -/
theorem step_of (hn : n ≤ 7) (H : HV W U o n) {p left : Nat} (hp : p < 7) (h : LI n p left) (hb : left.testBit p = true) : U (nClr left p) ≤ U left ∧ (∀ q, p < q → q < 7 → (nClr left p).testBit q = true → nVw W U o p q (nClr left p : Nat) ≤ U left) ∧ ((nLp W U o p left < 0 ∧ U left = U (nClr left p) ∧ ∀ q, p < q → q < 7 → (nClr left p).testBit q = true → 0 < W p q → ¬ nVw W U o p q (nClr left p : Nat) = U left) ∨ ∃ q : Nat, nLp W U o p left = q ∧ p < q ∧ q < 7 ∧ (nClr left p).testBit q = true ∧ 0 < W p q ∧ U left = o + W p q + U (nClr (nClr left p) q) ∧ ∀ y, p < y → y < q → (nClr left p).testBit y = true → 0 < W p y → ¬ nVw W U o p y (nClr left p : Nat) = U left) := by
  have p2 : 2 ^ n ≤ 2 ^ 7 := Nat.pow_le_pow_right (by decide) hn
  have hl := h.1
  obtain ⟨b0, bl, br⟩ := low_of (by omega : left < 128) hp h.2 hb
  have rl : nClr left p < 128 := nClr_lt (by omega) hp
  have e := H.2.2 left b0 h.1
  rw [bl, br] at e
  obtain ⟨m1, m2, m3⟩ := nBest_max (W := W) (U := U) (o := o) (v := U (nClr left p)) (l := p) rl (6 - p) (by omega)
  rw [← e] at m1 m2 m3
  refine ⟨m1, fun q h1 h2 h3 => m2 q h1 (by omega) h3, ?_⟩
  unfold nLp
  rcases nFst_sp (fun q => nIs q ((nClr left p : Nat) : Int) ∧ 0 < W p q ∧ nVw W U o p q ((nClr left p : Nat) : Int) = U left) (6 - p) (p + 1) with ⟨f1, f2⟩ | ⟨x, f1, f2, f3, f4, f5⟩
  · refine Or.inl ⟨by rw [f1]; decide, ?_, fun q h1 h2 h3 h4 h5 => f2 q (by omega) (by omega) ⟨(nIn h2 rl).mpr h3, h4, h5⟩⟩
    rcases m3 with m3 | ⟨q, q1, q2, q3, q4⟩
    · exact m3
    · by_cases w : 0 < W p q
      · exact absurd ⟨(nIn (by omega) rl).mpr q3, w, q4.symm⟩ (f2 q (by omega) (by omega))
      · have z : nVw W U o p q ((nClr left p : Nat) : Int) = 0 := if_neg w
        have := H.2.1 (nClr left p) (Nat.lt_of_le_of_lt (nClr_le (by omega) hp) h.1)
        omega
  · obtain ⟨x1, x2, x3⟩ := f4
    refine Or.inr ⟨x, f1, by omega, by omega, (nIn (by omega) rl).mp x1, x2, ?_, fun y h1 h2 h3 h4 h5 => f5 y (by omega) h2 ⟨(nIn (by omega) rl).mpr h3, h4, h5⟩⟩
    rw [← x3]
    unfold nVw
    rw [if_pos x2, nClr_eq rl (by omega)]
/-- the end of the choice: its score, its bounds -/
theorem gE_sc (hn : n ≤ 7) (H : HV W U o n) (hw : ∀ i j, 0 ≤ W i j ∧ W i j ≤ 20) : ∀ (k p left : Nat) (M : Nat → Int) (pr wt : Int), p + k ≤ 7 → n ≤ p + k → LI n p left → 0 ≤ pr → 2 * pr + nSz left ≤ 7 → 0 ≤ wt → wt ≤ 20 * pr → o * (gE W U o k p ((left, M), (pr, wt))).2.1 + (gE W U o k p ((left, M), (pr, wt))).2.2 = o * pr + wt + U left ∧ 0 ≤ (gE W U o k p ((left, M), (pr, wt))).2.1 ∧ (gE W U o k p ((left, M), (pr, wt))).2.1 ≤ 3 ∧ 0 ≤ (gE W U o k p ((left, M), (pr, wt))).2.2 ∧ (gE W U o k p ((left, M), (pr, wt))).2.2 ≤ 20 * (gE W U o k p ((left, M), (pr, wt))).2.1 := by
  have p2 : 2 ^ n ≤ 2 ^ 7 := Nat.pow_le_pow_right (by decide) hn
  intro k
  induction k with
  | zero =>
    intro p left M pr wt h7 hpn hL p0 ps w0 w1
    have z : left = 0 := by
      apply Nat.eq_of_testBit_eq
      intro i
      rw [Nat.zero_testBit]
      by_cases c : i < p
      · exact hL.2 i c
      · exact Nat.testBit_lt_two_pow (Nat.lt_of_lt_of_le hL.1 (Nat.pow_le_pow_right (by decide) (by omega)))
    have u0 : U left = 0 := by rw [z]; exact H.1
    rw [u0]
    exact ⟨by show o * pr + wt = _; omega, p0, by show pr ≤ 3; omega, w0, w1⟩
  | succ k ih =>
    intro p left M pr wt h7 hpn hL p0 ps w0 w1
    have hl := hL.1
    show o * (gE W U o k (p + 1) (gSt W U o p ((left, M), (pr, wt)))).2.1 + (gE W U o k (p + 1) (gSt W U o p ((left, M), (pr, wt)))).2.2 = _ ∧ 0 ≤ (gE W U o k (p + 1) (gSt W U o p ((left, M), (pr, wt)))).2.1 ∧ (gE W U o k (p + 1) (gSt W U o p ((left, M), (pr, wt)))).2.1 ≤ 3 ∧ 0 ≤ (gE W U o k (p + 1) (gSt W U o p ((left, M), (pr, wt)))).2.2 ∧ (gE W U o k (p + 1) (gSt W U o p ((left, M), (pr, wt)))).2.2 ≤ 20 * (gE W U o k (p + 1) (gSt W U o p ((left, M), (pr, wt)))).2.1
    by_cases c : left.testBit p = true
    · obtain ⟨b0, bl, br⟩ := low_of (by omega : left < 128) (by omega) hL.2 c
      have sz := nSz_rst b0 (by omega : left < 128)
      rw [br] at sz
      obtain ⟨s1, s2, s3⟩ := step_of hn H (by omega) hL c
      have e : gSt W U o p ((left, M), (pr, wt)) = if nLp W U o p left < 0 then ((nClr left p, M), (pr, wt)) else ((nClr (nClr left p) (nLp W U o p left).toNat, fun j => if j = (nLp W U o p left).toNat then (p : Int) else if j = p then nLp W U o p left else M j), (pr + 1, wt + W p (nLp W U o p left))) := if_pos c
      have L1 := LI_clr hn hL (by omega) (by omega) (Or.inl rfl : p = p ∨ _)
      rcases s3 with ⟨g1, g2, -⟩ | ⟨q, g1, g2, g3, g4, g5, g6, -⟩
      · rw [e, if_pos g1, g2]
        exact ih (p + 1) (nClr left p) M pr wt (by omega) (by omega) L1 p0 (by omega) w0 w1
      · have rl : nClr left p < 128 := nClr_lt (by omega) (by omega)
        have sz2 : nSz (nClr (nClr left p) q) + 1 = nSz (nClr left p) := nSz_one ⟨_, rl⟩ ⟨q, g3⟩ g4
        have L2 : LI n (p + 1) (nClr (nClr left p) q) := ⟨Nat.lt_of_le_of_lt (nClr_le rl g3) L1.1, fun x hx => by rw [nClr_tb rl g3 (by omega), L1.2 x hx, Bool.false_and]⟩
        have w := hw p q
        have := ih (p + 1) (nClr (nClr left p) q) (fun j => if j = q then (p : Int) else if j = p then (q : Int) else M j) (pr + 1) (wt + W p q) (by omega) (by omega) L2 (by omega) (by omega) (by omega) (by omega)
        rw [e, g1, if_neg (by omega), Int.toNat_natCast, g6]
        rw [Int.mul_add] at this
        obtain ⟨t1, t2⟩ := this
        exact ⟨by rw [t1]; omega, t2⟩
    · have e : gSt W U o p ((left, M), (pr, wt)) = ((left, M), (pr, wt)) := if_neg c
      rw [e]
      have c' : left.testBit p = false := by
        cases h : left.testBit p with
        | false => rfl
        | true => exact absurd h c
      refine ih (p + 1) left M pr wt (by omega) (by omega) ⟨hL.1, fun q hq => ?_⟩ p0 ps w0 w1
      by_cases z : q = p
      · rw [z]; exact c'
      · exact hL.2 q (by omega)
end BST

