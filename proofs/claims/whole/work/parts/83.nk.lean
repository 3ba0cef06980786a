/-! BEST: the tries' end is the choice's -/
def tMk (B : tB) (s : gS) : tB := (fun j => if j < 7 then s.1.2 j else B.1 j, s.2)
theorem tMk_2 (B : tB) (s t : gS) : tMk (tMk B s) t = tMk B t := by
  unfold tMk
  refine Prod.ext ?_ rfl
  funext j
  dsimp only
  by_cases h : j < 7
  · rw [if_pos h, if_pos h]
  · rw [if_neg h, if_neg h, if_neg h]
/-- a score to be outdone -/
def tSc (o : Int) (B : tB) : Int := o * B.2.1 + B.2.2
def tOk (B : tB) : Prop := (B.2.1 = -1 ∧ B.2.2 = -1) ∨ (0 ≤ B.2.1 ∧ B.2.1 ≤ 3 ∧ 0 ≤ B.2.2 ∧ B.2.2 ≤ 60)
def rO (b : Int) : Int := if b = 0 then 0 else 100
theorem tMore_sc {b pr wt : Int} {B : tB} (hB : tOk B) (p0 : 0 ≤ pr) (w0 : 0 ≤ wt) (w1 : wt ≤ 60) : tMore b pr wt B.2 ↔ tSc (rO b) B < rO b * pr + wt := by
  unfold tSc rO tMore
  by_cases c : b = 0
  · simp only [if_pos c]
    omega
  · simp only [if_neg c]
    unfold tOk at hB
    omega
/-- who is free from p on -/
def FI (n p : Nat) (mi : Int) (M : Nat → Int) (left : Nat) : Prop := left < 2 ^ n ∧ ∀ x, x < 7 → left.testBit x = decide (p ≤ x ∧ x < n ∧ M x = -1 ∧ ¬ (x : Int) = mi)
theorem FI_L {n p : Nat} {mi : Int} {M : Nat → Int} {left : Nat} (hp : p ≤ 7) (h : FI n p mi M left) : LI n p left := ⟨h.1, fun q hq => by rw [h.2 q (by omega), decide_eq_false (by omega)]⟩
section BTR
variable {W : Int → Int → Int} {U : Int → Int} {n : Nat} {b mi : Int}
/-- the fold over the partners of p -/
theorem fold_of {F : (Nat → Int) → Int → Int → tB → tB} {p rest : Nat} {M : Nat → Int} {pr wt : Int} {u : Nat → Int} {R : Nat → gS} {B : tB} {base : Int} (hE : ∀ q, p < q → q < n → ((q : Int) = mi ∨ ¬ M q = -1 ∨ ¬ 0 < W p q ↔ ¬ (rest.testBit q = true ∧ 0 < W p q))) (hF : ∀ q C, p < q → q < n → rest.testBit q = true → 0 < W p q → tOk C → F (oUp (oUp M p q) q p) (pr + 1) (wt + W p q) C = if tSc (rO b) C < base + u q then tMk C (R q) else C) (hR : ∀ q C, p < q → q < n → rest.testBit q = true → 0 < W p q → tOk (tMk C (R q)) ∧ tSc (rO b) (tMk C (R q)) = base + u q) : ∀ (m q : Nat) (C : tB), q + m = n → p < q → tOk C → (C = B ∧ (∀ y, p < y → y < q → rest.testBit y = true → 0 < W p y → base + u y ≤ tSc (rO b) B) ∨ ∃ c, p < c ∧ c < q ∧ rest.testBit c = true ∧ 0 < W p c ∧ C = tMk B (R c) ∧ tSc (rO b) B < base + u c ∧ (∀ y, p < y → y < q → rest.testBit y = true → 0 < W p y → u y ≤ u c) ∧ ∀ y, p < y → y < c → rest.testBit y = true → 0 < W p y → u y < u c) → (tL F W mi p M pr wt m q C = B ∧ (∀ y, p < y → y < n → rest.testBit y = true → 0 < W p y → base + u y ≤ tSc (rO b) B) ∨ ∃ c, p < c ∧ c < n ∧ rest.testBit c = true ∧ 0 < W p c ∧ tL F W mi p M pr wt m q C = tMk B (R c) ∧ tSc (rO b) B < base + u c ∧ (∀ y, p < y → y < n → rest.testBit y = true → 0 < W p y → u y ≤ u c) ∧ ∀ y, p < y → y < c → rest.testBit y = true → 0 < W p y → u y < u c) := by
  intro m
  induction m with
  | zero =>
    intro q C hq hp _ h
    have e : q = n := by omega
    rw [e] at h
    exact h
  | succ m ih =>
    intro q C hq hp hC h
    have hEq := hE q hp (by omega)
    have e : tL F W mi p M pr wt (m + 1) q C = if (q : Int) = mi ∨ ¬ M q = -1 ∨ ¬ 0 < W p q then tL F W mi p M pr wt m (q + 1) C else tL F W mi p M pr wt m (q + 1) (F (oUp (oUp M p q) q p) (pr + 1) (wt + W p q) C) := rfl
    rw [e]
    by_cases c : rest.testBit q = true ∧ 0 < W p q
    · rw [if_neg (fun z => (hEq.mp z) c), hF q C hp (by omega) c.1 c.2 hC]
      obtain ⟨r1, r2⟩ := hR q C hp (by omega) c.1 c.2
      by_cases g : tSc (rO b) C < base + u q
      · rw [if_pos g]
        refine ih (q + 1) _ (by omega) (by omega) r1 (Or.inr ?_)
        rcases h with ⟨h1, h2⟩ | ⟨x, x1, x2, x3, x4, x5, x6, x7, x8⟩
        · refine ⟨q, hp, by omega, c.1, c.2, by rw [h1], by rw [← h1]; exact g, fun y y1 y2 y3 y4 => ?_, fun y y1 y2 y3 y4 => ?_⟩
          · by_cases z : y = q
            · rw [z]
              exact Int.le_refl _
            · have := h2 y y1 (by omega) y3 y4
              rw [h1] at g
              omega
          · have := h2 y y1 (by omega) y3 y4
            rw [h1] at g
            omega
        · have s := (hR x B x1 (by omega) x3 x4).2
          rw [x5, s] at g
          refine ⟨q, hp, by omega, c.1, c.2, by rw [x5, tMk_2], by omega, fun y y1 y2 y3 y4 => ?_, fun y y1 y2 y3 y4 => ?_⟩
          · by_cases z : y = q
            · rw [z]
              exact Int.le_refl _
            · have := x7 y y1 (by omega) y3 y4
              omega
          · have := x7 y y1 (by omega) y3 y4
            omega
      · rw [if_neg g]
        refine ih (q + 1) C (by omega) (by omega) hC ?_
        rcases h with ⟨h1, h2⟩ | ⟨x, x1, x2, x3, x4, x5, x6, x7, x8⟩
        · refine Or.inl ⟨h1, fun y y1 y2 y3 y4 => ?_⟩
          by_cases z : y = q
          · rw [z, ← h1]
            omega
          · exact h2 y y1 (by omega) y3 y4
        · have s := (hR x B x1 (by omega) x3 x4).2
          rw [x5, s] at g
          refine Or.inr ⟨x, x1, by omega, x3, x4, x5, x6, fun y y1 y2 y3 y4 => ?_, x8⟩
          by_cases z : y = q
          · rw [z]
            omega
          · exact x7 y y1 (by omega) y3 y4
    · rw [if_pos (hEq.mpr c)]
      refine ih (q + 1) C (by omega) (by omega) hC ?_
      rcases h with ⟨h1, h2⟩ | ⟨x, x1, x2, x3, x4, x5, x6, x7, x8⟩
      · refine Or.inl ⟨h1, fun y y1 y2 y3 y4 => ?_⟩
        by_cases z : y = q
        · rw [z] at y3 y4
          exact absurd ⟨y3, y4⟩ c
        · exact h2 y y1 (by omega) y3 y4
      · refine Or.inr ⟨x, x1, by omega, x3, x4, x5, x6, fun y y1 y2 y3 y4 => ?_, x8⟩
        by_cases z : y = q
        · rw [z] at y3 y4
          exact absurd ⟨y3, y4⟩ c
        · exact x7 y y1 (by omega) y3 y4
theorem tries_of (hn : n ≤ 7) (hw : ∀ i j, 0 ≤ W i j ∧ W i j ≤ 20) (H : HV W U (rO b) n) : ∀ (k p left : Nat) (M : Nat → Int) (pr wt : Int) (B : tB), p + k = n → FI n p mi M left → 0 ≤ pr → 2 * pr + nSz left ≤ 7 → 0 ≤ wt → wt ≤ 20 * pr → tOk B → tR W b mi k p M pr wt B = if tSc (rO b) B < rO b * pr + wt + U left then tMk B (gE W U (rO b) k p ((left, M), (pr, wt))) else B := by
  have p2 : 2 ^ n ≤ 2 ^ 7 := Nat.pow_le_pow_right (by decide) hn
  intro k
  induction k with
  | zero =>
    intro p left M pr wt B hp hI p0 ps w0 w1 hB
    have hl := hI.1
    have z : left = 0 := by
      apply Nat.eq_of_testBit_eq
      intro i
      rw [Nat.zero_testBit]
      by_cases c : i < 7
      · rw [hI.2 i c, decide_eq_false (by omega)]
      · exact Nat.testBit_lt_two_pow (Nat.lt_of_lt_of_le hl (Nat.pow_le_pow_right (by decide) (by omega)))
    have u0 : U left = 0 := by rw [z]; exact H.1
    have m := tMore_sc (b := b) hB p0 w0 (by omega : wt ≤ 60)
    rw [u0, Int.add_zero]
    show (if tMore b pr wt B.2 then ((fun j => if j < 7 then M j else B.1 j, (pr, wt)) : tB) else B) = _
    by_cases c : tMore b pr wt B.2
    · rw [if_pos c, if_pos (m.mp c)]
      rfl
    · rw [if_neg c, if_neg (fun h => c (m.mpr h))]
  | succ k ih =>
    intro p left M pr wt B hp hI p0 ps w0 w1 hB
    have hl := hI.1
    have hL := FI_L (by omega) hI
    have hbit := hI.2 p (by omega)
    have eR : tR W b mi (k + 1) p M pr wt B = if ¬ M p = -1 ∨ (p : Int) = mi then tR W b mi k (p + 1) M pr wt B else tR W b mi k (p + 1) M pr wt (tL (fun M pr wt B => tR W b mi k (p + 1) M pr wt B) W mi p M pr wt k (p + 1) B) := rfl
    have eG : gE W U (rO b) (k + 1) p ((left, M), (pr, wt)) = gE W U (rO b) k (p + 1) (gSt W U (rO b) p ((left, M), (pr, wt))) := rfl
    rw [eR, eG]
    by_cases c : ¬ M p = -1 ∨ (p : Int) = mi
    · have hb : left.testBit p = false := by rw [hbit, decide_eq_false (by omega)]
      have e : gSt W U (rO b) p ((left, M), (pr, wt)) = ((left, M), (pr, wt)) := if_neg (by rw [hb]; decide)
      rw [if_pos c, e]
      refine ih (p + 1) left M pr wt B (by omega) ⟨hl, fun x hx => ?_⟩ p0 ps w0 w1 hB
      rw [hI.2 x hx]
      by_cases z : x = p
      · rw [decide_eq_false (by rw [z]; omega), decide_eq_false (by omega)]
      · exact decide_eq_decide.mpr (by omega)
    · have hb : left.testBit p = true := by rw [hbit, decide_eq_true (by omega)]
      rw [if_neg c]
      obtain ⟨b0, bl, br⟩ := low_of (by omega : left < 128) (by omega) hL.2 hb
      have sz := nSz_rst b0 (by omega : left < 128)
      rw [br] at sz
      obtain ⟨s1, s2, s3⟩ := step_of hn H (by omega) hL hb
      have e : gSt W U (rO b) p ((left, M), (pr, wt)) = if nLp W U (rO b) p left < 0 then ((nClr left p, M), (pr, wt)) else ((nClr (nClr left p) (nLp W U (rO b) p left).toNat, fun j => if j = (nLp W U (rO b) p left).toNat then (p : Int) else if j = p then nLp W U (rO b) p left else M j), (pr + 1, wt + W p (nLp W U (rO b) p left))) := if_pos hb
      have rl : nClr left p < 128 := nClr_lt (by omega) (by omega)
      have rn : nClr left p < 2 ^ n := Nat.lt_of_le_of_lt (nClr_le (by omega) (by omega)) hl
      have rb : ∀ x, x < 7 → (nClr left p).testBit x = decide (p + 1 ≤ x ∧ x < n ∧ M x = -1 ∧ ¬ (x : Int) = mi) := fun x hx => by
        rw [nClr_tb (by omega) (by omega) hx, hI.2 x hx]
        by_cases z : x = p
        · rw [decide_eq_false (p := ¬ x = p) (by omega), Bool.and_false, decide_eq_false (by omega)]
        · rw [decide_eq_true (p := ¬ x = p) z, Bool.and_true]
          exact decide_eq_decide.mpr (by omega)
      generalize hrs : nClr left p = rest at *
      -- what the pair of p and q leaves
      have part : ∀ q, p < q → q < n → rest.testBit q = true → 0 < W p q → FI n (p + 1) mi (oUp (oUp M p q) q p) (nClr rest q) ∧ 2 * (pr + 1) + nSz (nClr rest q) ≤ 7 ∧ 0 ≤ wt + W p q ∧ wt + W p q ≤ 20 * (pr + 1) ∧ nVw W U (rO b) p q (rest : Nat) = rO b + W p q + U (nClr rest q) := by
        intro q q1 q2 q3 q4
        have sz2 : nSz (nClr rest q) + 1 = nSz rest := nSz_one ⟨_, rl⟩ ⟨q, by omega⟩ q3
        have w := hw p q
        refine ⟨⟨Nat.lt_of_le_of_lt (nClr_le rl (by omega)) rn, fun x hx => ?_⟩, by omega, by omega, by omega, ?_⟩
        · rw [nClr_tb rl (by omega) hx, rb x hx]
          unfold oUp
          by_cases z : x = q
          · rw [if_pos z, decide_eq_false (p := ¬ x = q) (by omega), Bool.and_false, decide_eq_false (by omega)]
          · rw [if_neg z, decide_eq_true (p := ¬ x = q) z, Bool.and_true]
            by_cases y : x = p
            · rw [decide_eq_false (by omega), decide_eq_false (by omega)]
            · rw [if_neg y]
        · unfold nVw
          rw [if_pos q4, nClr_eq rl (by omega)]
      have fo := fold_of (W := W) (n := n) (b := b) (mi := mi) (F := fun M pr wt B => tR W b mi k (p + 1) M pr wt B) (p := p) (rest := rest) (M := M) (pr := pr) (wt := wt) (u := fun q => nVw W U (rO b) p q (rest : Nat)) (R := fun q => gE W U (rO b) k (p + 1) ((nClr rest q, oUp (oUp M p q) q p), (pr + 1, wt + W p q))) (B := B) (base := rO b * pr + wt) (fun q q1 q2 => by
          rw [rb q (by omega)]
          constructor
          · intro z y
            have := of_decide_eq_true y.1
            omega
          · intro z
            by_cases y : 0 < W p q
            · by_cases v : M q = -1 ∧ ¬ (q : Int) = mi
              · exact absurd ⟨decide_eq_true ⟨by omega, q2, v.1, v.2⟩, y⟩ z
              · omega
            · exact Or.inr (Or.inr y)) (fun q C q1 q2 q3 q4 hC => by
          obtain ⟨f1, f2, f3, f4, f5⟩ := part q q1 q2 q3 q4
          have := ih (p + 1) (nClr rest q) (oUp (oUp M p q) q p) (pr + 1) (wt + W p q) C (by omega) f1 (by omega) f2 f3 f4 hC
          rw [this, f5]
          rw [show rO b * (pr + 1) + (wt + W p q) + U (nClr rest q) = rO b * pr + wt + (rO b + W p q + U (nClr rest q)) from by rw [Int.mul_add]; omega]) (fun q C q1 q2 q3 q4 => by
          obtain ⟨f1, f2, f3, f4, f5⟩ := part q q1 q2 q3 q4
          obtain ⟨g1, g2, g3, g4, g5⟩ := gE_sc hn H hw k (p + 1) (nClr rest q) (oUp (oUp M p q) q p) (pr + 1) (wt + W p q) (by omega) (by omega) (FI_L (by omega) f1) (by omega) f2 f3 f4
          refine ⟨Or.inr ⟨g2, g3, g4, ?_⟩, ?_⟩
          · show (gE W U (rO b) k (p + 1) ((nClr rest q, oUp (oUp M p q) q p), (pr + 1, wt + W p q))).2.2 ≤ 60
            omega
          · show rO b * (gE W U (rO b) k (p + 1) ((nClr rest q, oUp (oUp M p q) q p), (pr + 1, wt + W p q))).2.1 + (gE W U (rO b) k (p + 1) ((nClr rest q, oUp (oUp M p q) q p), (pr + 1, wt + W p q))).2.2 = _
            rw [g1, f5, Int.mul_add]
            omega) k (p + 1) B (by omega) (by omega) hB (Or.inl ⟨rfl, fun y y1 y2 => by omega⟩)
      have alone := fun C hC => ih (p + 1) rest M pr wt C (by omega) ⟨rn, rb⟩ p0 (by omega) w0 w1 hC
      rcases fo with ⟨f1, f2⟩ | ⟨q, q1, q2, q3, q4, f1, f2, f3, f4⟩
      · rw [f1, alone B hB]
        have ule : tSc (rO b) B < rO b * pr + wt + U left → nLp W U (rO b) p left < 0 ∧ U left = U rest := by
          intro z
          rcases s3 with ⟨g1, g2, -⟩ | ⟨x, g1, g2, g3, g4, g5, g6, -⟩
          · exact ⟨g1, g2⟩
          · have xn : x < n := by
              rw [rb x g3] at g4
              exact (of_decide_eq_true g4).2.1
            have := f2 x g2 xn g4 g5
            have p5 := (part x g2 xn g4 g5).2.2.2.2
            rw [p5] at this
            omega
        by_cases z : tSc (rO b) B < rO b * pr + wt + U rest
        · obtain ⟨z1, z2⟩ := ule (by omega)
          rw [if_pos z, if_pos (by omega), e, if_pos z1]
        · rw [if_neg z, if_neg (fun y => by have := (ule y).2; omega)]
      · obtain ⟨t1, t2, t3, t4, t5⟩ := part q q1 q2 q3 q4
        rw [f1]
        obtain ⟨g1, g2, g3, g4, g5⟩ := gE_sc hn H hw k (p + 1) (nClr rest q) (oUp (oUp M p q) q p) (pr + 1) (wt + W p q) (by omega) (by omega) (FI_L (by omega) t1) (by omega) t2 t3 t4
        have sc : tSc (rO b) (tMk B (gE W U (rO b) k (p + 1) ((nClr rest q, oUp (oUp M p q) q p), (pr + 1, wt + W p q)))) = rO b * pr + wt + nVw W U (rO b) p q (rest : Nat) := by
          show rO b * (gE W U (rO b) k (p + 1) ((nClr rest q, oUp (oUp M p q) q p), (pr + 1, wt + W p q))).2.1 + (gE W U (rO b) k (p + 1) ((nClr rest q, oUp (oUp M p q) q p), (pr + 1, wt + W p q))).2.2 = _
          rw [g1, t5, Int.mul_add]
          omega
        have okq : tOk (tMk B (gE W U (rO b) k (p + 1) ((nClr rest q, oUp (oUp M p q) q p), (pr + 1, wt + W p q)))) := by
          refine Or.inr ⟨g2, g3, g4, ?_⟩
          show (gE W U (rO b) k (p + 1) ((nClr rest q, oUp (oUp M p q) q p), (pr + 1, wt + W p q))).2.2 ≤ 60
          omega
        rw [alone _ okq, sc]
        have m2 := s2 q q1 (by omega) q3
        have tgt : tSc (rO b) B < rO b * pr + wt + U left := by omega
        rw [if_pos tgt, e]
        by_cases z : rO b * pr + wt + nVw W U (rO b) p q (rest : Nat) < rO b * pr + wt + U rest
        · have nl : nLp W U (rO b) p left < 0 := by
            rcases s3 with ⟨h1, h2, -⟩ | ⟨x, h1, h2, h3, h4, h5, h6, -⟩
            · exact h1
            · have xn : x < n := by
                rw [rb x h3] at h4
                exact (of_decide_eq_true h4).2.1
              have a := f3 x h2 xn h4 h5
              have p5 := (part x h2 xn h4 h5).2.2.2.2
              rw [p5] at a
              omega
          rw [if_pos z, if_pos nl, tMk_2]
        · rw [if_neg z]
          have nl : nLp W U (rO b) p left = q := by
            rcases s3 with ⟨h1, h2, h3⟩ | ⟨x, h1, h2, h3, h4, h5, h6, h7⟩
            · exact absurd (show nVw W U (rO b) p q (rest : Nat) = U left by omega) (h3 q q1 (by omega) q3 q4)
            · have xn : x < n := by
                rw [rb x h3] at h4
                exact (of_decide_eq_true h4).2.1
              have a := f3 x h2 xn h4 h5
              have p5 := (part x h2 xn h4 h5).2.2.2.2
              rw [p5] at a
              have eqq : nVw W U (rO b) p q (rest : Nat) = U left := by omega
              by_cases l : x < q
              · have := f4 x h2 l h4 h5
                rw [p5] at this
                omega
              · by_cases l2 : q < x
                · exact absurd eqq (h7 q q1 l2 q3 q4)
                · rw [h1, show x = q from by omega]
          rw [nl, if_neg (by omega), Int.toNat_natCast]
          rfl
end BTR

