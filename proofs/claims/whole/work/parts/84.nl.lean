/-! BEST: what find leaves, what chooses leaves -/
section BGE
variable {W : Int → Int → Int} {U : Int → Int} {o : Int} {n : Nat}
/-- the partners beyond the seventh place matter to nobody -/
theorem gE_M : ∀ (k p left : Nat) (M N : Nat → Int) (pr wt : Int), (∀ j, j < 7 → M j = N j) → (gE W U o k p ((left, M), (pr, wt))).1.1 = (gE W U o k p ((left, N), (pr, wt))).1.1 ∧ (gE W U o k p ((left, M), (pr, wt))).2 = (gE W U o k p ((left, N), (pr, wt))).2 ∧ ∀ j, j < 7 → (gE W U o k p ((left, M), (pr, wt))).1.2 j = (gE W U o k p ((left, N), (pr, wt))).1.2 j := by
  intro k
  induction k with
  | zero => intro p left M N pr wt h; exact ⟨rfl, rfl, h⟩
  | succ k ih =>
    intro p left M N pr wt h
    show (gE W U o k (p + 1) (gSt W U o p ((left, M), (pr, wt)))).1.1 = (gE W U o k (p + 1) (gSt W U o p ((left, N), (pr, wt)))).1.1 ∧ (gE W U o k (p + 1) (gSt W U o p ((left, M), (pr, wt)))).2 = (gE W U o k (p + 1) (gSt W U o p ((left, N), (pr, wt)))).2 ∧ ∀ j, j < 7 → (gE W U o k (p + 1) (gSt W U o p ((left, M), (pr, wt)))).1.2 j = (gE W U o k (p + 1) (gSt W U o p ((left, N), (pr, wt)))).1.2 j
    unfold gSt
    by_cases c : left.testBit p = true
    · rw [if_pos c, if_pos c]
      by_cases g : nLp W U o p left < 0
      · rw [if_pos g, if_pos g]
        exact ih _ _ _ _ _ _ h
      · rw [if_neg g, if_neg g]
        refine ih _ _ _ _ _ _ (fun j hj => ?_)
        dsimp only
        rw [h j hj]
    · rw [if_neg c, if_neg c]
      exact ih _ _ _ _ _ _ h
theorem gE_lt {s : gS} (hn : n ≤ 7) : ∀ k p, p + k ≤ 7 → s.1.1 < 2 ^ n → (gE W U o k p s).1.1 < 2 ^ n := by
  have p2 : 2 ^ n ≤ 2 ^ 7 := Nat.pow_le_pow_right (by decide) hn
  intro k
  induction k generalizing s with
  | zero => intro p _ h; exact h
  | succ k ih =>
    intro p h7 h
    refine ih (p + 1) (by omega) ?_
    unfold gSt
    split
    · have c1 := nClr_le (b := s.1.1) (q := p) (by omega) (by omega)
      split
      · exact Nat.lt_of_le_of_lt c1 h
      · next g =>
        have z : (nLp W U o p s.1.1).toNat < 7 := by
          unfold nLp
          rcases nFst_sp (fun q => nIs q ((nClr s.1.1 p : Nat) : Int) ∧ 0 < W p q ∧ nVw W U o p q ((nClr s.1.1 p : Nat) : Int) = U s.1.1) (6 - p) (p + 1) with ⟨f1, -⟩ | ⟨x, f1, f2, f3, -⟩
          · rw [f1]
            decide
          · rw [f1, Int.toNat_natCast]
            omega
        exact Nat.lt_of_le_of_lt (Nat.le_trans (nClr_le (by omega) z) c1) h
    · exact h
theorem nCnt_flip {f g : Nat → Bool} {p : Nat} (hf : f p = false) (hg : g p = true) (h : ∀ x, ¬ x = p → g x = f x) : ∀ n, nCnt n g = nCnt n f + if p < n then 1 else 0
  | 0 => rfl
  | n + 1 => by
    have ih := nCnt_flip hf hg h n
    rw [nCnt_s, nCnt_s, ih]
    by_cases z : n = p
    · rw [z, hf, hg, if_neg (Nat.lt_irrefl p), if_pos (Nat.lt_succ_self p)]
      simp
    · rw [h n z]
      by_cases y : p < n
      · rw [if_pos y, if_pos (show p < n + 1 by omega)]
        omega
      · rw [if_neg y, if_neg (show ¬ p < n + 1 by omega)]
        omega
/-- the choice's partners are partners, so many -/
theorem gE_GM (hn : n ≤ 7) (hw : GW n W) (H : HV W U o n) : ∀ (k p left : Nat) (M : Nat → Int) (pr wt : Int), p + k ≤ 7 → LI n p left → GM n W (nM M) → (∀ x, x < 7 → left.testBit x = true → M x = -1) → pr = (nCnt n (bMp M) : Nat) → GM n W (nM (gE W U o k p ((left, M), (pr, wt))).1.2) ∧ (gE W U o k p ((left, M), (pr, wt))).2.1 = (nCnt n (bMp (gE W U o k p ((left, M), (pr, wt))).1.2) : Nat) := by
  have p2 : 2 ^ n ≤ 2 ^ 7 := Nat.pow_le_pow_right (by decide) hn
  intro k
  induction k with
  | zero => intro p left M pr wt _ _ hM _ hp; exact ⟨hM, hp⟩
  | succ k ih =>
    intro p left M pr wt h7 hL hM hF hp
    have hl := hL.1
    show GM n W (nM (gE W U o k (p + 1) (gSt W U o p ((left, M), (pr, wt)))).1.2) ∧ (gE W U o k (p + 1) (gSt W U o p ((left, M), (pr, wt)))).2.1 = (nCnt n (bMp (gE W U o k (p + 1) (gSt W U o p ((left, M), (pr, wt)))).1.2) : Nat)
    by_cases c : left.testBit p = true
    · obtain ⟨s1, s2, s3⟩ := step_of hn H (by omega) hL c
      have e : gSt W U o p ((left, M), (pr, wt)) = if nLp W U o p left < 0 then ((nClr left p, M), (pr, wt)) else ((nClr (nClr left p) (nLp W U o p left).toNat, fun j => if j = (nLp W U o p left).toNat then (p : Int) else if j = p then nLp W U o p left else M j), (pr + 1, wt + W p (nLp W U o p left))) := if_pos c
      have L1 := LI_clr hn hL (by omega) (by omega) (Or.inl rfl : p = p ∨ _)
      have rl : nClr left p < 128 := nClr_lt (by omega) (by omega)
      rcases s3 with ⟨g1, g2, -⟩ | ⟨q, g1, g2, g3, g4, g5, g6, -⟩
      · rw [e, if_pos g1]
        refine ih (p + 1) (nClr left p) M pr wt (by omega) L1 hM (fun x hx hb => hF x hx ?_) hp
        rw [nClr_tb (by omega) (by omega) hx] at hb
        exact (Bool.and_eq_true_iff.mp hb).1
      · rw [e, g1, if_neg (by omega), Int.toNat_natCast]
        have L2 : LI n (p + 1) (nClr (nClr left p) q) := ⟨Nat.lt_of_le_of_lt (nClr_le rl g3) L1.1, fun x hx => by rw [nClr_tb rl g3 (by omega), L1.2 x hx, Bool.false_and]⟩
        have lq : left.testBit q = true := by
          rw [nClr_tb (by omega) (by omega) g3] at g4
          exact (Bool.and_eq_true_iff.mp g4).1
        have mp := hF p (by omega) c
        have mq := hF q g3 lq
        have pn : p < n := by
          apply Decidable.byContradiction
          intro z
          rw [Nat.testBit_lt_two_pow (Nat.lt_of_lt_of_le hl (Nat.pow_le_pow_right (by decide) (by omega)))] at c
          exact absurd c (by decide)
        have qn : q < n := by
          apply Decidable.byContradiction
          intro z
          rw [Nat.testBit_lt_two_pow (Nat.lt_of_lt_of_le hl (Nat.pow_le_pow_right (by decide) (by omega)))] at lq
          exact absurd lq (by decide)
        have eM : ∀ a : Int, nM (fun j => if j = q then (p : Int) else if j = p then (q : Int) else M j) a = if a = (q : Int) then (p : Int) else if a = (p : Int) then (q : Int) else nM M a := by
          intro a
          unfold nM
          by_cases h : 0 ≤ a ∧ a < 7
          · rw [if_pos h, if_pos h]
            show (if a.toNat = q then (p : Int) else if a.toNat = p then (q : Int) else M a.toNat) = _
            by_cases z : a = (q : Int)
            · rw [if_pos (by omega), if_pos z]
            · rw [if_neg (by omega), if_neg z]
              by_cases y : a = (p : Int)
              · rw [if_pos (by omega), if_pos y]
              · rw [if_neg (by omega), if_neg y]
          · rw [if_neg h, if_neg h, if_neg (by omega), if_neg (by omega)]
        refine ih (p + 1) _ _ _ _ (by omega) L2 (GM_join hM hw.2.1 (nM_neg _) (i := (p : Int)) (j := (q : Int)) (by rw [nM_at (by omega)]; exact mp) (by rw [nM_at g3]; exact mq) (by omega) (by omega) (by omega) (by omega) (by omega) (by omega) g5 eM) (fun x hx hb => ?_) ?_
        · rw [nClr_tb rl g3 hx, nClr_tb (by omega) (by omega) hx] at hb
          obtain ⟨hb1, hb2⟩ := Bool.and_eq_true_iff.mp hb
          obtain ⟨hb3, hb4⟩ := Bool.and_eq_true_iff.mp hb1
          have x1 : ¬ x = q := of_decide_eq_true hb2
          have x2 : ¬ x = p := of_decide_eq_true hb4
          rw [if_neg x1, if_neg x2]
          exact hF x hx hb3
        · have fl := nCnt_flip (f := bMp M) (g := bMp (fun j => if j = q then (p : Int) else if j = p then (q : Int) else M j)) (p := p) (by
            unfold bMp
            rw [nM_at (by omega), mp]
            exact decide_eq_false (by omega)) (by
            unfold bMp
            rw [eM, if_neg (by omega), if_pos rfl]
            exact decide_eq_true (by omega)) (fun x hx => by
            unfold bMp
            rw [eM]
            by_cases z : x = q
            · rw [if_pos (by omega), z, nM_at g3, mq, decide_eq_false (by omega), decide_eq_false (by omega)]
            · rw [if_neg (by omega), if_neg (by omega)]) n
          rw [fl, if_pos pn, hp]
          omega
    · have e : gSt W U o p ((left, M), (pr, wt)) = ((left, M), (pr, wt)) := if_neg c
      have c' : left.testBit p = false := by
        cases h : left.testBit p with
        | false => rfl
        | true => exact absurd h c
      rw [e]
      refine ih (p + 1) left M pr wt (by omega) ⟨hL.1, fun q hq => ?_⟩ hM hF hp
      by_cases z : q = p
      · rw [z]; exact c'
      · exact hL.2 q (by omega)
end BGE
/-- the class's find, told by the choice -/
def fU (σ : oSg) (a t : Nat) (r : Int) : Int → Int := nVal ((sFind σ a t r).2 (oRf a 4))
def fM (σ : oSg) (a : Nat) : Nat → Int := fun j => if j < 7 then -1 else σ.2 (oRf a 3) j
theorem find_of {σ : oSg} {a t : Nat} {r : Int} {n : Nat} (ha : oKd a = some 3) (ht : oKd t = some 4) (hN : cNet σ t) (hn : σ.1 t 0 = n) (hr : r = 0 ∨ r = 1) : HV (nW (σ.2 (oRf t 1))) (fU σ a t r) (rO r) n ∧ (sFind σ a t r).2 (oRf a 3) = (gE (nW (σ.2 (oRf t 1))) (fU σ a t r) (rO r) n 0 ((2 ^ n - 1, fM σ a), (0, 0))).1.2 ∧ (sFind σ a t r).1 a 1 = (gE (nW (σ.2 (oRf t 1))) (fU σ a t r) (rO r) n 0 ((2 ^ n - 1, fM σ a), (0, 0))).2.1 ∧ (sFind σ a t r).1 a 0 = (gE (nW (σ.2 (oRf t 1))) (fU σ a t r) (rO r) n 0 ((2 ^ n - 1, fM σ a), (0, 0))).2.2 := by
  obtain ⟨h1, h2, h3, h4, h5⟩ := mat_ok ha
  obtain ⟨e1, e2⟩ := mn_ne ha ht
  obtain ⟨n0, n7, hw⟩ := hN
  have p1 : 1 ≤ 2 ^ n := Nat.one_le_two_pow
  have hat : ¬ t = a := by
    intro z
    rw [z, ha] at ht
    exact absurd ht (by decide)
  have ro : (if r = 1 then (100 : Int) else 0) = rO r := by
    unfold rO
    rcases hr with rfl | rfl
    · rfl
    · rfl
  obtain ⟨τ, hτ⟩ : ∃ τ, oSW (oSF σ a 2 (rO r)) (oRf a 4) (rV (nW (σ.2 (oRf t 1))) (rO r) (σ.2 (oRf a 4)) (2 ^ n - 1)) = τ := ⟨_, rfl⟩
  have eS : sFind σ a t r = sChoo τ a t := by
    unfold sFind
    rw [ro, hn, Int.toNat_natCast, hτ]
  have t1 : nW (τ.2 (oRf t 1)) = nW (σ.2 (oRf t 1)) := by rw [← hτ, oSW_ne _ e2, oSF_2]
  have t2 : τ.1 a 2 = rO r := by rw [← hτ]; exact oSF_s _ _ _ _
  have t3 : τ.1 t 0 = n := by
    rw [← hτ, ← hn]
    exact oSF_o _ _ (fun z => hat z.1)
  have t4 : τ.2 (oRf a 4) = rV (nW (σ.2 (oRf t 1))) (rO r) (σ.2 (oRf a 4)) (2 ^ n - 1) := by rw [← hτ, oSW_at]
  have t5 : τ.2 (oRf a 3) = σ.2 (oRf a 3) := by rw [← hτ, oSW_ne _ h5, oSF_2]
  have v4 : (sChoo τ a t).2 (oRf a 4) = τ.2 (oRf a 4) := by
    funext j
    exact if_neg (fun z => h5 z.symm)
  have eU : fU σ a t r = nVal (τ.2 (oRf a 4)) := by
    unfold fU
    rw [eS, v4]
  have eCh : rCh (nW (τ.2 (oRf t 1))) (nVal (τ.2 (oRf a 4))) (τ.1 a 2) (2 ^ (τ.1 t 0).toNat - 1) (fun j => if j < 7 then -1 else τ.2 (oRf a 3) j) 7 = gE (nW (σ.2 (oRf t 1))) (fU σ a t r) (rO r) n 0 ((2 ^ n - 1, fM σ a), (0, 0)) := by
    rw [t1, t2, t3, t5, Int.toNat_natCast, ← eU]
    have g0 := gE_ch (nW (σ.2 (oRf t 1))) (fU σ a t r) (rO r) (2 ^ n - 1) (fM σ a) 7 0
    rw [Nat.zero_add] at g0
    refine Eq.trans g0.symm ?_
    show gE (nW (σ.2 (oRf t 1))) (fU σ a t r) (rO r) 7 0 ((2 ^ n - 1, fM σ a), (0, 0)) = _
    have g1 := gE_add (nW (σ.2 (oRf t 1))) (fU σ a t r) (rO r) n (7 - n) 0 ((2 ^ n - 1, fM σ a), (0, 0))
    rw [show n + (7 - n) = 7 from by omega] at g1
    rw [g1]
    refine gE_out _ _ _ _ _ (fun q hq => ?_)
    have lt := gE_lt (W := nW (σ.2 (oRf t 1))) (U := fU σ a t r) (o := rO r) (s := ((2 ^ n - 1, fM σ a), (0, 0))) (n := n) (by omega) n 0 (by omega) (by show 2 ^ n - 1 < 2 ^ n; omega)
    exact Nat.testBit_lt_two_pow (Nat.lt_of_lt_of_le lt (Nat.pow_le_pow_right (by decide) (by omega)))
  have ho : 0 ≤ rO r ∧ rO r ≤ 100 := by
    unfold rO
    split <;> omega
  refine ⟨?_, ?_, ?_, ?_⟩
  · rw [eU, t4]
    exact HV_of (by omega) hw ho
  · rw [eS, ← eCh]
    funext j
    exact if_pos rfl
  · rw [eS, ← eCh]
    exact (if_neg (by omega)).trans (if_pos ⟨rfl, rfl⟩)
  · rw [eS, ← eCh]
    exact if_pos ⟨rfl, rfl⟩
theorem all_tb (n x : Nat) : (2 ^ n - 1).testBit x = decide (x < n) := Nat.testBit_two_pow_sub_one n x
theorem LI_all (n : Nat) : LI n 0 (2 ^ n - 1) := by
  have p1 : 1 ≤ 2 ^ n := Nat.one_le_two_pow
  exact ⟨by omega, fun q hq => absurd hq (Nat.not_lt_zero q)⟩
theorem FI_all {n : Nat} {M : Nat → Int} (hM : ∀ j, j < 7 → M j = -1) : FI n 0 (-1) M (2 ^ n - 1) := by
  have p1 : 1 ≤ 2 ^ n := Nat.one_le_two_pow
  refine ⟨by omega, fun x hx => ?_⟩
  rw [all_tb]
  have := hM x hx
  exact decide_eq_decide.mpr (by omega)
theorem FI_but {n p : Nat} {M : Nat → Int} (hn : n ≤ 7) (hp : p < 7) (hM : ∀ j, j < 7 → M j = -1) : FI n 0 (p : Int) M (nClr (2 ^ n - 1) p) := by
  have p1 : 1 ≤ 2 ^ n := Nat.one_le_two_pow
  have p2 : 2 ^ n ≤ 2 ^ 7 := Nat.pow_le_pow_right (by decide) hn
  have c := nClr_le (b := 2 ^ n - 1) (q := p) (by omega) hp
  refine ⟨by omega, fun x hx => ?_⟩
  rw [nClr_tb (by omega) hp hx, all_tb]
  have := hM x hx
  by_cases z : x = p
  · rw [decide_eq_false (p := ¬ x = p) (by omega), Bool.and_false, decide_eq_false (by omega)]
  · rw [decide_eq_true (p := ¬ x = p) z, Bool.and_true]
    exact decide_eq_decide.mpr (by omega)
/-- the model's chooses, told by the same choice -/
theorem chooses_of {τ : oSg} {W : Int → Int → Int} {U : Int → Int} {n : Nat} {r : Int} (hN : mNet τ) (hW : nW (gW (τ.2 69)) = W) (hn : τ.2 69 0 = n) (hr : r = 0 ∨ r = 1) (H : HV W U (rO r) n) : yB τ r (-1) = tMk (τ.2 76, (-1, -1)) (gE W U (rO r) n 0 ((2 ^ n - 1, yM0 τ), (0, 0))) := by
  obtain ⟨n0, n7, hw⟩ := hN
  rw [hW] at hw
  have m0 : ∀ j, j < 7 → yM0 τ j = -1 := fun j hj => if_pos hj
  have := tries_of (W := W) (U := U) (n := n) (b := r) (mi := -1) (by omega) hw H n 0 (2 ^ n - 1) (yM0 τ) 0 0 (τ.2 76, (-1, -1)) (by omega) (FI_all m0) (by decide) (by have := nSz_le (2 ^ n - 1); omega) (by decide) (by decide) (Or.inl ⟨rfl, rfl⟩)
  unfold yB
  rw [hW, hn, Int.toNat_natCast, this, if_pos ?_]
  have p1 : 1 ≤ 2 ^ n := Nat.one_le_two_pow
  have u := H.2.1 (2 ^ n - 1) (by omega)
  unfold tSc rO
  rcases hr with rfl | rfl
  · rw [if_pos rfl]
    dsimp only
    omega
  · rw [if_neg (by decide)]
    dsimp only
    omega
/-- the weight of the best without one -/
theorem without_of {τ : oSg} {W : Int → Int → Int} {U : Int → Int} {n p : Nat} (hN : mNet τ) (hW : nW (gW (τ.2 69)) = W) (hn : τ.2 69 0 = n) (hp : p < 7) (H : HV W U (rO 0) n) : (yB τ 0 (p : Int)).2.2 = U (nClr (2 ^ n - 1) p) := by
  obtain ⟨n0, n7, hw⟩ := hN
  rw [hW] at hw
  have p1 : 1 ≤ 2 ^ n := Nat.one_le_two_pow
  have p2 : 2 ^ n ≤ 2 ^ 7 := Nat.pow_le_pow_right (by decide) (show n ≤ 7 by omega)
  have c := nClr_le (b := 2 ^ n - 1) (q := p) (by omega) hp
  have m0 : ∀ j, j < 7 → yM0 τ j = -1 := fun j hj => if_pos hj
  have hF := FI_but (n := n) (M := yM0 τ) (by omega) hp m0
  have sz := nSz_le (nClr (2 ^ n - 1) p)
  have := tries_of (W := W) (U := U) (n := n) (b := 0) (mi := (p : Int)) (by omega) hw H n 0 (nClr (2 ^ n - 1) p) (yM0 τ) 0 0 (τ.2 76, (-1, -1)) (by omega) hF (by decide) (by omega) (by decide) (by decide) (Or.inl ⟨rfl, rfl⟩)
  have u := H.2.1 (nClr (2 ^ n - 1) p) (by omega)
  have sc := gE_sc (n := n) (by omega) H hw n 0 (nClr (2 ^ n - 1) p) (yM0 τ) 0 0 (by omega) (by omega) (FI_L (by omega) hF) (by decide) (by omega) (by decide) (by decide)
  unfold yB
  rw [hW, hn, Int.toNat_natCast, this, if_pos ?_]
  · show (gE W U (rO 0) n 0 ((nClr (2 ^ n - 1) p, yM0 τ), (0, 0))).2.2 = _
    have z := sc.1
    rw [show rO 0 = 0 from rfl] at z ⊢
    omega
  · unfold tSc
    rw [show rO 0 = 0 from rfl]
    dsimp only
    omega
/-- both sides' best -/
theorem best_of {σ τ : oSg} {a t : Nat} {r : Int} {n : Nat} (ha : oKd a = some 3) (ht : oKd t = some 4) (hN : cNet σ t) (hn : σ.1 t 0 = n) (hr : r = 0 ∨ r = 1) (hM : mNet τ) (hW : nW (gW (τ.2 69)) = nW (σ.2 (oRf t 1))) (hn2 : τ.2 69 0 = n) : (∀ p, p < 7 → (yB τ r (-1)).1 p = (sFind σ a t r).2 (oRf a 3) p) ∧ (yB τ r (-1)).2.1 = (sFind σ a t r).1 a 1 ∧ (yB τ r (-1)).2.2 = (sFind σ a t r).1 a 0 := by
  obtain ⟨H, f1, f2, f3⟩ := find_of ha ht hN hn hr
  rw [f1, f2, f3, chooses_of hM hW hn2 hr H]
  have gm := gE_M (W := nW (σ.2 (oRf t 1))) (U := fU σ a t r) (o := rO r) n 0 (2 ^ n - 1) (yM0 τ) (fM σ a) 0 0 (fun j hj => by unfold yM0 fM; rw [if_pos hj, if_pos hj])
  refine ⟨fun p hp => ?_, ?_, ?_⟩
  · show (if p < 7 then _ else _) = _
    rw [if_pos hp, gm.2.2 p hp]
  · show (gE _ _ _ _ _ _).2.1 = _
    rw [gm.2.1]
  · show (gE _ _ _ _ _ _).2.2 = _
    rw [gm.2.1]
/-- the class's best are partners -/
theorem best_GM {σ : oSg} {a t : Nat} {r : Int} {n : Nat} (ha : oKd a = some 3) (ht : oKd t = some 4) (hN : cNet σ t) (hn : σ.1 t 0 = n) (hr : r = 0 ∨ r = 1) (hw : GW n (nW (σ.2 (oRf t 1)))) : GM n (nW (σ.2 (oRf t 1))) (nM ((sFind σ a t r).2 (oRf a 3))) ∧ (sFind σ a t r).1 a 1 = (nCnt n (bMp ((sFind σ a t r).2 (oRf a 3))) : Nat) := by
  have n7 : n ≤ 7 := by have := hN.2.1; omega
  obtain ⟨H, f1, f2, f3⟩ := find_of ha ht hN hn hr
  rw [f1, f2]
  have m1 : ∀ p, nM (fM σ a) p = -1 := fun p => by
    unfold nM fM
    split
    · rw [if_pos (by omega)]
    · rfl
  refine gE_GM n7 hw H n 0 (2 ^ n - 1) (fM σ a) 0 0 (by omega) (LI_all n) ⟨fun p => by rw [m1]; omega, fun p hp => by rw [m1] at hp; omega⟩ (fun x hx _ => if_pos hx) ?_
  have : nCnt n (bMp (fM σ a)) = nCnt n (fun _ => false) := nCnt_ext (fun k _ => by
    unfold bMp
    rw [m1]
    exact decide_eq_false (by omega))
  rw [this]
  have z : ∀ m, nCnt m (fun _ => false) = 0 := by
    intro m
    induction m with
    | zero => rfl
    | succ m ih => rw [nCnt_s, ih]; rfl
  rw [z]
  rfl

