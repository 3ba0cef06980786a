/-! read: the clauses done, the class first and then the model -/
/-- the class's state with the model's row -/
def mx (σ τ : oSg) : oSg := oSW σ 69 (τ.2 69)
theorem mx_1 (σ τ : oSg) : (mx σ τ).1 = σ.1 := rfl
theorem mx_69 (σ τ : oSg) : (mx σ τ).2 69 = τ.2 69 := oSW_at _ _ _
theorem mx_r (σ τ : oSg) {q : Nat} (h : ¬ q = 69) : (mx σ τ).2 q = σ.2 q := oSW_ne _ h _
theorem mx_A (σ τ : oSg) (i : Nat) (v : Int) : oSA (mx σ τ) 69 i v = mx σ (oSA τ 69 i v) := by
  refine Prod.ext rfl ?_
  funext q j
  by_cases c : q = 69
  · subst c
    rw [mx_69]
    by_cases d : j = i
    · rw [d, oSA_s, oSA_s]
    · rw [oSA_i _ _ d, oSA_i _ _ d, mx_69]
  · rw [oSA_ne _ _ _ c, mx_r _ _ c, mx_r _ _ c]
theorem mx_F (σ τ : oSg) (a k : Nat) (v : Int) : oSF (mx σ τ) a k v = mx (oSF σ a k v) τ := rfl
theorem mx_C (σ τ : oSg) {a : Nat} (h : ¬ a = 69) (i : Nat) (v : Int) : oSA (mx σ τ) a i v = mx (oSA σ a i v) τ := by
  refine Prod.ext rfl ?_
  funext q j
  by_cases c : q = a
  · subst c
    rw [mx_r _ _ h]
    by_cases d : j = i
    · rw [d, oSA_s, oSA_s]
    · rw [oSA_i _ _ d, oSA_i _ _ d, mx_r _ _ h]
  · rw [oSA_ne _ _ _ c]
    by_cases e : q = 69
    · rw [e, mx_69, mx_69]
    · rw [mx_r _ _ e, mx_r _ _ e, oSA_ne _ _ _ c]
theorem mx_put (σ τ : oSg) (i j w : Int) : sPut (mx σ τ) i j w = mx σ (sPut τ i j w) := by
  unfold sPut
  rw [mx_A, mx_A]
theorem mx_jn (σ τ : oSg) (i j : Int) : sJn (mx σ τ) i j = mx σ (sJn τ i j) := by
  unfold sJn
  rw [mx_A, mx_A]
theorem mx_fr (σ τ : oSg) (p : Int) : sFr (mx σ τ) p = mx σ (sFr τ p) := by
  unfold sFr
  rw [mx_69]
  split
  · rw [mx_A]
  · rw [mx_A, mx_A]
theorem mx_set (σ τ : oSg) (i j w : Int) : nSet (mx σ τ) 2 i j w = mx (nSet σ 2 i j w) τ := by
  unfold nSet
  rw [mx_1, rf_2_1]
  split
  · rw [mx_C _ _ (by decide), mx_C _ _ (by decide)]
  · rfl
theorem mx_join (σ τ : oSg) (i j : Int) : sJoin (mx σ τ) i j = mx (sJoin σ i j) τ := by
  unfold sJoin
  rw [mx_1]
  split
  · rw [mx_C _ _ (by decide), mx_C _ _ (by decide)]
  · rfl
theorem mx_part (σ τ : oSg) (p : Int) : sPart (mx σ τ) p = mx (sPart σ p) τ := by
  unfold sPart
  rw [mx_1, mx_r _ _ (by decide)]
  split
  · rw [mx_C _ _ (by decide), mx_C _ _ (by decide)]
  · rfl
section TWO
variable {σ τ : oSg}
theorem p_person (H : IA (mx σ τ)) : (xPerson σ).1 = (yPerson τ).1 ∧ IA (mx (xPerson σ).2 (yPerson τ).2) := by
  have hn := vw_n H
  have b7 := H.2.1.2
  rw [mx_69, mx_1] at hn
  rw [mx_69] at b7
  unfold xPerson yPerson
  by_cases h : τ.2 69 0 = 7
  · rw [if_pos (by omega), if_pos h]
    exact ⟨rfl, H⟩
  · rw [if_neg (by omega), if_neg h]
    have a := IA_person H (by rw [mx_69]; exact h)
    rw [mx_69, mx_1, mx_F, mx_A] at a
    exact ⟨hn, a⟩
theorem p_weigh (H : IA (mx σ τ)) (i j w : Int) : (xWeigh σ i j w).1 = (yWeigh τ i j w).1 ∧ IA (mx (xWeigh σ i j w).2 (yWeigh τ i j w).2) := by
  have hn := vw_n H
  have hW := vw_W H
  have hM := vw_M H
  have ip := fun a b c d => IA_put (i := i) (j := j) (w := w) H a b c d
  have ic := fun a b => IA_cut (i := i) (j := j) H a b
  rw [mx_69, mx_1] at hn
  rw [mx_69, mx_r _ _ (by decide)] at hW hM
  rw [mx_69] at ip ic
  have q4 : (nSet σ 2 i j w).2 4 = σ.2 4 := nSet_r _ _ _ _ (by rw [rf_2_1]; decide)
  unfold xWeigh yWeigh
  rw [hn, hW, q4, hM]
  by_cases c : nTwo (τ.2 69 0) i j
  · rw [if_neg (not_not_intro c), if_neg (not_not_intro c)]
    by_cases g : 0 ≤ w ∧ w ≤ 20
    · rw [if_neg (show ¬ (w < 0 ∨ 20 < w) by omega), if_neg (not_not_intro g)]
      by_cases z : w = 0 ∧ nM (gM (τ.2 69)) i = j
      · rw [if_pos z, if_pos z]
        have a := ic c z.2
        rw [mx_set, mx_part, mx_put, mx_fr] at a
        rw [z.1]
        exact ⟨rfl, a⟩
      · rw [if_neg z, if_neg z]
        have a := ip c g.1 g.2 (fun h1 h2 => z ⟨h1, h2⟩)
        rw [mx_set, mx_put] at a
        exact ⟨rfl, a⟩
    · rw [if_pos (show w < 0 ∨ 20 < w by omega), if_pos g]
      exact ⟨rfl, H⟩
  · rw [if_pos c, if_pos c]
    exact ⟨rfl, H⟩
theorem p_pair (H : IA (mx σ τ)) (i j : Int) : (0 ≤ (xPair σ i j).1 ↔ 0 ≤ (yPair τ i j).1) ∧ IA (mx (xPair σ i j).2 (yPair τ i j).2) := by
  have hn := vw_n H
  have hW := vw_W H
  have hM := vw_M H
  have hm := vw_m H
  have ij := fun a b c d => IA_join (i := i) (j := j) H a b c d
  rw [mx_69, mx_1] at hn
  rw [mx_69, mx_r _ _ (by decide)] at hW hM
  rw [mx_69] at hm ij
  have m1 := hm i
  have m2 := hm j
  unfold xPair yPair
  rw [hn, hW, hM]
  by_cases c : nTwo (τ.2 69 0) i j
  · rw [if_neg (not_not_intro c), if_neg (not_not_intro c)]
    by_cases g : ¬ 0 < nW (gW (τ.2 69)) i j ∨ ¬ nM (gM (τ.2 69)) i = -1 ∨ ¬ nM (gM (τ.2 69)) j = -1
    · rw [if_pos (by omega), if_pos g]
      exact ⟨Iff.rfl, H⟩
    · rw [if_neg (by omega), if_neg g]
      have a := ij c (by omega) (by omega) (by omega)
      rw [mx_join, mx_jn] at a
      refine ⟨?_, a⟩
      dsimp only
      omega
  · rw [if_pos c, if_pos c]
    exact ⟨Iff.rfl, H⟩
end TWO

