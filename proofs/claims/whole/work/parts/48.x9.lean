/-- the other net made like the house's -/
def sOth (σ : oSg) : oSg := oCp (oSF σ 55 0 (σ.1 2 0)) 3 0 56 0 49
theorem sOth_w (σ : oSg) (i j : Int) : nW ((sOth σ).2 56) i j = nW (σ.2 3) i j := by
  have e : ∀ k : Nat, k < 49 → (sOth σ).2 56 k = σ.2 3 k := by
    intro k hk
    unfold sOth oCp
    rw [oSW_at]
    rw [if_pos (by omega)]
    show σ.2 3 ((0 : Int).toNat + (k - (0 : Int).toNat)) = _
    rw [show (0 : Int).toNat + (k - (0 : Int).toNat) = k from by omega]
  unfold nW
  by_cases h : 0 ≤ i ∧ i < 7 ∧ 0 ≤ j ∧ j < 7
  · rw [if_pos h, if_pos h, e _ (by omega)]
  · rw [if_neg h, if_neg h]
theorem sOth_1 (σ : oSg) : (sOth σ).1 = (oSF σ 55 0 (σ.1 2 0)).1 := rfl
theorem sOth_N {σ : oSg} (hN : cNet σ 2) : cNet (sOth σ) 55 := by
  obtain ⟨h0, h7, -⟩ := id hN
  have e : (sOth σ).1 55 0 = σ.1 2 0 := oSF_s σ 55 0 (σ.1 2 0)
  refine ⟨by omega, by omega, fun i j => ?_⟩
  rw [rf_55_1, sOth_w]
  exact cNet_w hN i j
theorem sFind_r (σ : oSg) {a t q : Nat} (r : Int) (h3 : ¬ q = oRf a 3) (h4 : ¬ q = oRf a 4) : (sFind σ a t r).2 q = σ.2 q := by
  have e : (sFind σ a t r).2 q = (oSW (oSF σ a 2 (if r = 1 then 100 else 0)) (oRf a 4) (rV (nW (σ.2 (oRf t 1))) (if r = 1 then 100 else 0) (σ.2 (oRf a 4)) (2 ^ (σ.1 t 0).toNat - 1))).2 q := by
    funext j
    exact if_neg h3
  rw [e, oSW_ne _ h4, oSF_2]
theorem cNet_find {σ : oSg} {a t u : Nat} (r : Int) (ha : oKd a = some 3) (hu : oKd u = some 4) (hN : cNet σ u) : cNet (sFind σ a t r) u := by
  obtain ⟨e1, e2⟩ := mn_ne ha hu
  have hua : ¬ u = a := by
    intro z
    rw [z, ha] at hu
    exact absurd hu (by decide)
  obtain ⟨h0, h7, hw⟩ := hN
  refine ⟨?_, ?_, ?_⟩
  · rw [sFind_o σ r 0 hua]; exact h0
  · rw [sFind_o σ r 0 hua]; exact h7
  · rw [sFind_r σ r e1 e2]; exact hw

