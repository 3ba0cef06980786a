/-! after -/
def sEv (σ : oSg) : Nat → oSg
  | 0 => sOth σ
  | k + 1 => sBefO (sEv σ k) 55 (nAt ((sEv σ k).2 13) 8 k) (nAt ((sEv σ k).2 14) 8 k) ((sEv σ k).1 55 0).toNat ((sEv σ k).1 55 0).toNat
theorem sEv_N {σ : oSg} (hN : cNet σ 2) : ∀ k, cNet (sEv σ k) 55 ∧ (sEv σ k).1 = (oSF σ 55 0 (σ.1 2 0)).1
  | 0 => ⟨sOth_N hN, rfl⟩
  | k + 1 => by
    obtain ⟨h1, h2⟩ := sEv_N hN k
    refine ⟨cNet_befO h1 _, ?_⟩
    show (sBefO _ _ _ _ _ _).1 = _
    rw [sBefO_1, h2]
theorem nSet_r (σ : oSg) {a q : Nat} (i j w : Int) (h : ¬ q = oRf a 1) : (nSet σ a i j w).2 q = σ.2 q := by
  unfold nSet
  split
  · rw [oSA_ne _ _ _ h, oSA_ne _ _ _ h]
  · rfl
theorem sBefI_r (σ : oSg) {a q : Nat} (what n : Int) (i : Nat) (h : ¬ q = oRf a 1) : ∀ m, (sBefI σ a what n i m).2 q = σ.2 q
  | 0 => rfl
  | m + 1 => by
    unfold sBefI
    rw [nSet_r _ _ _ _ h, sBefI_r σ what n i h m]
theorem sBefO_r (σ : oSg) {a q : Nat} (what n : Int) (N : Nat) (h : ¬ q = oRf a 1) : ∀ i, (sBefO σ a what n N i).2 q = σ.2 q
  | 0 => rfl
  | i + 1 => by
    unfold sBefO
    rw [sBefI_r _ _ _ _ h, sBefO_r σ what n N h i]
theorem sEv_3 (σ : oSg) : ∀ k, (sEv σ k).2 3 = σ.2 3
  | 0 => oSW_ne _ (by decide) _
  | k + 1 => by
    show (sBefO _ _ _ _ _ _).2 3 = _
    rw [sBefO_r _ _ _ _ (by rw [rf_55_1]; decide), sEv_3 σ k]

