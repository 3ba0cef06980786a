/-! fits -/
def vAll (τ : oSg) : Int := nFst (fun k => ¬ nM (τ.2 61) (nAt (τ.2 10) 5 k) = nAt (τ.2 11) 5 k) (τ.1 9 0).toNat 0
def sFi (σ : oSg) (i j : Int) : Nat → (Nat × Int) × oSg
  | 0 => ((0, -5), sOth σ)
  | q + 1 => (if vAll (sFind (nSet (sFi σ i j q).2 55 i j (20 - q)) 60 55 0) < 0 then ((sFi σ i j q).1.1 + 1, 20 - (q : Int)) else (sFi σ i j q).1, sFind (nSet (sFi σ i j q).2 55 i j (20 - q)) 60 55 0)
theorem sFi_N {σ : oSg} (hN : cNet σ 2) (i j : Int) : ∀ q : Nat, q ≤ 21 → cNet (sFi σ i j q).2 55 ∧ (sFi σ i j q).1.1 ≤ q ∧ (sFi σ i j q).2.1 9 0 = σ.1 9 0
  | 0, _ => ⟨sOth_N hN, Nat.le_refl _, oSF_o (a := 55) (k := 0) (q := 9) (j := 0) σ (σ.1 2 0) (by omega)⟩
  | q + 1, h => by
    obtain ⟨h1, h2, h3⟩ := sFi_N hN i j q (by omega)
    refine ⟨cNet_find 0 kd_60 kd_55 (cNet_set h1 (by omega) (by omega)), ?_, ?_⟩
    · show (if _ then _ else _ : Nat × Int).1 ≤ _
      split
      · exact Nat.succ_le_succ h2
      · exact Nat.le_succ_of_le h2
    · show (sFind (nSet (sFi σ i j q).2 55 i j (20 - q)) 60 55 0).1 9 0 = _
      rw [sFind_o _ 0 0 (by decide), nSet_1, h3]

