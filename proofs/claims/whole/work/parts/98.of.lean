/-! call: read -/
theorem dFr_ds : ∀ (m i e : Nat) (σ : oSg), dFr σ (xDs m i e σ).2
  | 0, _, _, σ => dFr_r σ
  | m + 1, i, e, σ => dFr_t (dFr_do σ (39 + i)) (dFr_ds m (i + 1) _ _)
theorem Inv_read {σ υ : oSg} (H : Inv σ) (hA : IA υ) (r : ∀ q, ¬ (q = 3 ∨ q = 4 ∨ q = 5 ∨ q = 69 ∨ q = 73) → υ.2 q = σ.2 q) (f : ∀ q j, ¬ (q = 2 ∨ q = 35 ∨ q = 68 ∨ (39 ≤ q ∧ q ≤ 50)) → υ.1 q j = σ.1 q j) (f3 : υ.1 68 3 = σ.1 68 3) (t1 : υ.1 35 0 = 0) (t2 : υ.1 68 6 = 0) : Inv υ := by
  refine ⟨hA, IK_g (f 0 2 (by decide)) (fun q h1 h2 => f q 0 (by omega)) (fun q h1 h2 => r q (by omega)) (r 70 (by decide)) f3 H.2.1, ⟨by rw [t1]; decide, by rw [t1, t2], fun k hk => ?_⟩, IP_g (fun q hq => r q (by omega)) H.2.2.2⟩
  rw [t1] at hk
  omega
theorem c_read {σ : oSg} (H : Inv σ) {d : Nat} (hd : 20 ≤ d) : Both d 53 167 [] σ := by
  have HA := H.1
  have x := m_X_read (d := d) (σ := σ) (vw_0 HA) (vw_7 HA) (by omega)
  unfold xRead at x
  obtain ⟨⟨t0, t100⟩, t6, tT⟩ := H.2.2.1
  obtain ⟨s, hs⟩ : ∃ s : Nat, σ.1 35 0 = s := ⟨(σ.1 35 0).toNat, by omega⟩
  rw [hs] at t0 t100 t6 tT
  -- the model on a state with the same text
  have rel : ∀ τ : oSg, τ.2 72 = σ.2 72 → τ.1 68 6 = s → aT τ = aT σ ∧ (xFl 12 0 (oSF (oSF σ 35 2 0) 35 1 0)).1 = (zFo 12 0 0 τ).1 ∧ fFr (oSF (oSF σ 35 2 0) 35 1 0) (xFl 12 0 (oSF (oSF σ 35 2 0) 35 1 0)).2 ∧ ((zFo 12 0 0 τ).1 = -1 → ∃ C : Nat, C ≤ 12 ∧ (xFl 12 0 (oSF (oSF σ 35 2 0) 35 1 0)).2.1 35 1 = C ∧ (zFo 12 0 0 τ).2.1 68 7 = C ∧ cAll (aT τ) (xFl 12 0 (oSF (oSF σ 35 2 0) 35 1 0)).2 (zFo 12 0 0 τ).2 C) := by
    intro τ e72 e6
    have ea : aT τ = aT σ := by
      funext k
      unfold aT
      rw [e72, e6, t6]
    refine ⟨ea, fl_T 12 0 0 s (oSF (oSF σ 35 2 0) 35 1 0) τ (by decide) (by decide) ?_ e6 (by omega) ?_ ?_ (fun i hi => absurd hi (Nat.not_lt_zero i))⟩
    · rw [ea]
      refine Tx_f (fFr_t (fFr_2 σ 0) (fFr_1 _ 0)) ⟨hs, by omega, fun k hk => ?_, fun k hk => ?_⟩
      · unfold aT
        rw [t6, if_pos (by omega)]
        exact tT k (by omega)
      · unfold aT
        rw [t6, if_neg (by omega)]
    · rw [oSF_o _ _ (by omega), oSF_s]
      rfl
    · rw [oSF_s]
      rfl
  have f0 : fFr σ (xFl 12 0 (oSF (oSF σ 35 2 0) 35 1 0)).2 := fFr_t (fFr_t (fFr_2 σ 0) (fFr_1 _ 0)) (rel σ rfl t6).2.2.1
  generalize xFl 12 0 (oSF (oSF σ 35 2 0) 35 1 0) = R at *
  have zb : ∀ τ : oSg, τ.1 68 6 = s → -1 ≤ (zFo 12 0 0 τ).1 := fun τ h => (zFo_bd 12 0 0 τ (by omega) (by omega)).1
  by_cases c : R.1 < 0
  · rw [if_pos c] at x
    have q1 : (oSF R.2 35 0 0).1 35 1 = R.2.1 35 1 := oSF_o _ _ (by omega)
    rw [q1] at x
    have d1 := dFr_ds (R.2.1 35 1).toNat 0 0 (oSF R.2 35 0 0)
    have e72 : (xDs (R.2.1 35 1).toNat 0 0 (oSF R.2 35 0 0)).2.2 72 = σ.2 72 := by
      rw [d1.1 72 (by decide), oSF_2, f0.1]
    have e6 : (xDs (R.2.1 35 1).toNat 0 0 (oSF R.2 35 0 0)).2.1 68 6 = s := by
      rw [d1.2 68 6 (by decide), oSF_o _ _ (by omega), f0.2 68 6 (by decide) (by decide), t6]
    obtain ⟨a1, a2, -, a4⟩ := rel _ e72 e6
    have z1 : (zFo 12 0 0 (xDs (R.2.1 35 1).toNat 0 0 (oSF R.2 35 0 0)).2).1 = -1 := by
      have := zb _ e6
      omega
    obtain ⟨C, C12, C1, C2, CA⟩ := a4 z1
    rw [C1, Int.toNat_natCast] at x d1 e72 e6 a1 a2 z1 C2 CA
    have y := m_M_read (d := d) (σ := (xDs C 0 0 (oSF R.2 35 0 0)).2) (by
      unfold mOk
      rw [d1.1 69 (by decide), oSF_2, f0.1]
      exact vw_O HA) (by omega) (by omega) (by omega)
    unfold yRead at y
    rw [if_pos z1, C2, Int.toNat_natCast] at y
    obtain ⟨g1, g2⟩ := zFo_s 12 0 0 (xDs C 0 0 (oSF R.2 35 0 0)).2
    generalize zFo 12 0 0 (xDs C 0 0 (oSF R.2 35 0 0)).2 = Z at *
    have am : IA (mx (oSF R.2 35 0 0) Z.2) := by
      refine IA_g (σ := σ) (fun q hq => ?_) (fun q hq => ?_) (fun k _ => ?_) HA
      · rw [mx_1, oSF_o _ _ (by omega), f0.2 q 0 (by omega) (by omega)]
      · rw [mx_r _ _ (by omega), oSF_2, f0.1]
      · rw [mx_69, g1 69 (by decide), d1.1 69 (by decide), oSF_2, f0.1]
    have eT : aT Z.2 = aT (xDs C 0 0 (oSF R.2 35 0 0)).2 := by
      funext k
      unfold aT
      rw [g1 72 (by decide), g2 68 6 (by decide)]
    obtain ⟨r1, r2, -, r4⟩ := ds_T C12 C 0 0 (oSF R.2 35 0 0) Z.2 (by omega) am eT (fun i hi => by
      obtain ⟨y, y1, y2, y3⟩ := CA i hi
      exact ⟨y, y1, y2, cOk_e (fun j => oSF_o _ _ (by omega)) y3⟩)
    generalize zDs C 0 0 Z.2 = D at *
    generalize xDs C 0 0 (oSF R.2 35 0 0) = X at *
    have rr : ∀ q, ¬ (q = 69 ∨ q = 73) → (oSF D.2 68 6 0).2 q = X.2.2 q := fun q hq => by rw [oSF_2, r4.2 q (by omega), g1 q (by omega)]
    have ff : ∀ q j, ¬ (q = 68 ∧ (j = 6 ∨ j = 7)) → (oSF D.2 68 6 0).1 q j = X.2.1 q j := fun q j hq => by rw [oSF_o _ _ (by omega), r4.1, g2 q j (by omega)]
    refine Both_i x y r1 (Inv_read H ?_ (fun q hq => ?_) (fun q j hq => ?_) ?_ ?_ (oSF_s _ _ _ _))
    · refine IA_g (σ := mx X.2 D.2) (fun q hq => ?_) (fun q hq => ?_) (fun k _ => ?_) r2
      · rw [mx_1, ff q 0 (by omega)]
      · rw [mx_r _ _ (by omega), rr q (by omega)]
      · rw [mx_69, oSF_2]
    · rw [rr q (by omega), d1.1 q (by omega), oSF_2, f0.1]
    · rw [ff q j (by omega), d1.2 q j (by omega), oSF_o _ _ (by omega), f0.2 q j (by omega) (by omega)]
    · rw [ff 68 3 (by omega), d1.2 68 3 (by omega), oSF_o _ _ (by omega), f0.2 68 3 (by omega) (by omega)]
    · rw [ff 35 0 (by omega), d1.2 35 0 (by omega), oSF_s]
  · rw [if_neg c] at x
    have e72 : (oSF R.2 35 0 0).2 72 = σ.2 72 := by rw [oSF_2, f0.1]
    have e6 : (oSF R.2 35 0 0).1 68 6 = s := by rw [oSF_o _ _ (by omega), f0.2 68 6 (by decide) (by decide), t6]
    obtain ⟨a1, a2, -, -⟩ := rel _ e72 e6
    have y := m_M_read (d := d) (σ := oSF R.2 35 0 0) (by
      unfold mOk
      rw [oSF_2, f0.1]
      exact vw_O HA) (by omega) (by omega) (by omega)
    unfold yRead at y
    rw [if_neg (by omega)] at y
    obtain ⟨g1, g2⟩ := zFo_s 12 0 0 (oSF R.2 35 0 0)
    generalize zFo 12 0 0 (oSF R.2 35 0 0) = Z at *
    have rr : ∀ q, ¬ q = 73 → (oSF Z.2 68 6 0).2 q = σ.2 q := fun q hq => by rw [oSF_2, g1 q hq, oSF_2, f0.1]
    have ff : ∀ q j, ¬ (q = 68 ∧ (j = 6 ∨ j = 7)) → (oSF Z.2 68 6 0).1 q j = (oSF R.2 35 0 0).1 q j := fun q j hq => by rw [oSF_o _ _ (by omega), g2 q j (by omega)]
    refine Both_i x y (by dsimp only; omega) (Inv_read H ?_ (fun q hq => rr q (by omega)) (fun q j hq => ?_) ?_ ?_ (oSF_s _ _ _ _))
    · refine IA_g (σ := σ) (fun q hq => ?_) (fun q hq => rr q (by omega)) (fun k _ => by rw [rr 69 (by decide)]) HA
      rw [ff q 0 (by omega), oSF_o _ _ (by omega), f0.2 q 0 (by omega) (by omega)]
    · rw [ff q j (by omega), oSF_o _ _ (by omega), f0.2 q j (by omega) (by omega)]
    · rw [ff 68 3 (by omega), oSF_o _ _ (by omega), f0.2 68 3 (by omega) (by omega)]
    · rw [ff 35 0 (by omega), oSF_s]

