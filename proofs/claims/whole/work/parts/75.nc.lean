/-! calls: halves, rows told by hand -/
theorem c_halves {σ : oSg} (H : Inv σ) {d : Nat} (hd : 20 ≤ d) (p h : Int) : Both d 62 174 [.inl p, .inl h] σ := by
  have HA := H.1
  have hn := vw_n HA
  have b0 := HA.2.1.1
  have b7 := HA.2.1.2
  have x := m_X_halves (d := d) (σ := σ) (p := p) (h := h) (by omega)
  unfold xHalves at x
  by_cases c : nHas (σ.2 69 0) p
  · obtain ⟨c1, c2, c3⟩ := id c
    have hh := vw_h HA p
    rw [if_pos c] at hh
    rw [hn, if_neg (not_not_intro c), hh] at x
    by_cases g : 0 ≤ h ∧ h ≤ 60
    · rw [if_neg (by omega), if_pos c] at x
      have y := m_M_halves (d := d) (σ := oSA σ 5 p.toNat h) (p := p) (h := h) b0 b7 (by omega)
      unfold yHalves at y
      rw [oSA_ne _ _ _ (show ¬ 69 = 5 by decide), if_neg (not_not_intro c), if_neg (not_not_intro g)] at y
      refine Both_i x y rfl (Inv_h H (Fh_t (Fh_SA _ _ (by decide)) (Fh_SA _ _ (by decide))) ?_)
      have e : ∀ k, ¬ k = (57 + p).toNat → (oSA (oSA σ 5 p.toNat h) 69 (57 + p).toNat h).2 69 k = σ.2 69 k := fun k hk => by rw [oSA_i _ _ hk, oSA_ne _ _ _ (by decide)]
      have r : ∀ q, ¬ q = 69 → ¬ q = 5 → (oSA (oSA σ 5 p.toNat h) 69 (57 + p).toNat h).2 q = σ.2 q := fun q h1 h2 => by rw [oSA_ne _ _ _ h1, oSA_ne _ _ _ h2]
      have f : ∀ q j, (oSA (oSA σ 5 p.toNat h) 69 (57 + p).toNat h).1 q j = σ.1 q j := fun _ _ => rfl
      refine IA_of (PN_fr (f 2 0) (e 0 (by omega)) (IA_n HA)) (PW_fr (r 3 (by decide) (by decide)) (e 0 (by omega)) (fun k h1 h2 => e k (by omega)) (IA_w HA)) (PM_fr (r 4 (by decide) (by decide)) (e 0 (by omega)) (fun k h1 h2 => e k (by omega)) (IA_m HA)) ⟨fun k hk => ?_, fun k hk => ?_⟩ (PO_fr (f 6 0) (r 7 (by decide) (by decide)) (r 8 (by decide) (by decide)) (fun k h1 _ => e k (by omega)) (IA_o HA)) (PS_fr (f 9 0) (r 10 (by decide) (by decide)) (r 11 (by decide) (by decide)) (fun k h1 _ => e k (by omega)) (IA_s HA)) (PE_fr (f 12 0) (r 13 (by decide) (by decide)) (r 14 (by decide) (by decide)) (fun k h1 _ => e k (by omega)) (IA_e HA)) (PB_fr (f 15 0) (r 16 (by decide) (by decide)) (r 17 (by decide) (by decide)) (fun k h1 _ => e k (by omega)) (IA_b HA))
      · rw [oSA_ne _ _ _ (show ¬ 5 = 69 by decide)]
        by_cases z : k = p.toNat
        · rw [z, oSA_s, show 57 + p.toNat = (57 + p).toNat from by omega, oSA_s]
        · rw [oSA_i _ _ z, e _ (by omega)]
          exact (IA_h HA).1 k hk
      · by_cases z : k = p.toNat
        · rw [z, show 57 + p.toNat = (57 + p).toNat from by omega, oSA_s]
          exact g
        · rw [e _ (by omega)]
          exact (IA_h HA).2 k hk
    · rw [if_pos (by omega)] at x
      have y := m_M_halves (d := d) (σ := σ) (p := p) (h := h) b0 b7 (by omega)
      unfold yHalves at y
      rw [if_neg (not_not_intro c), if_pos g] at y
      exact Both_i x y rfl H
  · rw [hn, if_pos c] at x
    have y := m_M_halves (d := d) (σ := σ) (p := p) (h := h) b0 b7 (by omega)
    unfold yHalves at y
    rw [if_pos c] at y
    exact Both_i x y rfl H
theorem nFst_ext {P Q : Nat → Prop} [DecidablePred P] [DecidablePred Q] : ∀ {m q : Nat}, (∀ k, q ≤ k → k < q + m → (P k ↔ Q k)) → nFst P m q = nFst Q m q
  | 0, _, _ => rfl
  | m + 1, q, h => by
    have h0 := h q (Nat.le_refl _) (by omega)
    have ih := nFst_ext (P := P) (Q := Q) (m := m) (q := q + 1) (fun k h1 h2 => h k (by omega) (by omega))
    unfold nFst
    by_cases g : P q
    · rw [if_pos g, if_pos (h0.mp g)]
    · rw [if_neg g, if_neg (fun z => g (h0.mpr z)), ih]
/-- what a row told by hand leaves on the class's side -/
theorem nApp_1 (σ : oSg) (a : Nat) (x z : Int) : (nApp σ a x z).1 a 0 = σ.1 a 0 + 1 := oSF_s _ _ _ _
theorem nApp_f (σ : oSg) {a q : Nat} (x z : Int) (j : Nat) (h : ¬ q = a) : (nApp σ a x z).1 q j = σ.1 q j := oSF_o _ _ (fun w => h w.1)
theorem nApp_r (σ : oSg) {a q : Nat} (x z : Int) (h : ¬ q = oRf a 1) (g : ¬ q = oRf a 2) : (nApp σ a x z).2 q = σ.2 q := by
  unfold nApp
  rw [oSF_2, oSA_ne _ _ _ g, oSA_ne _ _ _ h]
theorem nApp_a (σ : oSg) {a : Nat} (x z : Int) (hne : ¬ oRf a 1 = oRf a 2) (k : Nat) : (nApp σ a x z).2 (oRf a 1) k = if k = (σ.1 a 0).toNat then x else σ.2 (oRf a 1) k := by
  unfold nApp
  rw [oSF_2, oSA_ne _ _ _ hne]
  by_cases h : k = (σ.1 a 0).toNat
  · rw [if_pos h, h, oSA_s]
  · rw [if_neg h, oSA_i _ _ h]
theorem nApp_b (σ : oSg) {a : Nat} (x z : Int) (hne : ¬ oRf a 1 = oRf a 2) (k : Nat) : (nApp σ a x z).2 (oRf a 2) k = if k = (σ.1 a 0).toNat then z else σ.2 (oRf a 2) k := by
  unfold nApp
  rw [oSF_2]
  by_cases h : k = (σ.1 a 0).toNat
  · rw [if_pos h, h, oSA_s]
  · rw [if_neg h, oSA_i _ _ h, oSA_ne _ _ _ (fun w => hne w.symm)]
theorem Fh_app (σ : oSg) {a : Nat} (x z : Int) (h0 : 1 ≤ a ∧ a ≤ 17) (h1 : oRf a 1 ≤ 17) (h2 : oRf a 2 ≤ 17) : Fh σ (nApp σ a x z) := Fh_t (Fh_t (Fh_SA _ _ (by omega)) (Fh_SA _ _ (by omega))) (Fh_SF _ _ (by omega))
/-- a row appended to the model's -/
def mApp (σ : oSg) (at' a b : Nat) (x z : Int) : oSg := oSA (oSA (oSA σ 69 (a + (σ.2 69 at').toNat) x) 69 (b + (σ.2 69 at').toNat) z) 69 at' (σ.2 69 at' + 1)
theorem mApp_at (σ : oSg) {at' a b : Nat} {c : Nat} (x z : Int) (hc : σ.2 69 at' = c) (h1 : ¬ at' = a + c) (h2 : ¬ at' = b + c) (h3 : ¬ a = b) (k : Nat) : (mApp σ at' a b x z).2 69 k = if k = at' then (c : Int) + 1 else if k = a + c then x else if k = b + c then z else σ.2 69 k := by
  unfold mApp
  rw [hc, Int.toNat_natCast]
  by_cases g1 : k = at'
  · rw [if_pos g1, g1, oSA_s]
  · rw [if_neg g1, oSA_i _ _ g1]
    by_cases g2 : k = a + c
    · rw [if_pos g2, g2, oSA_i _ _ (by omega), oSA_s]
    · rw [if_neg g2]
      by_cases g3 : k = b + c
      · rw [if_pos g3, g3, oSA_s]
      · rw [if_neg g3, oSA_i _ _ g3, oSA_i _ _ g2]
theorem mApp_r (σ : oSg) (at' a b : Nat) (x z : Int) {q : Nat} (h : ¬ q = 69) : (mApp σ at' a b x z).2 q = σ.2 q := by
  unfold mApp
  rw [oSA_ne _ _ _ h, oSA_ne _ _ _ h, oSA_ne _ _ _ h]
theorem Fh_mApp (σ : oSg) (at' a b : Nat) (x z : Int) : Fh σ (mApp σ at' a b x z) := Fh_t (Fh_t (Fh_SA _ _ (by decide)) (Fh_SA _ _ (by decide))) (Fh_SA _ _ (by decide))
theorem sCm_mApp (σ : oSg) {at' ro : Nat} (i j : Int) (h : 0 ≤ σ.2 69 at') : sCm σ at' ro i j = mApp σ at' (at' + 1) (at' + 1 + ro) i j := by
  unfold sCm mApp
  rw [show ((at' : Int) + 1 + σ.2 69 at').toNat = at' + 1 + (σ.2 69 at').toNat from by omega, show ((at' : Int) + 1 + (ro : Int) + σ.2 69 at').toNat = at' + 1 + ro + (σ.2 69 at').toNat from by omega]
theorem IA_o0 {σ : oSg} (HA : IA σ) : IA (oSA (oSF σ 6 0 0) 69 64 0) := by
  have e : ∀ k, ¬ k = 64 → (oSA (oSF σ 6 0 0) 69 64 0).2 69 k = σ.2 69 k := fun k hk => oSA_i _ _ hk
  have r : ∀ q, ¬ q = 69 → (oSA (oSF σ 6 0 0) 69 64 0).2 q = σ.2 q := fun q h1 => oSA_ne _ _ _ h1
  have f : ∀ q j, ¬ q = 6 → (oSA (oSF σ 6 0 0) 69 64 0).1 q j = σ.1 q j := fun q j h => oSF_o _ _ (fun z => h z.1)
  refine IA_of (PN_fr (f 2 0 (by decide)) (e 0 (by omega)) (IA_n HA)) (PW_fr (r 3 (by decide)) (e 0 (by omega)) (fun k h1 h2 => e k (by omega)) (IA_w HA)) (PM_fr (r 4 (by decide)) (e 0 (by omega)) (fun k h1 h2 => e k (by omega)) (IA_m HA)) (PH_fr (r 5 (by decide)) (fun k h1 h2 => e k (by omega)) (IA_h HA)) ?_ (PS_fr (f 9 0 (by decide)) (r 10 (by decide)) (r 11 (by decide)) (fun k h1 h2 => e k (by omega)) (IA_s HA)) (PE_fr (f 12 0 (by decide)) (r 13 (by decide)) (r 14 (by decide)) (fun k h1 h2 => e k (by omega)) (IA_e HA)) (PB_fr (f 15 0 (by decide)) (r 16 (by decide)) (r 17 (by decide)) (fun k h1 h2 => e k (by omega)) (IA_b HA))
  have z : (oSA (oSF σ 6 0 0) 69 64 0).2 69 64 = 0 := oSA_s _ _ _ _
  unfold PO GO
  rw [z]
  exact ⟨⟨oSF_s σ 6 0 0, fun k hk => by omega⟩, ⟨by decide, by decide, fun k hk => by omega⟩⟩
theorem IA_o1 {σ : oSg} (HA : IA σ) (x z : Int) (hx : 0 ≤ x ∧ x < 128 ∧ nSz x.toNat % 2 = 1) (hz : 0 ≤ z ∧ z ≤ 40) (hr : ¬ σ.2 69 64 = 3) : IA (mApp (nApp σ 6 x z) 64 65 68 x z) := by
  obtain ⟨⟨s1, s2⟩, s3, s4, s5⟩ := IA_o HA
  have q0 : (nApp σ 6 x z).2 69 = σ.2 69 := nApp_r _ _ _ (by rw [rf_6_1]; decide) (by rw [rf_6_2]; decide)
  obtain ⟨N, hN⟩ : ∃ N : Nat, σ.2 69 64 = N := ⟨(σ.2 69 64).toNat, by omega⟩
  have e := mApp_at (nApp σ 6 x z) (at' := 64) (a := 65) (b := 68) (c := N) x z (by rw [q0]; exact hN) (by omega) (by omega) (by omega)
  rw [q0] at e
  have r : ∀ q, ¬ q = 69 → ¬ q = 7 → ¬ q = 8 → (mApp (nApp σ 6 x z) 64 65 68 x z).2 q = σ.2 q := fun q h1 h2 h3 => by rw [mApp_r _ _ _ _ _ _ h1, nApp_r _ _ _ (by rw [rf_6_1]; exact h2) (by rw [rf_6_2]; exact h3)]
  have f : ∀ q j', ¬ q = 6 → (mApp (nApp σ 6 x z) 64 65 68 x z).1 q j' = σ.1 q j' := fun q j' h => nApp_f σ x z j' h
  have e' : ∀ k, ¬ k = 64 → ¬ k = 65 + N → ¬ k = 68 + N → (mApp (nApp σ 6 x z) 64 65 68 x z).2 69 k = σ.2 69 k := fun k h1 h2 h3 => by rw [e, if_neg h1, if_neg (by omega), if_neg (by omega)]
  refine IA_of (PN_fr (f 2 0 (by decide)) (e' 0 (by omega) (by omega) (by omega)) (IA_n HA)) (PW_fr (r 3 (by decide) (by decide) (by decide)) (e' 0 (by omega) (by omega) (by omega)) (fun k h1 h2 => e' k (by omega) (by omega) (by omega)) (IA_w HA)) (PM_fr (r 4 (by decide) (by decide) (by decide)) (e' 0 (by omega) (by omega) (by omega)) (fun k h1 h2 => e' k (by omega) (by omega) (by omega)) (IA_m HA)) (PH_fr (r 5 (by decide) (by decide) (by decide)) (fun k h1 h2 => e' k (by omega) (by omega) (by omega)) (IA_h HA)) ?_ (PS_fr (f 9 0 (by decide)) (r 10 (by decide) (by decide) (by decide)) (r 11 (by decide) (by decide) (by decide)) (fun k h1 h2 => e' k (by omega) (by omega) (by omega)) (IA_s HA)) (PE_fr (f 12 0 (by decide)) (r 13 (by decide) (by decide) (by decide)) (r 14 (by decide) (by decide) (by decide)) (fun k h1 h2 => e' k (by omega) (by omega) (by omega)) (IA_e HA)) (PB_fr (f 15 0 (by decide)) (r 16 (by decide) (by decide) (by decide)) (r 17 (by decide) (by decide) (by decide)) (fun k h1 h2 => e' k (by omega) (by omega) (by omega)) (IA_b HA))
  have e71 : (mApp (nApp σ 6 x z) 64 65 68 x z).2 69 64 = (N : Int) + 1 := by rw [e, if_pos rfl]
  have p1 : ∀ k, (mApp (nApp σ 6 x z) 64 65 68 x z).2 7 k = if k = N then x else σ.2 7 k := fun k => by
    rw [mApp_r _ _ _ _ _ _ (by decide)]
    have := nApp_a σ (a := 6) x z (by rw [rf_6_1, rf_6_2]; decide) k
    rw [rf_6_1, s1, hN, Int.toNat_natCast] at this
    exact this
  have p2 : ∀ k, (mApp (nApp σ 6 x z) 64 65 68 x z).2 8 k = if k = N then z else σ.2 8 k := fun k => by
    rw [mApp_r _ _ _ _ _ _ (by decide)]
    have := nApp_b σ (a := 6) x z (by rw [rf_6_1, rf_6_2]; decide) k
    rw [rf_6_2, s1, hN, Int.toNat_natCast] at this
    exact this
  have u1 : ∀ k : Nat, k < 3 → (mApp (nApp σ 6 x z) 64 65 68 x z).2 69 (65 + k) = if k = N then x else σ.2 69 (65 + k) := fun k hk => by
    rw [e, if_neg (by omega)]
    by_cases y : k = N
    · rw [if_pos (by omega), if_pos y]
    · rw [if_neg (by omega), if_neg (by omega), if_neg y]
  have u2 : ∀ k : Nat, k < 3 → (mApp (nApp σ 6 x z) 64 65 68 x z).2 69 (68 + k) = if k = N then z else σ.2 69 (68 + k) := fun k hk => by
    rw [e, if_neg (by omega), if_neg (by omega)]
    by_cases y : k = N
    · rw [if_pos (by omega), if_pos y]
    · rw [if_neg (by omega), if_neg y]
  refine ⟨⟨?_, fun k hk => ?_⟩, ?_, ?_, fun k hk => ?_⟩
  · rw [e71]
    exact (nApp_1 σ 6 x z).trans (by rw [s1, hN])
  · rw [e71] at hk
    rw [p1, p2, u1 k (by omega), u2 k (by omega)]
    by_cases y : k = N
    · simp only [if_pos y]
      exact ⟨trivial, trivial⟩
    · simp only [if_neg y]
      exact s2 k (by omega)
  · rw [e71]; omega
  · rw [e71]; omega
  · rw [e71] at hk
    rw [u1 k (by omega), u2 k (by omega)]
    by_cases y : k = N
    · rw [if_pos y, if_pos y]; exact ⟨hx, hz⟩
    · rw [if_neg y, if_neg y]
      exact s5 k (by omega)
theorem IA_s0 {σ : oSg} (HA : IA σ) : IA (oSA (oSF σ 9 0 0) 69 71 0) := by
  have e : ∀ k, ¬ k = 71 → (oSA (oSF σ 9 0 0) 69 71 0).2 69 k = σ.2 69 k := fun k hk => oSA_i _ _ hk
  have r : ∀ q, ¬ q = 69 → (oSA (oSF σ 9 0 0) 69 71 0).2 q = σ.2 q := fun q h1 => oSA_ne _ _ _ h1
  have f : ∀ q j, ¬ q = 9 → (oSA (oSF σ 9 0 0) 69 71 0).1 q j = σ.1 q j := fun q j h => oSF_o _ _ (fun z => h z.1)
  refine IA_of (PN_fr (f 2 0 (by decide)) (e 0 (by omega)) (IA_n HA)) (PW_fr (r 3 (by decide)) (e 0 (by omega)) (fun k h1 h2 => e k (by omega)) (IA_w HA)) (PM_fr (r 4 (by decide)) (e 0 (by omega)) (fun k h1 h2 => e k (by omega)) (IA_m HA)) (PH_fr (r 5 (by decide)) (fun k h1 h2 => e k (by omega)) (IA_h HA)) (PO_fr (f 6 0 (by decide)) (r 7 (by decide)) (r 8 (by decide)) (fun k h1 h2 => e k (by omega)) (IA_o HA)) ?_ (PE_fr (f 12 0 (by decide)) (r 13 (by decide)) (r 14 (by decide)) (fun k h1 h2 => e k (by omega)) (IA_e HA)) (PB_fr (f 15 0 (by decide)) (r 16 (by decide)) (r 17 (by decide)) (fun k h1 h2 => e k (by omega)) (IA_b HA))
  have z : (oSA (oSF σ 9 0 0) 69 71 0).2 69 71 = 0 := oSA_s _ _ _ _
  unfold PS
  rw [z]
  exact ⟨⟨oSF_s σ 9 0 0, fun k hk => by omega⟩, ⟨by decide, by decide, fun k hk => by omega⟩⟩
theorem IA_s1 {σ : oSg} (HA : IA σ) (x z : Int) (hx : 0 ≤ x ∧ x < 7) (hr : ¬ σ.2 69 71 = 5) : IA (mApp (nApp σ 9 x z) 71 72 77 x z) := by
  obtain ⟨⟨s1, s2⟩, s3, s4, s5⟩ := IA_s HA
  have q0 : (nApp σ 9 x z).2 69 = σ.2 69 := nApp_r _ _ _ (by rw [rf_9_1]; decide) (by rw [rf_9_2]; decide)
  obtain ⟨N, hN⟩ : ∃ N : Nat, σ.2 69 71 = N := ⟨(σ.2 69 71).toNat, by omega⟩
  have e := mApp_at (nApp σ 9 x z) (at' := 71) (a := 72) (b := 77) (c := N) x z (by rw [q0]; exact hN) (by omega) (by omega) (by omega)
  rw [q0] at e
  have r : ∀ q, ¬ q = 69 → ¬ q = 10 → ¬ q = 11 → (mApp (nApp σ 9 x z) 71 72 77 x z).2 q = σ.2 q := fun q h1 h2 h3 => by rw [mApp_r _ _ _ _ _ _ h1, nApp_r _ _ _ (by rw [rf_9_1]; exact h2) (by rw [rf_9_2]; exact h3)]
  have f : ∀ q j', ¬ q = 9 → (mApp (nApp σ 9 x z) 71 72 77 x z).1 q j' = σ.1 q j' := fun q j' h => nApp_f σ x z j' h
  have e' : ∀ k, ¬ k = 71 → ¬ k = 72 + N → ¬ k = 77 + N → (mApp (nApp σ 9 x z) 71 72 77 x z).2 69 k = σ.2 69 k := fun k h1 h2 h3 => by rw [e, if_neg h1, if_neg (by omega), if_neg (by omega)]
  refine IA_of (PN_fr (f 2 0 (by decide)) (e' 0 (by omega) (by omega) (by omega)) (IA_n HA)) (PW_fr (r 3 (by decide) (by decide) (by decide)) (e' 0 (by omega) (by omega) (by omega)) (fun k h1 h2 => e' k (by omega) (by omega) (by omega)) (IA_w HA)) (PM_fr (r 4 (by decide) (by decide) (by decide)) (e' 0 (by omega) (by omega) (by omega)) (fun k h1 h2 => e' k (by omega) (by omega) (by omega)) (IA_m HA)) (PH_fr (r 5 (by decide) (by decide) (by decide)) (fun k h1 h2 => e' k (by omega) (by omega) (by omega)) (IA_h HA)) (PO_fr (f 6 0 (by decide)) (r 7 (by decide) (by decide) (by decide)) (r 8 (by decide) (by decide) (by decide)) (fun k h1 h2 => e' k (by omega) (by omega) (by omega)) (IA_o HA)) ?_ (PE_fr (f 12 0 (by decide)) (r 13 (by decide) (by decide) (by decide)) (r 14 (by decide) (by decide) (by decide)) (fun k h1 h2 => e' k (by omega) (by omega) (by omega)) (IA_e HA)) (PB_fr (f 15 0 (by decide)) (r 16 (by decide) (by decide) (by decide)) (r 17 (by decide) (by decide) (by decide)) (fun k h1 h2 => e' k (by omega) (by omega) (by omega)) (IA_b HA))
  have e71 : (mApp (nApp σ 9 x z) 71 72 77 x z).2 69 71 = (N : Int) + 1 := by rw [e, if_pos rfl]
  have p1 : ∀ k, (mApp (nApp σ 9 x z) 71 72 77 x z).2 10 k = if k = N then x else σ.2 10 k := fun k => by
    rw [mApp_r _ _ _ _ _ _ (by decide)]
    have := nApp_a σ (a := 9) x z (by rw [rf_9_1, rf_9_2]; decide) k
    rw [rf_9_1, s1, hN, Int.toNat_natCast] at this
    exact this
  have p2 : ∀ k, (mApp (nApp σ 9 x z) 71 72 77 x z).2 11 k = if k = N then z else σ.2 11 k := fun k => by
    rw [mApp_r _ _ _ _ _ _ (by decide)]
    have := nApp_b σ (a := 9) x z (by rw [rf_9_1, rf_9_2]; decide) k
    rw [rf_9_2, s1, hN, Int.toNat_natCast] at this
    exact this
  have u1 : ∀ k : Nat, k < 5 → (mApp (nApp σ 9 x z) 71 72 77 x z).2 69 (72 + k) = if k = N then x else σ.2 69 (72 + k) := fun k hk => by
    rw [e, if_neg (by omega)]
    by_cases y : k = N
    · rw [if_pos (by omega), if_pos y]
    · rw [if_neg (by omega), if_neg (by omega), if_neg y]
  have u2 : ∀ k : Nat, k < 5 → (mApp (nApp σ 9 x z) 71 72 77 x z).2 69 (77 + k) = if k = N then z else σ.2 69 (77 + k) := fun k hk => by
    rw [e, if_neg (by omega), if_neg (by omega)]
    by_cases y : k = N
    · rw [if_pos (by omega), if_pos y]
    · rw [if_neg (by omega), if_neg y]
  refine ⟨⟨?_, fun k hk => ?_⟩, ?_, ?_, fun k hk => ?_⟩
  · rw [e71]
    exact (nApp_1 σ 9 x z).trans (by rw [s1, hN])
  · rw [e71] at hk
    rw [p1, p2, u1 k (by omega), u2 k (by omega)]
    by_cases y : k = N
    · simp only [if_pos y]
      exact ⟨trivial, trivial⟩
    · simp only [if_neg y]
      exact s2 k (by omega)
  · rw [e71]; omega
  · rw [e71]; omega
  · rw [e71] at hk
    rw [u1 k (by omega)]
    by_cases y : k = N
    · rw [if_pos y]; omega
    · rw [if_neg y]
      exact s5 k (by omega)
theorem IA_e0 {σ : oSg} (HA : IA σ) : IA (oSA (oSF σ 12 0 0) 69 82 0) := by
  have e : ∀ k, ¬ k = 82 → (oSA (oSF σ 12 0 0) 69 82 0).2 69 k = σ.2 69 k := fun k hk => oSA_i _ _ hk
  have r : ∀ q, ¬ q = 69 → (oSA (oSF σ 12 0 0) 69 82 0).2 q = σ.2 q := fun q h1 => oSA_ne _ _ _ h1
  have f : ∀ q j, ¬ q = 12 → (oSA (oSF σ 12 0 0) 69 82 0).1 q j = σ.1 q j := fun q j h => oSF_o _ _ (fun z => h z.1)
  refine IA_of (PN_fr (f 2 0 (by decide)) (e 0 (by omega)) (IA_n HA)) (PW_fr (r 3 (by decide)) (e 0 (by omega)) (fun k h1 h2 => e k (by omega)) (IA_w HA)) (PM_fr (r 4 (by decide)) (e 0 (by omega)) (fun k h1 h2 => e k (by omega)) (IA_m HA)) (PH_fr (r 5 (by decide)) (fun k h1 h2 => e k (by omega)) (IA_h HA)) (PO_fr (f 6 0 (by decide)) (r 7 (by decide)) (r 8 (by decide)) (fun k h1 h2 => e k (by omega)) (IA_o HA)) (PS_fr (f 9 0 (by decide)) (r 10 (by decide)) (r 11 (by decide)) (fun k h1 h2 => e k (by omega)) (IA_s HA)) ?_ (PB_fr (f 15 0 (by decide)) (r 16 (by decide)) (r 17 (by decide)) (fun k h1 h2 => e k (by omega)) (IA_b HA))
  have z : (oSA (oSF σ 12 0 0) 69 82 0).2 69 82 = 0 := oSA_s _ _ _ _
  unfold PE
  rw [z]
  exact ⟨⟨oSF_s σ 12 0 0, fun k hk => by omega⟩, ⟨by decide, by decide⟩⟩
theorem IA_e1 {σ : oSg} (HA : IA σ) (x z : Int)  (hr : ¬ σ.2 69 82 = 8) : IA (mApp (nApp σ 12 x z) 82 83 91 x z) := by
  obtain ⟨⟨s1, s2⟩, s3, s4⟩ := IA_e HA
  have q0 : (nApp σ 12 x z).2 69 = σ.2 69 := nApp_r _ _ _ (by rw [rf_12_1]; decide) (by rw [rf_12_2]; decide)
  obtain ⟨N, hN⟩ : ∃ N : Nat, σ.2 69 82 = N := ⟨(σ.2 69 82).toNat, by omega⟩
  have e := mApp_at (nApp σ 12 x z) (at' := 82) (a := 83) (b := 91) (c := N) x z (by rw [q0]; exact hN) (by omega) (by omega) (by omega)
  rw [q0] at e
  have r : ∀ q, ¬ q = 69 → ¬ q = 13 → ¬ q = 14 → (mApp (nApp σ 12 x z) 82 83 91 x z).2 q = σ.2 q := fun q h1 h2 h3 => by rw [mApp_r _ _ _ _ _ _ h1, nApp_r _ _ _ (by rw [rf_12_1]; exact h2) (by rw [rf_12_2]; exact h3)]
  have f : ∀ q j', ¬ q = 12 → (mApp (nApp σ 12 x z) 82 83 91 x z).1 q j' = σ.1 q j' := fun q j' h => nApp_f σ x z j' h
  have e' : ∀ k, ¬ k = 82 → ¬ k = 83 + N → ¬ k = 91 + N → (mApp (nApp σ 12 x z) 82 83 91 x z).2 69 k = σ.2 69 k := fun k h1 h2 h3 => by rw [e, if_neg h1, if_neg (by omega), if_neg (by omega)]
  refine IA_of (PN_fr (f 2 0 (by decide)) (e' 0 (by omega) (by omega) (by omega)) (IA_n HA)) (PW_fr (r 3 (by decide) (by decide) (by decide)) (e' 0 (by omega) (by omega) (by omega)) (fun k h1 h2 => e' k (by omega) (by omega) (by omega)) (IA_w HA)) (PM_fr (r 4 (by decide) (by decide) (by decide)) (e' 0 (by omega) (by omega) (by omega)) (fun k h1 h2 => e' k (by omega) (by omega) (by omega)) (IA_m HA)) (PH_fr (r 5 (by decide) (by decide) (by decide)) (fun k h1 h2 => e' k (by omega) (by omega) (by omega)) (IA_h HA)) (PO_fr (f 6 0 (by decide)) (r 7 (by decide) (by decide) (by decide)) (r 8 (by decide) (by decide) (by decide)) (fun k h1 h2 => e' k (by omega) (by omega) (by omega)) (IA_o HA)) (PS_fr (f 9 0 (by decide)) (r 10 (by decide) (by decide) (by decide)) (r 11 (by decide) (by decide) (by decide)) (fun k h1 h2 => e' k (by omega) (by omega) (by omega)) (IA_s HA)) ?_ (PB_fr (f 15 0 (by decide)) (r 16 (by decide) (by decide) (by decide)) (r 17 (by decide) (by decide) (by decide)) (fun k h1 h2 => e' k (by omega) (by omega) (by omega)) (IA_b HA))
  have e71 : (mApp (nApp σ 12 x z) 82 83 91 x z).2 69 82 = (N : Int) + 1 := by rw [e, if_pos rfl]
  have p1 : ∀ k, (mApp (nApp σ 12 x z) 82 83 91 x z).2 13 k = if k = N then x else σ.2 13 k := fun k => by
    rw [mApp_r _ _ _ _ _ _ (by decide)]
    have := nApp_a σ (a := 12) x z (by rw [rf_12_1, rf_12_2]; decide) k
    rw [rf_12_1, s1, hN, Int.toNat_natCast] at this
    exact this
  have p2 : ∀ k, (mApp (nApp σ 12 x z) 82 83 91 x z).2 14 k = if k = N then z else σ.2 14 k := fun k => by
    rw [mApp_r _ _ _ _ _ _ (by decide)]
    have := nApp_b σ (a := 12) x z (by rw [rf_12_1, rf_12_2]; decide) k
    rw [rf_12_2, s1, hN, Int.toNat_natCast] at this
    exact this
  have u1 : ∀ k : Nat, k < 8 → (mApp (nApp σ 12 x z) 82 83 91 x z).2 69 (83 + k) = if k = N then x else σ.2 69 (83 + k) := fun k hk => by
    rw [e, if_neg (by omega)]
    by_cases y : k = N
    · rw [if_pos (by omega), if_pos y]
    · rw [if_neg (by omega), if_neg (by omega), if_neg y]
  have u2 : ∀ k : Nat, k < 8 → (mApp (nApp σ 12 x z) 82 83 91 x z).2 69 (91 + k) = if k = N then z else σ.2 69 (91 + k) := fun k hk => by
    rw [e, if_neg (by omega), if_neg (by omega)]
    by_cases y : k = N
    · rw [if_pos (by omega), if_pos y]
    · rw [if_neg (by omega), if_neg y]
  refine ⟨⟨?_, fun k hk => ?_⟩, ?_, ?_⟩
  · rw [e71]
    exact (nApp_1 σ 12 x z).trans (by rw [s1, hN])
  · rw [e71] at hk
    rw [p1, p2, u1 k (by omega), u2 k (by omega)]
    by_cases y : k = N
    · simp only [if_pos y]
      exact ⟨trivial, trivial⟩
    · simp only [if_neg y]
      exact s2 k (by omega)
  · rw [e71]; omega
  · rw [e71]; omega
theorem IA_b0 {σ : oSg} (HA : IA σ) : IA (oSA (oSF σ 15 0 0) 69 99 0) := by
  have e : ∀ k, ¬ k = 99 → (oSA (oSF σ 15 0 0) 69 99 0).2 69 k = σ.2 69 k := fun k hk => oSA_i _ _ hk
  have r : ∀ q, ¬ q = 69 → (oSA (oSF σ 15 0 0) 69 99 0).2 q = σ.2 q := fun q h1 => oSA_ne _ _ _ h1
  have f : ∀ q j, ¬ q = 15 → (oSA (oSF σ 15 0 0) 69 99 0).1 q j = σ.1 q j := fun q j h => oSF_o _ _ (fun z => h z.1)
  refine IA_of (PN_fr (f 2 0 (by decide)) (e 0 (by omega)) (IA_n HA)) (PW_fr (r 3 (by decide)) (e 0 (by omega)) (fun k h1 h2 => e k (by omega)) (IA_w HA)) (PM_fr (r 4 (by decide)) (e 0 (by omega)) (fun k h1 h2 => e k (by omega)) (IA_m HA)) (PH_fr (r 5 (by decide)) (fun k h1 h2 => e k (by omega)) (IA_h HA)) (PO_fr (f 6 0 (by decide)) (r 7 (by decide)) (r 8 (by decide)) (fun k h1 h2 => e k (by omega)) (IA_o HA)) (PS_fr (f 9 0 (by decide)) (r 10 (by decide)) (r 11 (by decide)) (fun k h1 h2 => e k (by omega)) (IA_s HA)) (PE_fr (f 12 0 (by decide)) (r 13 (by decide)) (r 14 (by decide)) (fun k h1 h2 => e k (by omega)) (IA_e HA)) ?_
  have z : (oSA (oSF σ 15 0 0) 69 99 0).2 69 99 = 0 := oSA_s _ _ _ _
  unfold PB
  rw [z]
  exact ⟨⟨oSF_s σ 15 0 0, fun k hk => by omega⟩, ⟨by decide, by decide, fun k hk => by omega⟩⟩
theorem IA_b1 {σ : oSg} (HA : IA σ) (x z : Int) (hx : 0 ≤ x ∧ x < 7) (hr : ¬ σ.2 69 99 = 8) : IA (mApp (nApp σ 15 x z) 99 100 108 x z) := by
  obtain ⟨⟨s1, s2⟩, s3, s4, s5⟩ := IA_b HA
  have q0 : (nApp σ 15 x z).2 69 = σ.2 69 := nApp_r _ _ _ (by rw [rf_15_1]; decide) (by rw [rf_15_2]; decide)
  obtain ⟨N, hN⟩ : ∃ N : Nat, σ.2 69 99 = N := ⟨(σ.2 69 99).toNat, by omega⟩
  have e := mApp_at (nApp σ 15 x z) (at' := 99) (a := 100) (b := 108) (c := N) x z (by rw [q0]; exact hN) (by omega) (by omega) (by omega)
  rw [q0] at e
  have r : ∀ q, ¬ q = 69 → ¬ q = 16 → ¬ q = 17 → (mApp (nApp σ 15 x z) 99 100 108 x z).2 q = σ.2 q := fun q h1 h2 h3 => by rw [mApp_r _ _ _ _ _ _ h1, nApp_r _ _ _ (by rw [rf_15_1]; exact h2) (by rw [rf_15_2]; exact h3)]
  have f : ∀ q j', ¬ q = 15 → (mApp (nApp σ 15 x z) 99 100 108 x z).1 q j' = σ.1 q j' := fun q j' h => nApp_f σ x z j' h
  have e' : ∀ k, ¬ k = 99 → ¬ k = 100 + N → ¬ k = 108 + N → (mApp (nApp σ 15 x z) 99 100 108 x z).2 69 k = σ.2 69 k := fun k h1 h2 h3 => by rw [e, if_neg h1, if_neg (by omega), if_neg (by omega)]
  refine IA_of (PN_fr (f 2 0 (by decide)) (e' 0 (by omega) (by omega) (by omega)) (IA_n HA)) (PW_fr (r 3 (by decide) (by decide) (by decide)) (e' 0 (by omega) (by omega) (by omega)) (fun k h1 h2 => e' k (by omega) (by omega) (by omega)) (IA_w HA)) (PM_fr (r 4 (by decide) (by decide) (by decide)) (e' 0 (by omega) (by omega) (by omega)) (fun k h1 h2 => e' k (by omega) (by omega) (by omega)) (IA_m HA)) (PH_fr (r 5 (by decide) (by decide) (by decide)) (fun k h1 h2 => e' k (by omega) (by omega) (by omega)) (IA_h HA)) (PO_fr (f 6 0 (by decide)) (r 7 (by decide) (by decide) (by decide)) (r 8 (by decide) (by decide) (by decide)) (fun k h1 h2 => e' k (by omega) (by omega) (by omega)) (IA_o HA)) (PS_fr (f 9 0 (by decide)) (r 10 (by decide) (by decide) (by decide)) (r 11 (by decide) (by decide) (by decide)) (fun k h1 h2 => e' k (by omega) (by omega) (by omega)) (IA_s HA)) (PE_fr (f 12 0 (by decide)) (r 13 (by decide) (by decide) (by decide)) (r 14 (by decide) (by decide) (by decide)) (fun k h1 h2 => e' k (by omega) (by omega) (by omega)) (IA_e HA)) ?_
  have e71 : (mApp (nApp σ 15 x z) 99 100 108 x z).2 69 99 = (N : Int) + 1 := by rw [e, if_pos rfl]
  have p1 : ∀ k, (mApp (nApp σ 15 x z) 99 100 108 x z).2 16 k = if k = N then x else σ.2 16 k := fun k => by
    rw [mApp_r _ _ _ _ _ _ (by decide)]
    have := nApp_a σ (a := 15) x z (by rw [rf_15_1, rf_15_2]; decide) k
    rw [rf_15_1, s1, hN, Int.toNat_natCast] at this
    exact this
  have p2 : ∀ k, (mApp (nApp σ 15 x z) 99 100 108 x z).2 17 k = if k = N then z else σ.2 17 k := fun k => by
    rw [mApp_r _ _ _ _ _ _ (by decide)]
    have := nApp_b σ (a := 15) x z (by rw [rf_15_1, rf_15_2]; decide) k
    rw [rf_15_2, s1, hN, Int.toNat_natCast] at this
    exact this
  have u1 : ∀ k : Nat, k < 8 → (mApp (nApp σ 15 x z) 99 100 108 x z).2 69 (100 + k) = if k = N then x else σ.2 69 (100 + k) := fun k hk => by
    rw [e, if_neg (by omega)]
    by_cases y : k = N
    · rw [if_pos (by omega), if_pos y]
    · rw [if_neg (by omega), if_neg (by omega), if_neg y]
  have u2 : ∀ k : Nat, k < 8 → (mApp (nApp σ 15 x z) 99 100 108 x z).2 69 (108 + k) = if k = N then z else σ.2 69 (108 + k) := fun k hk => by
    rw [e, if_neg (by omega), if_neg (by omega)]
    by_cases y : k = N
    · rw [if_pos (by omega), if_pos y]
    · rw [if_neg (by omega), if_neg y]
  refine ⟨⟨?_, fun k hk => ?_⟩, ?_, ?_, fun k hk => ?_⟩
  · rw [e71]
    exact (nApp_1 σ 15 x z).trans (by rw [s1, hN])
  · rw [e71] at hk
    rw [p1, p2, u1 k (by omega), u2 k (by omega)]
    by_cases y : k = N
    · simp only [if_pos y]
      exact ⟨trivial, trivial⟩
    · simp only [if_neg y]
      exact s2 k (by omega)
  · rw [e71]; omega
  · rw [e71]; omega
  · rw [e71] at hk
    rw [u1 k (by omega)]
    by_cases y : k = N
    · rw [if_pos y]; omega
    · rw [if_neg y]
      exact s5 k (by omega)
theorem c_see {σ : oSg} (H : Inv σ) {d : Nat} (hd : 20 ≤ d) (i j : Int) : Both d 104 201 [.inl i, .inl j] σ := by
  have HA := H.1
  have hn := vw_n HA
  have b0 := HA.2.1.1
  have b7 := HA.2.1.2
  obtain ⟨⟨s1, s2⟩, s3, s4, s5⟩ := IA_s HA
  have x := m_X_see (d := d) (σ := σ) (i := i) (j := j) (by omega) (by omega)
  unfold xTwo at x
  by_cases c : i = -1
  · rw [if_pos c] at x
    have y := m_M_see (d := d) (σ := oSF σ 9 0 0) (i := i) (j := j) b0 b7 s3 s4 (by omega)
    unfold yCm at y
    rw [if_pos c] at y
    exact Both_i x y rfl (Inv_h H (Fh_t (Fh_SF _ _ (by decide)) (Fh_SA _ _ (by decide))) (IA_s0 HA))
  · rw [if_neg c, hn] at x
    by_cases t : nTwo (σ.2 69 0) i j
    · obtain ⟨⟨a1, a2, a3⟩, ⟨c1, c2, c3⟩, d1⟩ := id t
      rw [if_neg (not_not_intro t), rf_9_1, ln_10, s1] at x
      by_cases g : σ.2 69 71 = 5
      · rw [if_pos (by omega)] at x
        have y := m_M_see (d := d) (σ := σ) (i := i) (j := j) b0 b7 s3 s4 (by omega)
        unfold yCm at y
        rw [if_neg c, if_neg (not_not_intro t), if_pos (by omega)] at y
        exact Both_i x y rfl H
      · rw [if_neg (by omega)] at x
        have q0 : (nApp σ 9 i j).2 69 = σ.2 69 := nApp_r _ _ _ (by rw [rf_9_1]; decide) (by rw [rf_9_2]; decide)
        have y := m_M_see (d := d) (σ := nApp σ 9 i j) (i := i) (j := j) (by rw [q0]; exact b0) (by rw [q0]; exact b7) (by rw [q0]; exact s3) (by rw [q0]; exact s4) (by omega)
        unfold yCm at y
        rw [q0, if_neg c, if_neg (not_not_intro t), if_neg (by omega), sCm_mApp _ _ _ (by rw [q0]; exact s3)] at y
        exact Both_i x y rfl (Inv_h H (Fh_t (Fh_app σ i j (by decide) (by rw [rf_9_1]; decide) (by rw [rf_9_2]; decide)) (Fh_mApp _ _ _ _ _ _)) (IA_s1 HA i j ⟨a1, a3⟩ g))
    · rw [if_pos t] at x
      have y := m_M_see (d := d) (σ := σ) (i := i) (j := j) b0 b7 s3 s4 (by omega)
      unfold yCm at y
      rw [if_neg c, if_pos t] at y
      exact Both_i x y rfl H
theorem c_book {σ : oSg} (H : Inv σ) {d : Nat} (hd : 20 ≤ d) (i j : Int) : Both d 117 214 [.inl i, .inl j] σ := by
  have HA := H.1
  have hn := vw_n HA
  have b0 := HA.2.1.1
  have b7 := HA.2.1.2
  obtain ⟨⟨s1, s2⟩, s3, s4, s5⟩ := IA_b HA
  have x := m_X_book (d := d) (σ := σ) (i := i) (j := j) (by omega) (by omega)
  unfold xTwo at x
  by_cases c : i = -1
  · rw [if_pos c] at x
    have y := m_M_book (d := d) (σ := oSF σ 15 0 0) (i := i) (j := j) b0 b7 s3 s4 (by omega)
    unfold yCm at y
    rw [if_pos c] at y
    exact Both_i x y rfl (Inv_h H (Fh_t (Fh_SF _ _ (by decide)) (Fh_SA _ _ (by decide))) (IA_b0 HA))
  · rw [if_neg c, hn] at x
    by_cases t : nTwo (σ.2 69 0) i j
    · obtain ⟨⟨a1, a2, a3⟩, ⟨c1, c2, c3⟩, d1⟩ := id t
      rw [if_neg (not_not_intro t), rf_15_1, ln_16, s1] at x
      by_cases g : σ.2 69 99 = 8
      · rw [if_pos (by omega)] at x
        have y := m_M_book (d := d) (σ := σ) (i := i) (j := j) b0 b7 s3 s4 (by omega)
        unfold yCm at y
        rw [if_neg c, if_neg (not_not_intro t), if_pos (by omega)] at y
        exact Both_i x y rfl H
      · rw [if_neg (by omega)] at x
        have q0 : (nApp σ 15 i j).2 69 = σ.2 69 := nApp_r _ _ _ (by rw [rf_15_1]; decide) (by rw [rf_15_2]; decide)
        have y := m_M_book (d := d) (σ := nApp σ 15 i j) (i := i) (j := j) (by rw [q0]; exact b0) (by rw [q0]; exact b7) (by rw [q0]; exact s3) (by rw [q0]; exact s4) (by omega)
        unfold yCm at y
        rw [q0, if_neg c, if_neg (not_not_intro t), if_neg (by omega), sCm_mApp _ _ _ (by rw [q0]; exact s3)] at y
        exact Both_i x y rfl (Inv_h H (Fh_t (Fh_app σ i j (by decide) (by rw [rf_15_1]; decide) (by rw [rf_15_2]; decide)) (Fh_mApp _ _ _ _ _ _)) (IA_b1 HA i j ⟨a1, a3⟩ g))
    · rw [if_pos t] at x
      have y := m_M_book (d := d) (σ := σ) (i := i) (j := j) b0 b7 s3 s4 (by omega)
      unfold yCm at y
      rw [if_neg c, if_pos t] at y
      exact Both_i x y rfl H
theorem sHp_mApp (σ : oSg) (w n : Int) (h : 0 ≤ σ.2 69 82) : sHp σ w n = mApp σ 82 83 91 w n := by
  unfold sHp mApp
  rw [show (83 + σ.2 69 82).toNat = 83 + (σ.2 69 82).toNat from by omega, show (91 + σ.2 69 82).toNat = 91 + (σ.2 69 82).toNat from by omega]
theorem sOd1_mApp (σ : oSg) (w n : Int) (h : 0 ≤ σ.2 69 64) : sOd1 σ w n = mApp σ 64 65 68 w n := by
  unfold sOd1 mApp
  rw [show (65 + σ.2 69 64).toNat = 65 + (σ.2 69 64).toNat from by omega, show (68 + σ.2 69 64).toNat = 68 + (σ.2 69 64).toNat from by omega]
theorem c_event {σ : oSg} (H : Inv σ) {d : Nat} (hd : 20 ≤ d) (w n : Int) : Both d 112 209 [.inl w, .inl n] σ := by
  have HA := H.1
  have hn := vw_n HA
  have b0 := HA.2.1.1
  have b7 := HA.2.1.2
  obtain ⟨⟨s1, s2⟩, s3, s4⟩ := IA_e HA
  have x := m_X_event (d := d) (σ := σ) (w := w) (n := n) (by omega) (by omega)
  unfold xEvent at x
  by_cases c : w = -1
  · rw [if_pos c] at x
    have y := m_M_event (d := d) (σ := oSF σ 12 0 0) (w := w) (n := n) b0 b7 s3 s4 (by omega)
    unfold yEvent at y
    rw [if_pos c] at y
    exact Both_i x y rfl (Inv_h H (Fh_t (Fh_SF _ _ (by decide)) (Fh_SA _ _ (by decide))) (IA_e0 HA))
  · rw [if_neg c, hn, s1] at x
    have y0 := m_M_event (d := d) (σ := σ) (w := w) (n := n) b0 b7 s3 s4 (by omega)
    unfold yEvent at y0
    rw [if_neg c] at y0
    by_cases c1 : ¬ (0 ≤ w ∧ w ≤ 3) ∨ w < 2 ∧ ¬ nHas (σ.2 69 0) n
    · rw [if_pos c1] at y0
      by_cases c2 : w < 0 ∨ 3 < w
      · rw [if_pos c2] at x
        exact Both_i x y0 rfl H
      · rw [if_neg c2, if_pos ⟨by omega, (c1.resolve_left (by omega)).2⟩] at x
        exact Both_i x y0 rfl H
    · rw [if_neg c1] at y0
      have c2 : ¬ (w < 0 ∨ 3 < w) := by omega
      have c3 : ¬ ((w = 0 ∨ w = 1) ∧ ¬ nHas (σ.2 69 0) n) := fun z => c1 (Or.inr ⟨by omega, z.2⟩)
      rw [if_neg c2, if_neg c3] at x
      by_cases c4 : w = 2 ∧ ¬ (0 ≤ n ∧ n ≤ 20)
      · rw [if_pos c4] at y0
        rw [if_pos (by omega)] at x
        exact Both_i x y0 rfl H
      · rw [if_neg c4] at y0
        rw [if_neg (by omega)] at x
        by_cases g : σ.2 69 82 = 8
        · rw [if_pos g] at y0
          rw [if_pos (by omega)] at x
          exact Both_i x y0 rfl H
        · rw [if_neg (by omega)] at x
          have q0 : (nApp σ 12 w n).2 69 = σ.2 69 := nApp_r _ _ _ (by rw [rf_12_1]; decide) (by rw [rf_12_2]; decide)
          have y := m_M_event (d := d) (σ := nApp σ 12 w n) (w := w) (n := n) (by rw [q0]; exact b0) (by rw [q0]; exact b7) (by rw [q0]; exact s3) (by rw [q0]; exact s4) (by omega)
          unfold yEvent at y
          rw [q0, if_neg c, if_neg c1, if_neg c4, if_neg g, sHp_mApp _ _ _ (by rw [q0]; exact s3)] at y
          exact Both_i x y rfl (Inv_h H (Fh_t (Fh_app σ w n (by decide) (by rw [rf_12_1]; decide) (by rw [rf_12_2]; decide)) (Fh_mApp _ _ _ _ _ _)) (IA_e1 HA w n g))
theorem c_looked {σ : oSg} (H : Inv σ) {d : Nat} (hd : 20 ≤ d) : Both d 118 215 [] σ := by
  have HA := H.1
  obtain ⟨⟨s1, s2⟩, s3, s4, s5⟩ := IA_b HA
  have x := m_X_looked (d := d) (σ := σ) (by omega) (by omega) (by omega)
  have y := m_M_looked (d := d) (σ := σ) s3 s4 s5 (by omega)
  refine Both_i x y ?_ H
  unfold xLooked yLooked
  have e : nFst (fun k => ¬ nM (σ.2 4) (nAt (σ.2 16) 8 k) = nAt (σ.2 17) 8 k) (σ.1 15 0).toNat 0 = nFst (fun k => ¬ nM (gM (σ.2 69)) (σ.2 69 (100 + k)) = σ.2 69 (108 + k)) (σ.2 69 99).toNat 0 := by
    rw [s1, vw_M HA]
    refine nFst_ext ?_
    intro k h0 hk
    have hk2 : (k : Int) < σ.2 69 99 := by omega
    obtain ⟨z1, z2⟩ := s2 k hk2
    have a1 : nAt (σ.2 16) 8 k = σ.2 69 (100 + k) := by unfold nAt; rw [if_pos (by omega), Int.toNat_natCast, z1]
    have a2 : nAt (σ.2 17) 8 k = σ.2 69 (108 + k) := by unfold nAt; rw [if_pos (by omega), Int.toNat_natCast, z2]
    rw [a1, a2]
  rw [e]

