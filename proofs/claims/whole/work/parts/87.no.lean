/-! calls: after -/
/-- one event's step on either side -/
theorem Ot_beh {τ υ : oSg} {n : Nat} (h : Ot τ υ n) (what m : Int) {i j : Nat} (hij : i < j) (hj : j < n) : Ot (nSet τ 55 i j (nBeh (nW (τ.2 56) i j) what m i j)) (sHs υ what m i j) n := by
  obtain ⟨h1, h3, h4, h5, h6, hs⟩ := id h
  have n7 : n ≤ 7 := by have := h6.2.1; omega
  have h2 : nTwo n (i : Int) (j : Int) := ⟨⟨by omega, by omega, by omega⟩, ⟨by omega, by omega, by omega⟩, by omega⟩
  obtain ⟨w, hw⟩ : ∃ w, nW (gW (υ.2 69)) (i : Int) (j : Int) = w := ⟨_, rfl⟩
  have wb := h6.2.2 i j
  rw [hw] at wb
  have hc : nW (τ.2 56) (i : Int) (j : Int) = w := by rw [h4, hw]
  rw [hc]
  -- what stays as it is
  have same : ∀ υ', υ' = υ → nBeh w what m i j = w → Ot (nSet τ 55 i j (nBeh w what m i j)) υ' n := by
    intro υ' e1 e2
    rw [e1, e2]
    have eq : nW ((nSet τ 55 i j w).2 56) = nW (τ.2 56) := by
      funext a b
      have e := nSet_w (σ := τ) (a := 55) (i := (i : Int)) (j := (j : Int)) (w := w) (by rw [h1]; exact h2) a b
      rw [rf_55_1] at e
      rw [e]
      by_cases c : (a = (i : Int) ∧ b = (j : Int)) ∨ (a = (j : Int) ∧ b = (i : Int))
      · rw [if_pos c]
        rcases c with ⟨c1, c2⟩ | ⟨c1, c2⟩
        · rw [c1, c2, hc]
        · rw [c1, c2, hs, hc]
      · rw [if_neg c]
    exact ⟨by rw [nSet_1, h1], h3, by rw [eq, h4], cNet_set h5 wb.1 wb.2, h6, by rw [eq]; exact hs⟩
  unfold sHs
  rw [hw]
  by_cases c1 : (what = 0 ∧ ((i : Int) = m ∨ (j : Int) = m)) ∨ (what = 2 ∧ w < m)
  · rw [if_pos c1]
    have e : nBeh w what m i j = 0 := by
      unfold nBeh
      by_cases w0 : w = 0
      · rw [if_pos w0]
      · rw [if_neg w0]
        rcases c1 with ⟨c1, c2⟩ | ⟨c1, c2⟩
        · rw [if_pos c1, if_pos c2]
        · rw [if_neg (by omega), if_neg (by omega), if_pos c1, if_pos c2]
    rw [e]
    exact Ot_put h h2 (by decide) (by decide)
  · rw [if_neg c1]
    by_cases c2 : what = 1 ∧ ((i : Int) = m ∨ (j : Int) = m) ∧ 0 < w
    · rw [if_pos c2]
      obtain ⟨d1, d2, d3⟩ := c2
      have e : nBeh w what m i j = if w + 1 < 20 then w + 1 else 20 := by
        unfold nBeh
        rw [if_neg (by omega), if_neg (by omega), if_pos d1, if_pos d2]
        by_cases z : 20 < w + 1
        · rw [if_pos z, if_neg (by omega)]
        · rw [if_neg z]
          by_cases y : w + 1 < 20
          · rw [if_pos y]
          · rw [if_neg y]
            omega
      rw [e]
      refine Ot_put h h2 ?_ ?_ <;> (split <;> omega)
    · rw [if_neg c2]
      by_cases c3 : what = 3 ∧ 0 < w
      · rw [if_pos c3]
        have e : nBeh w what m i j = 1 := by
          unfold nBeh
          rw [if_neg (by omega), if_neg (by omega), if_neg (by omega), if_neg (by omega), if_pos c3.1]
        rw [e]
        exact Ot_put h h2 (by decide) (by decide)
      · rw [if_neg c3]
        refine same υ rfl ?_
        unfold nBeh
        by_cases w0 : w = 0
        · rw [if_pos w0, w0]
        · rw [if_neg w0]
          by_cases a0 : what = 0
          · rw [if_pos a0, if_neg (fun z => c1 (Or.inl ⟨a0, z⟩))]
          · rw [if_neg a0]
            by_cases a1 : what = 1
            · rw [if_pos a1, if_neg (fun z => c2 ⟨a1, z, by omega⟩)]
            · rw [if_neg a1]
              by_cases a2 : what = 2
              · rw [if_pos a2, if_neg (fun z => c1 (Or.inr ⟨a2, z⟩))]
              · rw [if_neg a2]
                by_cases a3 : what = 3
                · exact absurd ⟨a3, by omega⟩ c3
                · rw [if_neg a3]
theorem Ot_I {τ υ : oSg} {n : Nat} (h : Ot τ υ n) (what m : Int) {i : Nat} : ∀ q, i + 1 + q ≤ n → Ot (sBefI τ 55 what m i q) (sHI υ what m i q) n
  | 0, _ => h
  | q + 1, hq => by
    have ih := Ot_I h what m (i := i) q (by omega)
    have := Ot_beh ih what m (i := i) (j := i + 1 + q) (by omega) (by omega)
    have e : sBefI τ 55 what m i (q + 1) = nSet (sBefI τ 55 what m i q) 55 i ((i + 1 + q : Nat) : Int) (nBeh (nW ((sBefI τ 55 what m i q).2 56) i ((i + 1 + q : Nat) : Int)) what m i ((i + 1 + q : Nat) : Int)) := by
      show nSet (sBefI τ 55 what m i q) 55 _ _ (nBeh (nW ((sBefI τ 55 what m i q).2 (oRf 55 1)) _ _) what m _ _) = _
      rw [rf_55_1]
    rw [e]
    exact this
theorem Ot_O {τ υ : oSg} {n : Nat} (h : Ot τ υ n) (what m : Int) : ∀ i, i ≤ n → Ot (sBefO τ 55 what m n i) (sHO υ what m n i) n
  | 0, _ => h
  | i + 1, hi => Ot_I (Ot_O h what m i (by omega)) what m (n - (i + 1)) (by omega)
theorem Fr_befI (σ : oSg) (what m : Int) (i : Nat) : ∀ q, Fr σ (sBefI σ 55 what m i q)
  | 0 => Fr_r σ
  | q + 1 => Fr_t (Fr_befI σ what m i q) (Fr_set55 _ _ _ _)
theorem Fr_befO (σ : oSg) (what m : Int) (n : Nat) : ∀ i, Fr σ (sBefO σ 55 what m n i)
  | 0 => Fr_r σ
  | i + 1 => Fr_t (Fr_befO σ what m n i) (Fr_befI _ _ _ _ _)
theorem Fr_ev (σ : oSg) : ∀ k, Fr σ (sEv σ k)
  | 0 => Fr_oth σ
  | k + 1 => Fr_t (Fr_ev σ k) (Fr_befO _ _ _ _ _)
theorem ev_69 (σ : oSg) : ∀ k, (sEv σ k).2 69 = σ.2 69
  | 0 => oCp_ne _ (by decide)
  | k + 1 => by
    show (sBefO (sEv σ k) 55 _ _ _ _).2 69 = _
    rw [sBefO_r _ _ _ _ (by rw [rf_55_1]; decide), ev_69 σ k]
section AFT
variable {σ : oSg}
theorem ev_rel (H : Inv σ) {n E : Nat} (hn : σ.2 69 0 = n) (hE : σ.2 69 82 = E) {σ1 : oSg} (h69 : σ1.2 69 = σ.2 69) : ∀ k, k ≤ E → Ot (sEv σ k) (sAf σ1 n k) n := by
  have HA := H.1
  have n7 : n ≤ 7 := by have := HA.2.1.2; omega
  obtain ⟨⟨s1, s2⟩, s3, s4⟩ := IA_e HA
  intro k
  induction k with
  | zero =>
    intro _
    have e := (sA1_k (σ := σ1) (by unfold mNet; rw [h69]; exact vw_N HA)).2
    refine ⟨?_, ?_, ?_, sOth_N (vw_c HA), ?_⟩
    · exact (oSF_s σ 55 0 (σ.1 2 0)).trans (by rw [vw_n HA, hn])
    · show (sA1 σ1).2 69 0 = _
      rw [e, h69, hn]
    · show nW ((sOth σ).2 56) = nW (gW ((sA1 σ1).2 69))
      rw [e, h69, ← vw_W HA]
      funext a b
      exact sOth_w σ a b
    · refine ⟨?_, ?_⟩
      · show mNet (sA1 σ1)
        unfold mNet
        rw [e, h69]
        exact vw_N HA
      · intro a b
        show nW ((sOth σ).2 56) a b = nW ((sOth σ).2 56) b a
        rw [sOth_w, sOth_w, vw_W HA]
        exact (IA_w HA).2.2.1 a b
  | succ k ih =>
    intro hk
    have o := ih (by omega)
    have hk2 : (k : Int) < σ.2 69 82 := by omega
    obtain ⟨z1, z2⟩ := s2 k hk2
    have a1 : sEv σ (k + 1) = sBefO (sEv σ k) 55 (σ.2 69 (83 + k)) (σ.2 69 (91 + k)) n n := by
      show sBefO (sEv σ k) 55 (nAt ((sEv σ k).2 13) 8 k) (nAt ((sEv σ k).2 14) 8 k) ((sEv σ k).1 55 0).toNat ((sEv σ k).1 55 0).toNat = _
      have f := Fr_ev σ k
      rw [f.1 13 (by omega), f.1 14 (by omega), o.1, Int.toNat_natCast]
      unfold nAt
      rw [if_pos (by omega), if_pos (by omega), Int.toNat_natCast, z1, z2]
    have a2 : sAf σ1 n (k + 1) = sHO (sAf σ1 n k) (σ.2 69 (83 + k)) (σ.2 69 (91 + k)) n n := by
      show sHO (sAf σ1 n k) (σ1.2 69 (83 + k)) (σ1.2 69 (91 + k)) n n = _
      rw [h69]
    rw [a1, a2]
    exact Ot_O o _ _ n (Nat.le_refl _)
/-- what is behind after -/
theorem af_fr (H : Inv σ) {n E : Nat} (hn : σ.2 69 0 = n) (r : Int) : Fr σ (sA9 σ n E r) := by
  have HA := H.1
  have n7 : n ≤ 7 := by have := HA.2.1.2; omega
  obtain ⟨k1, k2, k3, k4⟩ := sAf_k (vw_N HA) n7 E
  refine ⟨fun q hq => ?_, fun k hk => sA9_0 (vw_N HA) n7 r k hk, fun q j hq => ?_⟩
  · unfold sA9
    rw [oCp_ne _ (by omega), sCs_r _ _ _ (by omega) (by omega), k3 q (by omega)]
    unfold sA1
    rw [oCp_ne _ (by omega), oCp_ne _ (by omega), sCs_r _ _ _ (by omega) (by omega)]
  · unfold sA9
    rw [oCp_1, (Fr_cs _ r (-1)).2.2 q j hq, k4]
    unfold sA1
    rw [oCp_1, oCp_1, (Fr_cs _ 0 (-1)).2.2 q j hq]
theorem af_78 (HA : IA σ) {n E : Nat} (h7 : n ≤ 7) (r : Int) : (∀ p, p < 7 → (sA9 σ n E r).2 78 p = (yB σ 0 (-1)).1 p) ∧ (sA9 σ n E r).2 76 = (yB (sAf σ n E) r (-1)).1 := by
  obtain ⟨k1, k2, k3, k4⟩ := sAf_k (vw_N HA) h7 E
  refine ⟨fun p hp => ?_, ?_⟩
  · unfold sA9
    rw [oCp_ne _ (by decide), sCs_r _ _ _ (by decide) (by decide), k3 78 (by decide)]
    unfold sA1
    rw [oCp_ne _ (by decide)]
    have := oCp_at (sCs σ 0 (-1)) (a := 76) (b := 78) (n := 7) p
    rw [if_pos hp] at this
    refine Eq.trans this ?_
    rw [sCs_76]
  · unfold sA9
    rw [oCp_ne _ (by decide), sCs_76]
theorem c_after (H : Inv σ) {d : Nat} (hd : 20 ≤ d) (w : Int) : Both d 113 210 [.inl w] σ := by
  have HA := H.1
  obtain ⟨⟨s1, s2⟩, s3, s4⟩ := IA_e HA
  have x := m_X_after (d := d) (σ := σ) (w := w) (vw_c HA) (by omega) (by omega) (by omega)
  unfold xAfter at x
  obtain ⟨n, hn⟩ : ∃ n : Nat, σ.2 69 0 = n := ⟨(σ.2 69 0).toNat, by have := HA.2.1.1; omega⟩
  obtain ⟨E, hE⟩ : ∃ E : Nat, σ.2 69 82 = E := ⟨(σ.2 69 82).toNat, by omega⟩
  have n7 : n ≤ 7 := by have := HA.2.1.2; omega
  rw [s1, hE, vw_n HA, hn, Int.toNat_natCast, Int.toNat_natCast] at x
  by_cases c : 0 ≤ w ∧ w ≤ 2
  · rw [if_neg (by omega)] at x
    -- behind the class
    have stp : ∀ τ : oSg, Fr σ τ → τ.2 69 = σ.2 69 → oMi d 210 [.inr (.inr (.inl 68)), .inl w] τ (some (.inl (yAfter τ w).1)) (yAfter τ w).2 ∧ (∀ r, Inv (sA9 τ n E r)) ∧ Ot (sEv σ E) (sAf τ n E) n := by
      intro τ hf h69
      have H2 := Inv_fr H hf
      exact ⟨m_M_after (d := d) (σ := τ) (w := w) (vw_N H2.1) (by rw [h69]; exact s3) (by rw [h69]; exact s4) (by omega), fun r => Inv_fr H2 (af_fr H2 (by rw [h69]; exact hn) r), ev_rel H hn hE h69 E (Nat.le_refl _)⟩
    have fE : ∀ r, Fr σ (sFind (sEv σ E) 60 55 r) := fun r => Fr_t (Fr_ev σ E) (Fr_find _ r (Or.inr rfl))
    have e69 : ∀ r, (sFind (sEv σ E) 60 55 r).2 69 = σ.2 69 := fun r => by rw [sFind_r _ r (by rw [rf_60_3]; decide) (by rw [rf_60_4]; decide), ev_69]
    have ya : ∀ τ : oSg, τ.2 69 = σ.2 69 → yAfter τ w = if w = 0 then ((yB (sAf τ n E) 0 (-1)).2.2, sA9 τ n E 0) else if w = 1 then ((yB (sAf τ n E) 1 (-1)).2.1, sA9 τ n E 1) else ((nCnt n (fun p => decide (¬ (sA9 τ n E 0).2 76 p = (sA9 τ n E 0).2 78 p)) : Nat), sA9 τ n E 0) := fun τ h => by
      unfold yAfter
      rw [if_neg (not_not_intro c), h, hn, hE, Int.toNat_natCast, Int.toNat_natCast]
    by_cases w0 : w = 0
    · rw [if_pos w0] at x
      obtain ⟨y, hI, o⟩ := stp _ (fE 0) (e69 0)
      rw [ya _ (e69 0), if_pos w0] at y
      exact Both_i x y (Ot_best o (Or.inl rfl)).2.2.symm (hI 0)
    · rw [if_neg w0] at x
      by_cases w1 : w = 1
      · rw [if_pos w1] at x
        obtain ⟨y, hI, o⟩ := stp _ (fE 1) (e69 1)
        rw [ya _ (e69 1), if_neg w0, if_pos w1] at y
        exact Both_i x y (Ot_best o (Or.inr rfl)).2.1.symm (hI 1)
      · rw [if_neg w1] at x
        have f2 : Fr σ (sFind (sFind (sEv σ E) 60 55 0) 57 2 0) := Fr_t (fE 0) (Fr_find _ 0 (Or.inl rfl))
        have e2 : (sFind (sFind (sEv σ E) 60 55 0) 57 2 0).2 69 = σ.2 69 := by rw [find_69, e69]
        obtain ⟨y, hI, o⟩ := stp _ f2 e2
        rw [ya _ e2, if_neg w0, if_neg w1] at y
        refine Both_i x y ?_ (hI 0)
        refine congrArg (fun z : Nat => (z : Int)) (nCnt_ext (fun p hp => ?_))
        have H1 := Inv_fr H (fE 0)
        have H2 := Inv_fr H f2
        have b1 := (Ot_best o (Or.inl rfl : (0 : Int) = 0 ∨ (0 : Int) = 1)).1 p (by omega)
        have b2 := (house_best H1 (r := 0) (Or.inl rfl) (τ := sFind (sFind (sEv σ E) 60 55 0) 57 2 0) (Fr_find _ 0 (Or.inl rfl)) (find_69 _ 0)).1 p (by omega)
        obtain ⟨g1, g2⟩ := af_78 H2.1 n7 0 (E := E)
        have r61 : (sFind (sFind (sEv σ E) 60 55 0) 57 2 0).2 61 = (sFind (sEv σ E) 60 55 0).2 61 := sFind_r _ 0 (by rw [rf_57_3]; decide) (by rw [rf_57_4]; decide)
        unfold bUnl
        rw [g1 p (by omega), g2, b1, b2, r61, nM_at (by omega), nM_at (by omega)]
  · have y := m_M_after (d := d) (σ := σ) (w := w) (vw_N HA) s3 s4 (by omega)
    unfold yAfter at y
    rw [if_pos c] at y
    rw [if_pos (by omega)] at x
    exact Both_i x y rfl H
end AFT

