/-! calls: fits, odds, after -/
theorem Fr_oth (σ : oSg) : Fr σ (sOth σ) := ⟨fun q hq => oCp_ne _ (by omega), fun k _ => congrFun (oCp_ne _ (by decide)) k, fun q j hq => oSF_o σ _ (by omega)⟩
theorem Fr_set55 (σ : oSg) (i j w : Int) : Fr σ (nSet σ 55 i j w) := ⟨fun q hq => nSet_r σ i j w (by rw [rf_55_1]; omega), fun k _ => by rw [nSet_r σ i j w (by rw [rf_55_1]; decide)], fun q j' _ => by rw [nSet_1]⟩
/-- the other net (object 55) as the model's row has it -/
def Ot (τ υ : oSg) (n : Nat) : Prop := τ.1 55 0 = n ∧ υ.2 69 0 = n ∧ nW (τ.2 56) = nW (gW (υ.2 69)) ∧ cNet τ 55 ∧ mNet υ ∧ ∀ a b, nW (τ.2 56) a b = nW (τ.2 56) b a
theorem Ot_sym {τ υ : oSg} {n : Nat} (h : Ot τ υ n) (a b : Int) : nW (τ.2 56) a b = nW (τ.2 56) b a := h.2.2.2.2.2 a b
theorem Ot_put {τ υ : oSg} {n : Nat} (h : Ot τ υ n) {i j w : Int} (h2 : nTwo n i j) (w0 : 0 ≤ w) (w20 : w ≤ 20) : Ot (nSet τ 55 i j w) (sPut υ i j w) n := by
  obtain ⟨h1, h3, h4, h5, h6, hs⟩ := h
  obtain ⟨⟨i0, i1, i7⟩, ⟨j0, j1, j7⟩, ij⟩ := id h2
  refine ⟨by rw [nSet_1, h1], by rw [sPut_ge _ _ i0 i7 j0 j7 (Or.inr rfl), h3], ?_, cNet_set h5 w0 w20, mNet_put h6 i0 i7 j0 j7 w0 w20, fun a b => ?_⟩
  · funext a b
    have e := nSet_w (σ := τ) (a := 55) (i := i) (j := j) (w := w) (by rw [h1]; exact h2) a b
    rw [rf_55_1] at e
    rw [e, sPut_W _ _ i0 i7 j0 j7, h4]
  · have e1 := nSet_w (σ := τ) (a := 55) (i := i) (j := j) (w := w) (by rw [h1]; exact h2) a b
    have e2 := nSet_w (σ := τ) (a := 55) (i := i) (j := j) (w := w) (by rw [h1]; exact h2) b a
    rw [rf_55_1] at e1 e2
    rw [e1, e2, hs a b]
    by_cases c : (a = i ∧ b = j) ∨ (a = j ∧ b = i)
    · rw [if_pos c, if_pos (by omega)]
    · rw [if_neg c, if_neg (by omega)]
theorem Ot_fc {τ υ : oSg} {n : Nat} (h : Ot τ υ n) (r s : Int) : Ot (sFind τ 60 55 r) (sCs υ s (-1)) n := by
  obtain ⟨h1, h3, h4, h5, h6, hs⟩ := h
  have e56 : (sFind τ 60 55 r).2 56 = τ.2 56 := sFind_r _ r (by rw [rf_60_3]; decide) (by rw [rf_60_4]; decide)
  refine ⟨by rw [sFind_o _ r 0 (by decide), h1], by rw [sCs_69, h3], ?_, cNet_find r kd_60 kd_55 h5, mNet_cs h6 _ _, by rw [e56]; exact hs⟩
  rw [sCs_69, e56, h4]
theorem Ot_best {τ υ : oSg} {n : Nat} (h : Ot τ υ n) {r : Int} (hr : r = 0 ∨ r = 1) : (∀ p, p < 7 → (yB υ r (-1)).1 p = (sFind τ 60 55 r).2 61 p) ∧ (yB υ r (-1)).2.1 = (sFind τ 60 55 r).1 60 1 ∧ (yB υ r (-1)).2.2 = (sFind τ 60 55 r).1 60 0 := by
  obtain ⟨h1, h3, h4, h5, h6, -⟩ := h
  have b := best_of (σ := τ) (τ := υ) (a := 60) (t := 55) (r := r) (n := n) kd_60 kd_55 h5 h1 hr h6 (by rw [rf_55_1, h4]) h3
  rw [rf_60_3] at b
  exact b
/-- weights put and put back -/
def Wk (i j : Int) (k : Nat) : Prop := k = (1 + 7 * i + j).toNat ∨ k = (1 + 7 * j + i).toNat
theorem Fr_back {σ τ : oSg} {i j : Int} (h2 : nTwo (σ.2 69 0) i j) (hs : nW (gW (σ.2 69)) i j = nW (gW (σ.2 69)) j i) (h1 : ∀ q, q ≤ 55 ∨ q = 70 ∨ q = 72 ∨ (79 ≤ q ∧ q ≤ 87) → τ.2 q = σ.2 q) (h3 : ∀ q j, q ≤ 34 ∨ (q = 35 ∧ j = 0) ∨ (q = 68 ∧ (j = 3 ∨ j = 6)) → τ.1 q j = σ.1 q j) (hk : ∀ k, ¬ Wk i j k → τ.2 69 k = σ.2 69 k) : Fr σ (sPut τ i j (nW (gW (σ.2 69)) i j)) := by
  obtain ⟨⟨i0, i1, i7⟩, ⟨j0, j1, j7⟩, ij⟩ := id h2
  refine ⟨fun q hq => by rw [sPut_r _ _ _ _ (by omega), h1 q hq], fun k _ => ?_, fun q j' hq => h3 q j' hq⟩
  rw [sPut_at]
  by_cases c : k = (1 + 7 * j + i).toNat
  · rw [if_pos c, hs, c]
    exact (nW_eq (g := σ.2 69) j0 j7 i0 i7).symm
  · rw [if_neg c]
    by_cases g : k = (1 + 7 * i + j).toNat
    · rw [if_pos g, g]
      exact (nW_eq (g := σ.2 69) i0 i7 j0 j7).symm
    · rw [if_neg g]
      exact hk k (fun z => z.elim g c)
theorem sPut_nk (σ : oSg) {i j : Int} (w : Int) {k : Nat} (h : ¬ Wk i j k) : (sPut σ i j w).2 69 k = σ.2 69 k := by
  rw [sPut_at, if_neg (fun z => h (Or.inr z)), if_neg (fun z => h (Or.inl z))]
section FIT
variable {σ : oSg}
theorem fits_rel (H : Inv σ) {i j : Int} {n : Nat} (hn : σ.2 69 0 = n) (h2 : nTwo n i j) {σ1 : oSg} (hf1 : Fr σ σ1) (h69 : σ1.2 69 = σ.2 69) : ∀ q : Nat, q ≤ 21 → (sFi σ i j q).1 = (sFm σ1 i j q).1 ∧ Ot (sFi σ i j q).2 (sFm σ1 i j q).2 n ∧ Fr σ (sFi σ i j q).2 ∧ (∀ k, ¬ Wk i j k → (sFm σ1 i j q).2.2 69 k = σ.2 69 k) ∧ (∀ q', q' ≤ 55 ∨ q' = 70 ∨ q' = 72 ∨ (79 ≤ q' ∧ q' ≤ 87) → (sFm σ1 i j q).2.2 q' = σ.2 q') ∧ ∀ q' j', q' ≤ 34 ∨ (q' = 35 ∧ j' = 0) ∨ (q' = 68 ∧ (j' = 3 ∨ j' = 6)) → (sFm σ1 i j q).2.1 q' j' = σ.1 q' j' := by
  have HA := H.1
  obtain ⟨⟨i0, i1, i7⟩, ⟨j0, j1, j7⟩, ij⟩ := id h2
  intro q
  induction q with
  | zero =>
    intro _
    refine ⟨rfl, ⟨?_, ?_, ?_, sOth_N (vw_c HA), ?_⟩, Fr_oth σ, fun k _ => ?_, fun q' hq => hf1.1 q' hq, fun q' j' hq => hf1.2.2 q' j' hq⟩
    · exact (oSF_s σ 55 0 (σ.1 2 0)).trans (by rw [vw_n HA, hn])
    · show σ1.2 69 0 = _
      rw [h69, hn]
    · show nW ((sOth σ).2 56) = nW (gW (σ1.2 69))
      rw [h69, ← vw_W HA]
      funext a b
      exact sOth_w σ a b
    · refine ⟨?_, ?_⟩
      · show mNet σ1
        unfold mNet
        rw [h69]
        exact vw_N HA
      · intro a b
        show nW ((sOth σ).2 56) a b = nW ((sOth σ).2 56) b a
        rw [sOth_w, sOth_w, vw_W HA]
        exact (IA_w HA).2.2.1 a b
    · show σ1.2 69 k = _
      rw [h69]
  | succ q ih =>
    intro hq
    obtain ⟨e1, o1, f1, k1, r1, l1⟩ := ih (by omega)
    have o2 := Ot_put o1 h2 (w := 20 - (q : Int)) (by omega) (by omega)
    have o3 := Ot_fc o2 0 0
    have b := (Ot_best o2 (Or.inl rfl : (0 : Int) = 0 ∨ (0 : Int) = 1)).1
    have f2 : Fr σ (sFind (nSet (sFi σ i j q).2 55 i j (20 - q)) 60 55 0) := Fr_t f1 (Fr_t (Fr_set55 _ _ _ _) (Fr_find _ _ (Or.inr rfl)))
    have a1 : sFi σ i j (q + 1) = (if vAll (sFind (nSet (sFi σ i j q).2 55 i j (20 - q)) 60 55 0) < 0 then ((sFi σ i j q).1.1 + 1, 20 - (q : Int)) else (sFi σ i j q).1, sFind (nSet (sFi σ i j q).2 55 i j (20 - q)) 60 55 0) := rfl
    have a2 : sFm σ1 i j (q + 1) = (if vSn (yB (sPut (sFm σ1 i j q).2 i j (20 - q)) 0 (-1)).1 ((sPut (sFm σ1 i j q).2 i j (20 - q)).2 69) < 0 then ((sFm σ1 i j q).1.1 + 1, 20 - (q : Int)) else (sFm σ1 i j q).1, sCs (sPut (sFm σ1 i j q).2 i j (20 - q)) 0 (-1)) := rfl
    have k2 : ∀ k, ¬ Wk i j k → (sPut (sFm σ1 i j q).2 i j (20 - q)).2 69 k = σ.2 69 k := fun k hk => by rw [sPut_nk _ _ hk, k1 k hk]
    have seen : vAll (sFind (nSet (sFi σ i j q).2 55 i j (20 - q)) 60 55 0) = vSn (yB (sPut (sFm σ1 i j q).2 i j (20 - q)) 0 (-1)).1 ((sPut (sFm σ1 i j q).2 i j (20 - q)).2 69) := by
      obtain ⟨⟨s1, s2⟩, s3, s4, s5⟩ := IA_s HA
      have w71 : ¬ Wk i j 71 := by unfold Wk; omega
      unfold vAll vSn
      rw [f2.2.2 9 0 (by omega), f2.1 10 (by omega), f2.1 11 (by omega), k2 71 w71, s1]
      refine nFst_ext (fun k h0 hk => ?_)
      have hk2 : (k : Int) < σ.2 69 71 := by omega
      obtain ⟨z1, z2⟩ := s2 k hk2
      have z5 := s5 k hk2
      have n1 : nAt (σ.2 10) 5 k = σ.2 69 (72 + k) := by unfold nAt; rw [if_pos (by omega), Int.toNat_natCast, z1]
      have n2 : nAt (σ.2 11) 5 k = σ.2 69 (77 + k) := by unfold nAt; rw [if_pos (by omega), Int.toNat_natCast, z2]
      have w72 : ¬ Wk i j (72 + k) := by unfold Wk; omega
      have w77 : ¬ Wk i j (77 + k) := by unfold Wk; omega
      rw [n1, n2, k2 _ w72, k2 _ w77]
      have e : nM ((sFind (nSet (sFi σ i j q).2 55 i j (20 - q)) 60 55 0).2 61) (σ.2 69 (72 + k)) = (yB (sPut (sFm σ1 i j q).2 i j (20 - q)) 0 (-1)).1 (σ.2 69 (72 + k)).toNat := by
        unfold nM
        rw [if_pos z5]
        exact (b _ (by omega)).symm
      rw [e]
    rw [a1, a2]
    dsimp only
    refine ⟨?_, o3, f2, fun k hk => ?_, fun q' hq' => ?_, fun q' j' hq' => ?_⟩
    · rw [seen, e1]
    · rw [sCs_69, k2 k hk]
    · rw [(Fr_cs _ 0 (-1)).1 q' hq', sPut_r _ _ _ _ (by omega), r1 q' hq']
    · rw [(Fr_cs _ 0 (-1)).2.2 q' j' hq', sPut_1, l1 q' j' hq']
theorem sFi_69 (σ : oSg) (i j : Int) : ∀ q, (sFi σ i j q).2.2 69 = σ.2 69
  | 0 => oCp_ne _ (by decide)
  | q + 1 => by
    show (sFind (nSet (sFi σ i j q).2 55 i j (20 - q)) 60 55 0).2 69 = _
    rw [sFind_r _ _ (by rw [rf_60_3]; decide) (by rw [rf_60_4]; decide), nSet_r _ _ _ _ (by rw [rf_55_1]; decide), sFi_69 σ i j q]
theorem c_fits (H : Inv σ) {d : Nat} (hd : 20 ≤ d) (i j w : Int) : Both d 106 203 [.inl i, .inl j, .inl w] σ := by
  have HA := H.1
  obtain ⟨⟨s1, s2⟩, s3, s4, s5⟩ := IA_s HA
  have x := m_X_fits (d := d) (σ := σ) (i := i) (j := j) (w := w) (vw_c HA) (by omega) (by omega) (by omega)
  unfold xFits at x
  rw [vw_n HA] at x
  by_cases c : ¬ nTwo (σ.2 69 0) i j ∨ ¬ (0 ≤ w ∧ w ≤ 1)
  · have y := m_M_fits (d := d) (σ := σ) (i := i) (j := j) (w := w) (vw_N HA) s3 s4 s5 (by omega)
    unfold yFits at y
    rw [if_pos c] at y
    rw [if_pos (by
      rcases c with c | c
      · exact Or.inl c
      · exact Or.inr (by omega))] at x
    exact Both_i x y rfl H
  · have h2 : nTwo (σ.2 69 0) i j := Decidable.not_not.mp (fun z => c (Or.inl z))
    have hw : 0 ≤ w ∧ w ≤ 1 := Decidable.not_not.mp (fun z => c (Or.inr z))
    obtain ⟨n, hn⟩ : ∃ n : Nat, σ.2 69 0 = n := ⟨(σ.2 69 0).toNat, by have := HA.2.1.1; omega⟩
    have h2n : nTwo n i j := by rw [← hn]; exact h2
    have e69 := sFi_69 σ i j 21
    have fr0 := (fits_rel H hn h2n (σ1 := σ) (Fr_r σ) rfl 21 (by omega)).2.2.1
    obtain ⟨e1, o1, f1, k1, r1, l1⟩ := fits_rel H hn h2n (σ1 := (sFi σ i j 21).2) fr0 e69 21 (by omega)
    have H2 := Inv_fr H f1
    have y := m_M_fits (d := d) (σ := (sFi σ i j 21).2) (i := i) (j := j) (w := w) (vw_N H2.1) (by rw [e69]; exact s3) (by rw [e69]; exact s4) (by rw [e69]; exact s5) (by omega)
    unfold yFits at y
    rw [e69, if_neg c] at y
    rw [if_neg (by
      intro z
      rcases z with z | z
      · exact z h2
      · omega)] at x
    have fb := Fr_back h2 ((IA_w HA).2.2.1 i j) r1 l1 k1
    by_cases w0 : w = 0
    · rw [if_pos w0] at x y
      exact Both_i x y (by rw [e1]) (Inv_fr H fb)
    · rw [if_neg w0] at x y
      exact Both_i x y (by rw [e1]) (Inv_fr H fb)
theorem odds_rel (H : Inv σ) {i j : Int} {n : Nat} (hn : σ.2 69 0 = n) (h2 : nTwo n i j) {σ1 : oSg} (hf1 : Fr σ σ1) (h69 : σ1.2 69 = σ.2 69) : ∀ q : Nat, q ≤ 10 → (sOd σ i j q).1 = (sOm σ1 i j q).1 ∧ Ot (sOd σ i j q).2 (sOm σ1 i j q).2 n ∧ Fr σ (sOd σ i j q).2 ∧ (∀ k, ¬ Wk i j k → (sOm σ1 i j q).2.2 69 k = σ.2 69 k) ∧ (∀ q', q' ≤ 55 ∨ q' = 70 ∨ q' = 72 ∨ (79 ≤ q' ∧ q' ≤ 87) → (sOm σ1 i j q).2.2 q' = σ.2 q') ∧ ∀ q' j', q' ≤ 34 ∨ (q' = 35 ∧ j' = 0) ∨ (q' = 68 ∧ (j' = 3 ∨ j' = 6)) → (sOm σ1 i j q).2.1 q' j' = σ.1 q' j' := by
  have HA := H.1
  obtain ⟨⟨i0, i1, i7⟩, ⟨j0, j1, j7⟩, ij⟩ := id h2
  intro q
  induction q with
  | zero =>
    intro _
    refine ⟨rfl, ⟨?_, ?_, ?_, sOth_N (vw_c HA), ?_⟩, Fr_oth σ, fun k _ => ?_, fun q' hq => hf1.1 q' hq, fun q' j' hq => hf1.2.2 q' j' hq⟩
    · exact (oSF_s σ 55 0 (σ.1 2 0)).trans (by rw [vw_n HA, hn])
    · show σ1.2 69 0 = _
      rw [h69, hn]
    · show nW ((sOth σ).2 56) = nW (gW (σ1.2 69))
      rw [h69, ← vw_W HA]
      funext a b
      exact sOth_w σ a b
    · refine ⟨?_, ?_⟩
      · show mNet σ1
        unfold mNet
        rw [h69]
        exact vw_N HA
      · intro a b
        show nW ((sOth σ).2 56) a b = nW ((sOth σ).2 56) b a
        rw [sOth_w, sOth_w, vw_W HA]
        exact (IA_w HA).2.2.1 a b
    · show σ1.2 69 k = _
      rw [h69]
  | succ q ih =>
    intro hq
    obtain ⟨e1, o1, f1, k1, r1, l1⟩ := ih (by omega)
    have o2 := Ot_put o1 h2 (w := (q : Int)) (by omega) (by omega)
    have o3 := Ot_fc o2 0 0
    have b := (Ot_best o2 (Or.inl rfl : (0 : Int) = 0 ∨ (0 : Int) = 1)).1
    have f2 : Fr σ (sFind (nSet (sOd σ i j q).2 55 i j q) 60 55 0) := Fr_t f1 (Fr_t (Fr_set55 _ _ _ _) (Fr_find _ _ (Or.inr rfl)))
    have a1 : sOd σ i j (q + 1) = (if nM ((sFind (nSet (sOd σ i j q).2 55 i j q) 60 55 0).2 61) i = j then (sOd σ i j q).1 + 1 else (sOd σ i j q).1, sFind (nSet (sOd σ i j q).2 55 i j q) 60 55 0) := rfl
    have a2 : sOm σ1 i j (q + 1) = (if (yB (sPut (sOm σ1 i j q).2 i j q) 0 (-1)).1 i.toNat = j then (sOm σ1 i j q).1 + 1 else (sOm σ1 i j q).1, sCs (sPut (sOm σ1 i j q).2 i j q) 0 (-1)) := rfl
    have k2 : ∀ k, ¬ Wk i j k → (sPut (sOm σ1 i j q).2 i j q).2 69 k = σ.2 69 k := fun k hk => by rw [sPut_nk _ _ hk, k1 k hk]
    have e : nM ((sFind (nSet (sOd σ i j q).2 55 i j q) 60 55 0).2 61) i = (yB (sPut (sOm σ1 i j q).2 i j q) 0 (-1)).1 i.toNat := by
      unfold nM
      rw [if_pos ⟨i0, i7⟩]
      exact (b _ (by omega)).symm
    rw [a1, a2]
    dsimp only
    refine ⟨?_, o3, f2, fun k hk => ?_, fun q' hq' => ?_, fun q' j' hq' => ?_⟩
    · rw [e, e1]
    · rw [sCs_69, k2 k hk]
    · rw [(Fr_cs _ 0 (-1)).1 q' hq', sPut_r _ _ _ _ (by omega), r1 q' hq']
    · rw [(Fr_cs _ 0 (-1)).2.2 q' j' hq', sPut_1, l1 q' j' hq']
theorem sOd_69 (σ : oSg) (i j : Int) : ∀ q, (sOd σ i j q).2.2 69 = σ.2 69
  | 0 => oCp_ne _ (by decide)
  | q + 1 => by
    show (sFind (nSet (sOd σ i j q).2 55 i j q) 60 55 0).2 69 = _
    rw [sFind_r _ _ (by rw [rf_60_3]; decide) (by rw [rf_60_4]; decide), nSet_r _ _ _ _ (by rw [rf_55_1]; decide), sOd_69 σ i j q]
theorem c_odds (H : Inv σ) {d : Nat} (hd : 20 ≤ d) (i j p : Int) : Both d 108 205 [.inl i, .inl j, .inl p] σ := by
  have HA := H.1
  have x := m_X_odds (d := d) (σ := σ) (i := i) (j := j) (p := p) (vw_c HA) (by omega)
  unfold xOdds at x
  rw [vw_n HA] at x
  by_cases h2 : nTwo (σ.2 69 0) i j
  · rw [if_neg (not_not_intro h2)] at x
    obtain ⟨n, hn⟩ : ∃ n : Nat, σ.2 69 0 = n := ⟨(σ.2 69 0).toNat, by have := HA.2.1.1; omega⟩
    have h2n : nTwo n i j := by rw [← hn]; exact h2
    have e69 := sOd_69 σ i j 10
    have fr0 := (odds_rel H hn h2n (σ1 := σ) (Fr_r σ) rfl 10 (by omega)).2.2.1
    obtain ⟨e1, o1, f1, k1, r1, l1⟩ := odds_rel H hn h2n (σ1 := (sOd σ i j 10).2) fr0 e69 10 (by omega)
    have H2 := Inv_fr H f1
    have y := m_M_odds (d := d) (σ := (sOd σ i j 10).2) (i := i) (j := j) (p := p) (vw_N H2.1) (by omega)
    unfold yOdds at y
    rw [e69] at y
    unfold xLow at x
    by_cases c : 0 ≤ p ∧ p ≤ 1
    · rw [if_neg (fun z => z.elim (fun v => v h2) (fun v => v c))] at y
      rw [if_neg (by omega)] at x
      have fb := Fr_back h2 ((IA_w HA).2.2.1 i j) r1 l1 k1
      have le := (sOd_N (vw_c HA) i j 10 (by omega)).2
      have lt := low_ten ⟨(sOd σ i j 10).1, by omega⟩
      refine Both_j x y ?_ (Inv_fr H fb)
      dsimp only at lt ⊢
      unfold yLow
      rw [← e1]
      change xCd ((sOd σ i j 10).1 : Int) 10 10 = _ at lt
      show (if p = 0 then oDiv ((sOd σ i j 10).1 : Int) (xCd ((sOd σ i j 10).1 : Int) 10 10) else oDiv 10 (xCd ((sOd σ i j 10).1 : Int) 10 10)) = _
      rw [lt]
      by_cases p0 : p = 0
      · rw [if_pos p0, if_pos p0]
      · rw [if_neg p0, if_neg p0]
        rfl
    · rw [if_pos (Or.inr c)] at y
      rw [if_pos (by omega)] at x
      exact Both_j x y rfl H2
  · rw [if_pos h2] at x
    have y := m_M_odds (d := d) (σ := σ) (i := i) (j := j) (p := p) (vw_N HA) (by omega)
    unfold yOdds at y
    rw [if_pos (Or.inl h2)] at y
    exact Both_j x y rfl H
end FIT

