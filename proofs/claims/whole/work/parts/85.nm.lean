/-! calls: best, take, told, loss -/
theorem sFind_f (σ : oSg) {a t q j : Nat} (r : Int) (h : ¬ (q = a ∧ (j = 0 ∨ j = 1 ∨ j = 2))) : (sFind σ a t r).1 q j = σ.1 q j := by
  unfold sFind sChoo sCh
  dsimp only
  rw [if_neg (fun z => h ⟨z.1, Or.inl z.2⟩), if_neg (fun z => h ⟨z.1, Or.inr (Or.inl z.2)⟩)]
  exact oSF_o _ _ (fun z => h ⟨z.1, Or.inr (Or.inr z.2)⟩)
theorem Fr_find (σ : oSg) {a t : Nat} (r : Int) (ha : a = 57 ∨ a = 60) : Fr σ (sFind σ a t r) := by
  have h3 : oRf a 3 = 58 ∨ oRf a 3 = 61 := by
    rcases ha with rfl | rfl
    · exact Or.inl rf_57_3
    · exact Or.inr rf_60_3
  have h4 : oRf a 4 = 59 ∨ oRf a 4 = 62 := by
    rcases ha with rfl | rfl
    · exact Or.inl rf_57_4
    · exact Or.inr rf_60_4
  refine ⟨fun q hq => sFind_r σ r (by omega) (by omega), fun k _ => by rw [sFind_r σ r (by omega) (by omega)], fun q j hq => sFind_o σ r j (by omega)⟩
theorem Fr_cs (σ : oSg) (r w : Int) : Fr σ (sCs σ r w) := by
  refine ⟨fun q hq => sCs_r σ r w (by omega) (by omega), fun k _ => by rw [sCs_69], fun q j hq => ?_⟩
  show (if q = 68 ∧ j = 14 then _ else if q = 68 ∧ j = 15 then _ else (oSF (oSF σ 68 17 r) 68 16 w).1 q j) = _
  rw [if_neg (by omega), if_neg (by omega), oSF_o _ _ (by omega), oSF_o _ _ (by omega)]
section BCA
variable {σ : oSg}
theorem rule_of {r : Int} (h : 0 ≤ r ∧ r ≤ 1) : r = 0 ∨ r = 1 := by omega
/-- the house's best on both sides, behind the class's find -/
theorem house_best (H : Inv σ) {r : Int} (hr : r = 0 ∨ r = 1) {τ : oSg} (hf : Fr σ τ) (h69 : τ.2 69 = σ.2 69) : (∀ p, p < 7 → (yB τ r (-1)).1 p = (sFind σ 57 2 r).2 58 p) ∧ (yB τ r (-1)).2.1 = (sFind σ 57 2 r).1 57 1 ∧ (yB τ r (-1)).2.2 = (sFind σ 57 2 r).1 57 0 := by
  have HA := H.1
  obtain ⟨n, hn⟩ : ∃ n : Nat, σ.2 69 0 = n := ⟨(σ.2 69 0).toNat, by have := HA.2.1.1; omega⟩
  have b := best_of (σ := σ) (τ := τ) (a := 57) (t := 2) (r := r) (n := n) kd_57 kd_2 (vw_c HA) (by rw [vw_n HA, hn]) hr (by unfold mNet; rw [h69]; exact vw_N HA) (by rw [h69, rf_2_1, vw_W HA]) (by rw [h69, hn])
  rw [rf_57_3] at b
  exact b
theorem house_GM (H : Inv σ) {r : Int} (hr : r = 0 ∨ r = 1) : GM (σ.2 69 0) (nW (gW (σ.2 69))) (nM ((sFind σ 57 2 r).2 58)) ∧ (sFind σ 57 2 r).1 57 1 = (nCnt (σ.2 69 0).toNat (bMp ((sFind σ 57 2 r).2 58)) : Nat) := by
  have HA := H.1
  obtain ⟨n, hn⟩ : ∃ n : Nat, σ.2 69 0 = n := ⟨(σ.2 69 0).toNat, by have := HA.2.1.1; omega⟩
  have g := best_GM (σ := σ) (a := 57) (t := 2) (r := r) (n := n) kd_57 kd_2 (vw_c HA) (by rw [vw_n HA, hn]) hr (by rw [rf_2_1, vw_W HA, ← hn]; exact (IA_w HA).2)
  rw [rf_57_3, rf_2_1, vw_W HA] at g
  rw [hn, Int.toNat_natCast]
  exact g
theorem find_69 (σ : oSg) (r : Int) : (sFind σ 57 2 r).2 69 = σ.2 69 := sFind_r σ r (by rw [rf_57_3]; decide) (by rw [rf_57_4]; decide)
theorem c_best (H : Inv σ) {d : Nat} (hd : 20 ≤ d) (r p : Int) : Both d 73 179 [.inl r, .inl p] σ := by
  have HA := H.1
  have x := m_X_best (d := d) (σ := σ) (r := r) (p := p) (vw_c HA) (by omega)
  unfold xBest at x
  rw [vw_n HA] at x
  by_cases c : 0 ≤ r ∧ r ≤ 1
  · rw [if_neg (by omega)] at x
    by_cases g : nHas (σ.2 69 0) p
    · obtain ⟨p0, p1, p7⟩ := id g
      rw [if_neg (not_not_intro g)] at x
      have hf := Fr_find (t := 2) σ r (Or.inl rfl : (57 : Nat) = 57 ∨ 57 = 60)
      have H2 := Inv_fr H hf
      have y := m_M_best (d := d) (σ := sFind σ 57 2 r) (r := r) (p := p) (vw_N H2.1) (by omega)
      unfold yBest at y
      rw [find_69, if_neg (not_not_intro c), if_neg (not_not_intro g)] at y
      have b := (house_best H (rule_of c) hf (find_69 σ r)).1 p.toNat (by omega)
      have gm := (house_GM H (rule_of c)).1.1 p
      refine Both_i x y ?_ (Inv_fr H2 (Fr_cs _ _ _))
      have e : nM ((sFind σ 57 2 r).2 58) p = (sFind σ 57 2 r).2 58 p.toNat := by unfold nM; rw [if_pos ⟨p0, p7⟩]
      rw [b, ← e]
      by_cases z : nM ((sFind σ 57 2 r).2 58) p = -1
      · rw [if_pos (show nM ((sFind σ 57 2 r).2 58) p < 0 by omega), if_pos z]
      · rw [if_neg (show ¬ nM ((sFind σ 57 2 r).2 58) p < 0 by omega), if_neg z]
    · rw [if_pos g] at x
      have y := m_M_best (d := d) (σ := σ) (r := r) (p := p) (vw_N HA) (by omega)
      unfold yBest at y
      rw [if_neg (not_not_intro c), if_pos g] at y
      exact Both_i x y rfl H
  · rw [if_pos (by omega)] at x
    have y := m_M_best (d := d) (σ := σ) (r := r) (p := p) (vw_N HA) (by omega)
    unfold yBest at y
    rw [if_pos c] at y
    exact Both_i x y rfl H
theorem c_take (H : Inv σ) {d : Nat} (hd : 20 ≤ d) (r : Int) : Both d 31 158 [.inl r] σ := by
  have HA := H.1
  have x := m_X_take (d := d) (σ := σ) (r := r) (vw_c HA) (by omega)
  unfold xTake at x
  by_cases c : 0 ≤ r ∧ r ≤ 1
  · rw [if_neg (by omega)] at x
    have hf := Fr_find (t := 2) σ r (Or.inl rfl : (57 : Nat) = 57 ∨ 57 = 60)
    have q69 : (sTake (sFind σ 57 2 r) 57 7).2 69 = σ.2 69 := by
      unfold sTake
      rw [oSW_ne _ (by decide), find_69]
    have y := m_M_take (d := d) (σ := sTake (sFind σ 57 2 r) 57 7) (r := r) (by unfold mNet; rw [q69]; exact vw_N HA) (by omega)
    unfold yTake at y
    rw [if_neg (not_not_intro c), q69] at y
    obtain ⟨gm, gc⟩ := house_GM H (rule_of c)
    obtain ⟨n, hn⟩ : ∃ n : Nat, σ.2 69 0 = n := ⟨(σ.2 69 0).toNat, by have := HA.2.1.1; omega⟩
    have b := (best_of (σ := σ) (τ := sTake (sFind σ 57 2 r) 57 7) (a := 57) (t := 2) (r := r) (n := n) kd_57 kd_2 (vw_c HA) (by rw [vw_n HA, hn]) (rule_of c) (by unfold mNet; rw [q69]; exact vw_N HA) (by rw [q69, rf_2_1, vw_W HA]) (by rw [q69, hn])).1
    rw [rf_57_3] at b
    have at' := yTk_at (sTake (sFind σ 57 2 r) 57 7) r
    rw [q69] at at'
    generalize hυ : yTk (sTake (sFind σ 57 2 r) 57 7) r = υ at *
    have e : ∀ k, ¬ (50 ≤ k ∧ k < 57) → υ.2 69 k = σ.2 69 k := fun k hk => by rw [at', if_neg hk]
    have eM : nM (gM (υ.2 69)) = nM ((sFind σ 57 2 r).2 58) := nMf_ext (fun k hk => by
      show υ.2 69 (50 + k) = _
      rw [at', if_pos (by omega), show 50 + k - 50 = k from by omega]
      exact b k hk)
    have s4 : υ.2 4 = (sTake (sFind σ 57 2 r) 57 7).2 4 := by
      rw [← hυ]
      unfold yTk
      rw [oCp_ne _ (by decide), sCs_r _ _ _ (by decide) (by decide)]
    have s5 : nM (υ.2 4) = nM ((sFind σ 57 2 r).2 58) := nMf_ext (fun k hk => by
      rw [s4]
      unfold sTake
      rw [oSW_at, if_pos hk, rf_57_3, nM_at hk])
    have rr : ∀ q, ¬ q = 4 → ¬ q = 69 → q ≤ 55 ∨ q = 70 ∨ q = 72 ∨ (79 ≤ q ∧ q ≤ 87) → υ.2 q = σ.2 q := fun q h1 h2 h3 => by
      rw [← hυ]
      unfold yTk
      rw [oCp_ne _ h2, sCs_r _ _ _ (by omega) (by omega)]
      unfold sTake
      rw [oSW_ne _ h1]
      exact hf.1 q h3
    have ff : ∀ q j, q ≤ 34 ∨ (q = 35 ∧ j = 0) ∨ (q = 68 ∧ (j = 3 ∨ j = 6)) → υ.1 q j = σ.1 q j := fun q j h => by
      rw [← hυ]
      show (sCs (sTake (sFind σ 57 2 r) 57 7) r (-1)).1 q j = _
      rw [(Fr_cs _ r (-1)).2.2 q j h]
      exact hf.2.2 q j h
    refine Both_i x y ?_ (Inv_h H ⟨fun q hq => rr q (by omega) (by omega) (by omega), fun q j hq => ff q j (by omega)⟩ ?_)
    · show (sFind σ 57 2 r).1 57 1 = _
      rw [gc]
      congr 1
      refine nCnt_ext (fun k _ => ?_)
      unfold bMp
      rw [eM]
    · refine IA_of (PN_fr (ff 2 0 (by omega)) (e 0 (by omega)) (IA_n HA)) (PW_fr (rr 3 (by decide) (by decide) (by omega)) (e 0 (by omega)) (fun k h1 h2 => e k (by omega)) (IA_w HA)) (PM_of (by rw [s5, eM]) ?_) (PH_fr (rr 5 (by decide) (by decide) (by omega)) (fun k h1 h2 => e k (by omega)) (IA_h HA)) (PO_fr (ff 6 0 (by omega)) (rr 7 (by decide) (by decide) (by omega)) (rr 8 (by decide) (by decide) (by omega)) (fun k h1 h2 => e k (by omega)) (IA_o HA)) (PS_fr (ff 9 0 (by omega)) (rr 10 (by decide) (by decide) (by omega)) (rr 11 (by decide) (by decide) (by omega)) (fun k h1 h2 => e k (by omega)) (IA_s HA)) (PE_fr (ff 12 0 (by omega)) (rr 13 (by decide) (by decide) (by omega)) (rr 14 (by decide) (by decide) (by omega)) (fun k h1 h2 => e k (by omega)) (IA_e HA)) (PB_fr (ff 15 0 (by omega)) (rr 16 (by decide) (by decide) (by omega)) (rr 17 (by decide) (by decide) (by omega)) (fun k h1 h2 => e k (by omega)) (IA_b HA))
      rw [eM, e 0 (by omega), gW_fr (fun k h1 h2 => e k (by omega))]
      exact gm
  · rw [if_pos (by omega)] at x
    have y := m_M_take (d := d) (σ := σ) (r := r) (vw_N HA) (by omega)
    unfold yTake at y
    rw [if_pos c] at y
    exact Both_i x y rfl H
theorem c_told (H : Inv σ) {d : Nat} (hd : 20 ≤ d) (w : Int) : Both d 74 183 [.inl w] σ := by
  have HA := H.1
  have x := m_X_told (d := d) (σ := σ) (w := w) (vw_c HA) (vw_hc HA) (by omega)
  have y0 := m_M_told (d := d) (σ := σ) (w := w) (vw_N HA) (vw_H HA) (vw_m HA) (by omega)
  obtain ⟨n, hn⟩ : ∃ n : Nat, σ.2 69 0 = n := ⟨(σ.2 69 0).toNat, by have := HA.2.1.1; omega⟩
  have bst : ∀ r : Int, r = 0 ∨ r = 1 → Inv (sCs (sFind σ 57 2 r) r (-1)) ∧ (yB (sFind σ 57 2 r) r (-1)).2.1 = (sFind σ 57 2 r).1 57 1 ∧ (yB (sFind σ 57 2 r) r (-1)).2.2 = (sFind σ 57 2 r).1 57 0 := fun r hr => by
    have hf := Fr_find (t := 2) σ r (Or.inl rfl : (57 : Nat) = 57 ∨ 57 = 60)
    exact ⟨Inv_fr (Inv_fr H hf) (Fr_cs _ _ _), (house_best H hr hf (find_69 σ r)).2⟩
  have yb : ∀ r : Int, oMi d 183 [.inr (.inr (.inl 68)), .inl w] (sFind σ 57 2 r) (some (.inl (yTold (sFind σ 57 2 r) w).1)) (yTold (sFind σ 57 2 r) w).2 := fun r => by
    have H2 := Inv_fr H (Fr_find (t := 2) σ r (Or.inl rfl : (57 : Nat) = 57 ∨ 57 = 60))
    exact m_M_told (d := d) (σ := sFind σ 57 2 r) (w := w) (vw_N H2.1) (vw_H H2.1) (vw_m H2.1) (by omega)
  by_cases c : 0 ≤ w ∧ w ≤ 10
  · have cs : w = 0 ∨ w = 1 ∨ w = 2 ∨ w = 3 ∨ w = 4 ∨ w = 5 ∨ w = 6 ∨ w = 7 ∨ w = 8 ∨ w = 9 ∨ w = 10 := by omega
    rcases cs with rfl | rfl | rfl | rfl | rfl | rfl | rfl | rfl | rfl | rfl | rfl
    · exact Both_i (a := σ.1 2 0) (b := σ.2 69 0) x y0 (vw_n HA) H
    · exact Both_i (a := oDiv (nSum (σ.1 2 0).toNat (fun p => nBc (nLk (σ.2 3) (σ.1 2 0).toNat p))) 2) (b := (mtT (σ.2 69) 0 (σ.2 69 0).toNat (σ.2 69 0).toNat : Nat)) x y0 (linked_eq HA) H
    · exact Both_i (a := (nCnt (σ.1 2 0).toNat (bPair σ ((2 ^ (σ.1 2 0).toNat - 1 : Nat) : Int)) : Nat)) (b := (nCnt (σ.2 69 0).toNat (bMp (gM (σ.2 69))) : Nat)) x y0 (by rw [pairs_eq HA]) H
    · refine Both_i (a := nSum (σ.1 2 0).toNat (fW σ)) (b := nSum (σ.2 69 0).toNat (mfW (σ.2 69))) x y0 ?_ H
      rw [vw_n HA]
      refine nSum_ext (fun k _ => ?_)
      unfold fW mfW
      rw [vw_M HA, vw_W HA]
    · exact Both_i (a := σ.1 2 0 - 2 * (nCnt (σ.1 2 0).toNat (bPair σ ((2 ^ (σ.1 2 0).toNat - 1 : Nat) : Int)) : Nat)) (b := σ.2 69 0 - 2 * (nCnt (σ.2 69 0).toNat (bMp (gM (σ.2 69))) : Nat)) x y0 (by rw [pairs_eq HA, vw_n HA]) H
    · exact Both_i (τ := sFind σ 57 2 0) (υ := sCs (sFind σ 57 2 0) 0 (-1)) (a := (sFind σ 57 2 0).1 57 0) (b := (yB (sFind σ 57 2 0) 0 (-1)).2.2) x (yb 0) (bst 0 (Or.inl rfl)).2.2.symm (bst 0 (Or.inl rfl)).1
    · exact Both_i (τ := sFind σ 57 2 0) (υ := sCs (sFind σ 57 2 0) 0 (-1)) (a := (sFind σ 57 2 0).1 57 1) (b := (yB (sFind σ 57 2 0) 0 (-1)).2.1) x (yb 0) (bst 0 (Or.inl rfl)).2.1.symm (bst 0 (Or.inl rfl)).1
    · exact Both_i (τ := sFind σ 57 2 1) (υ := sCs (sFind σ 57 2 1) 1 (-1)) (a := (sFind σ 57 2 1).1 57 0) (b := (yB (sFind σ 57 2 1) 1 (-1)).2.2) x (yb 1) (bst 1 (Or.inr rfl)).2.2.symm (bst 1 (Or.inr rfl)).1
    · exact Both_i (τ := sFind σ 57 2 1) (υ := sCs (sFind σ 57 2 1) 1 (-1)) (a := (sFind σ 57 2 1).1 57 1) (b := (yB (sFind σ 57 2 1) 1 (-1)).2.1) x (yb 1) (bst 1 (Or.inr rfl)).2.1.symm (bst 1 (Or.inr rfl)).1
    · refine Both_i (a := (tT σ (σ.1 2 0).toNat (σ.1 2 0).toNat : Nat)) (b := (mtT (σ.2 69) 1 (σ.2 69 0).toNat (σ.2 69 0).toNat : Nat)) x y0 ?_ H
      rw [vw_n HA, hn, Int.toNat_natCast, tight_eq HA hn n (Nat.le_refl _)]
    · exact Both_i (a := nSum (σ.1 2 0).toNat (fun p => nH σ p) + nSum (σ.1 6 0).toNat (fS σ)) (b := mSum (σ.2 69)) x y0 (sum_eq HA) H
  · unfold xTold at x
    unfold yTold at y0
    rw [if_neg (by omega), if_neg (by omega), if_neg (by omega), if_neg (by omega), if_neg (by omega), if_neg (by omega), if_neg (by omega), if_neg (by omega), if_neg (by omega), if_neg (by omega), if_neg (by omega)] at x
    rw [if_pos c] at y0
    exact Both_i x y0 rfl H
theorem c_loss (H : Inv σ) {d : Nat} (hd : 20 ≤ d) (p : Int) : Both d 90 195 [.inl p] σ := by
  have HA := H.1
  have x := m_X_loss (d := d) (σ := σ) (p := p) (vw_c HA) (by omega)
  unfold xLoss at x
  obtain ⟨n, hn⟩ : ∃ n : Nat, σ.2 69 0 = n := ⟨(σ.2 69 0).toNat, by have := HA.2.1.1; omega⟩
  have n7 : n ≤ 7 := by have := HA.2.1.2; omega
  rw [vw_n HA, hn, Int.toNat_natCast] at x
  by_cases g : nHas (n : Int) p
  · obtain ⟨p0, p1, p7⟩ := id g
    obtain ⟨q, rfl⟩ : ∃ q : Nat, p = q := ⟨p.toNat, by omega⟩
    rw [if_neg (not_not_intro g), Int.toNat_natCast] at x
    have hf := Fr_find (t := 2) σ 0 (Or.inl rfl : (57 : Nat) = 57 ∨ 57 = 60)
    have H2 := Inv_fr H hf
    have y := m_M_loss (d := d) (σ := sFind σ 57 2 0) (p := (q : Int)) (vw_N H2.1) (by omega)
    unfold yLoss at y
    rw [find_69, hn, if_neg (not_not_intro g)] at y
    obtain ⟨HV0, f1, f2, f3⟩ := find_of (σ := σ) (a := 57) (t := 2) (r := 0) (n := n) kd_57 kd_2 (vw_c HA) (by rw [vw_n HA, hn]) (Or.inl rfl)
    rw [rf_2_1, vw_W HA] at HV0 f3
    have b := (house_best H (Or.inl rfl) hf (find_69 σ 0)).2.2
    have sc := gE_sc (W := nW (gW (σ.2 69))) (U := fU σ 57 2 0) (o := rO 0) (n := n) n7 HV0 (IA_w HA).2.1 n 0 (2 ^ n - 1) (fM σ 57) 0 0 (by omega) (by omega) (LI_all n) (by decide) (by have := nSz_le (2 ^ n - 1); omega) (by decide) (by decide)
    have s1 := sc.1
    rw [show rO 0 = 0 from rfl] at s1
    have wo := without_of (τ := sCs (sFind σ 57 2 0) 0 (-1)) (W := nW (gW (σ.2 69))) (U := fU σ 57 2 0) (n := n) (p := q) (mNet_cs (vw_N H2.1) 0 (-1)) (by rw [sCs_69, find_69]) (by rw [sCs_69, find_69, hn]) (by omega) HV0
    have eU : fU σ 57 2 0 = nVal ((sFind σ 57 2 0).2 59) := by unfold fU; rw [rf_57_4]
    refine Both_i x y ?_ (Inv_fr (Inv_fr H2 (Fr_cs _ _ _)) (Fr_cs _ _ _))
    rw [b, f3, wo, ← eU, show rO 0 = 0 from rfl]
    omega
  · rw [if_pos g] at x
    have y := m_M_loss (d := d) (σ := σ) (p := p) (vw_N HA) (by omega)
    unfold yLoss at y
    rw [hn, if_pos g] at y
    exact Both_i x y rfl H
end BCA

