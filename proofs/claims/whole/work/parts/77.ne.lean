/-! calls: weigh, pair, bear -/
theorem nSet_W {σ : oSg} {i j : Int} (w : Int) (h : nTwo (σ.1 2 0) i j) (a b : Int) : nW ((nSet σ 2 i j w).2 3) a b = if (a = i ∧ b = j) ∨ (a = j ∧ b = i) then w else nW (σ.2 3) a b := by
  obtain ⟨⟨i0, i1, i7⟩, ⟨j0, j1, j7⟩, ij⟩ := id h
  have e : ∀ k, (nSet σ 2 i j w).2 3 k = if k = (j * 7 + i).toNat then w else if k = (i * 7 + j).toNat then w else σ.2 3 k := by
    intro k
    unfold nSet
    rw [if_pos h, rf_2_1]
    by_cases c : k = (j * 7 + i).toNat
    · rw [if_pos c, c, oSA_s]
    · rw [if_neg c, oSA_i _ _ c]
      by_cases g : k = (i * 7 + j).toNat
      · rw [if_pos g, g, oSA_s]
      · rw [if_neg g, oSA_i _ _ g]
  unfold nW
  by_cases c : 0 ≤ a ∧ a < 7 ∧ 0 ≤ b ∧ b < 7
  · rw [if_pos c, if_pos c, e]
    by_cases g : (a = i ∧ b = j) ∨ (a = j ∧ b = i)
    · rw [if_pos g]
      by_cases g1 : (a * 7 + b).toNat = (j * 7 + i).toNat
      · rw [if_pos g1]
      · rw [if_neg g1, if_pos (by omega)]
    · rw [if_neg g, if_neg (by omega), if_neg (by omega)]
  · rw [if_neg c, if_neg c, if_neg (by omega)]
theorem PW_of {σ : oSg} (e : nW (σ.2 3) = nW (gW (σ.2 69))) (h : GW (σ.2 69 0) (nW (gW (σ.2 69)))) : PW σ := by
  refine ⟨fun k hk => ?_, h⟩
  have := congrFun (congrFun e ((k / 7 : Nat) : Int)) ((k % 7 : Nat) : Int)
  unfold nW at this
  rw [if_pos (by omega), if_pos (by omega), show (((k / 7 : Nat) : Int) * 7 + ((k % 7 : Nat) : Int)).toNat = k from by omega] at this
  exact this
theorem GW_put {n : Int} {W W' : Int → Int → Int} {i j w : Int} (h : GW n W) (h2 : nTwo n i j) (w0 : 0 ≤ w) (w20 : w ≤ 20) (h' : ∀ a b, W' a b = if (a = i ∧ b = j) ∨ (a = j ∧ b = i) then w else W a b) : GW n W' := by
  obtain ⟨h1, hs, hd, ho⟩ := h
  obtain ⟨⟨i0, i1, i7⟩, ⟨j0, j1, j7⟩, ij⟩ := id h2
  refine ⟨fun a b => ?_, fun a b => ?_, fun a => ?_, fun a b hab => ?_⟩
  · rw [h']
    split
    · omega
    · exact h1 a b
  · rw [h', h']
    by_cases c : (a = i ∧ b = j) ∨ (a = j ∧ b = i)
    · rw [if_pos c, if_pos (by omega)]
    · rw [if_neg c, if_neg (by omega)]
      exact hs a b
  · rw [h', if_neg (by omega)]
    exact hd a
  · rw [h', if_neg (by omega)]
    exact ho a b hab
/-- the weights set on both sides, where the pair stays one -/
theorem IA_put {σ : oSg} (HA : IA σ) {i j w : Int} (h2 : nTwo (σ.2 69 0) i j) (w0 : 0 ≤ w) (w20 : w ≤ 20) (hp : w = 0 → ¬ nM (gM (σ.2 69)) i = j) : IA (sPut (nSet σ 2 i j w) i j w) := by
  obtain ⟨⟨i0, i1, i7⟩, ⟨j0, j1, j7⟩, ij⟩ := id h2
  have hn := vw_n HA
  have h2' : nTwo (σ.1 2 0) i j := by rw [hn]; exact h2
  have q0 : (nSet σ 2 i j w).2 69 = σ.2 69 := nSet_r _ _ _ _ (by rw [rf_2_1]; decide)
  have e : ∀ k, 50 ≤ k ∨ k = 0 → (sPut (nSet σ 2 i j w) i j w).2 69 k = σ.2 69 k := fun k hk => by rw [sPut_ge _ _ i0 i7 j0 j7 hk, q0]
  have r : ∀ q, ¬ q = 69 → ¬ q = 3 → (sPut (nSet σ 2 i j w) i j w).2 q = σ.2 q := fun q h1 h2 => by rw [sPut_r _ _ _ _ h1, nSet_r _ _ _ _ (by rw [rf_2_1]; exact h2)]
  have f : ∀ q j', (sPut (nSet σ 2 i j w) i j w).1 q j' = σ.1 q j' := fun q j' => by rw [sPut_1, nSet_1]
  have eW := sPut_W (nSet σ 2 i j w) w i0 i7 j0 j7
  rw [q0] at eW
  have eC : nW ((sPut (nSet σ 2 i j w) i j w).2 3) = nW (gW ((sPut (nSet σ 2 i j w) i j w).2 69)) := by
    funext a b
    rw [eW, sPut_r _ _ _ _ (by decide), nSet_W w h2', vw_W HA]
  have gw := GW_put (IA_w HA).2 h2 w0 w20 eW
  have eM : nM (gM ((sPut (nSet σ 2 i j w) i j w).2 69)) = nM (gM (σ.2 69)) := gM_fr (fun k h1 h2 => e k (by omega))
  refine IA_of (PN_fr (f 2 0) (e 0 (by omega)) (IA_n HA)) (PW_of eC (by rw [e 0 (by omega)]; exact gw)) (PM_of ?_ ?_) (PH_fr (r 5 (by decide) (by decide)) (fun k h1 h2 => e k (by omega)) (IA_h HA)) (PO_fr (f 6 0) (r 7 (by decide) (by decide)) (r 8 (by decide) (by decide)) (fun k h1 h2 => e k (by omega)) (IA_o HA)) (PS_fr (f 9 0) (r 10 (by decide) (by decide)) (r 11 (by decide) (by decide)) (fun k h1 h2 => e k (by omega)) (IA_s HA)) (PE_fr (f 12 0) (r 13 (by decide) (by decide)) (r 14 (by decide) (by decide)) (fun k h1 h2 => e k (by omega)) (IA_e HA)) (PB_fr (f 15 0) (r 16 (by decide) (by decide)) (r 17 (by decide) (by decide)) (fun k h1 h2 => e k (by omega)) (IA_b HA))
  · rw [eM, r 4 (by decide) (by decide)]
    exact vw_M HA
  · rw [eM, e 0 (by omega)]
    obtain ⟨g1, g2⟩ := (IA_m HA).2
    refine ⟨g1, fun p hp2 => ?_⟩
    obtain ⟨a, b, v⟩ := g2 p hp2
    refine ⟨a, b, ?_⟩
    rw [eW]
    by_cases c : (p = i ∧ nM (gM (σ.2 69)) p = j) ∨ (p = j ∧ nM (gM (σ.2 69)) p = i)
    · rw [if_pos c]
      by_cases z : w = 0
      · exfalso
        rcases c with ⟨c1, c2⟩ | ⟨c1, c2⟩
        · exact hp z (by rw [← c1]; exact c2)
        · rw [c2, c1] at b
          exact hp z b
      · omega
    · rw [if_neg c]
      exact v
theorem Fh_set (σ : oSg) (i j w : Int) : Fh σ (nSet σ 2 i j w) := by
  unfold nSet
  split
  · rw [rf_2_1]
    exact Fh_t (Fh_SA _ _ (by decide)) (Fh_SA _ _ (by decide))
  · exact Fh_r σ
theorem Fh_put (σ : oSg) (i j w : Int) : Fh σ (sPut σ i j w) := Fh_t (Fh_SA _ _ (by decide)) (Fh_SA _ _ (by decide))
theorem GM_W {n : Int} {W W' : Int → Int → Int} {M : Int → Int} (h : GM n W M) (h' : ∀ p, 0 ≤ M p → 0 < W' p (M p)) : GM n W' M := ⟨h.1, fun p hp => ⟨(h.2 p hp).1, (h.2 p hp).2.1, h' p hp⟩⟩
/-- the weight of a pair set to 0 on both sides -/
theorem IA_cut {σ : oSg} (HA : IA σ) {i j : Int} (h2 : nTwo (σ.2 69 0) i j) (hp : nM (gM (σ.2 69)) i = j) : IA (sFr (sPut (sPart (nSet σ 2 i j 0) i) i j 0) i) := by
  obtain ⟨⟨i0, i1, i7⟩, ⟨j0, j1, j7⟩, ij⟩ := id h2
  have hn := vw_n HA
  have hM := vw_M HA
  have hm := vw_m HA
  have h2' : nTwo (σ.1 2 0) i j := by rw [hn]; exact h2
  have q0 : (nSet σ 2 i j 0).2 69 = σ.2 69 := nSet_r _ _ _ _ (by rw [rf_2_1]; decide)
  have q1 : (sPart (nSet σ 2 i j 0) i).2 69 = σ.2 69 := by rw [sPart_r _ _ (by decide), q0]
  have q4 : (nSet σ 2 i j 0).2 4 = σ.2 4 := nSet_r _ _ _ _ (by rw [rf_2_1]; decide)
  have e1 : ∀ k, 50 ≤ k ∨ k = 0 → (sPut (sPart (nSet σ 2 i j 0) i) i j 0).2 69 k = σ.2 69 k := fun k hk => by rw [sPut_ge _ _ i0 i7 j0 j7 hk, q1]
  have m1 : nM (gM ((sPut (sPart (nSet σ 2 i j 0) i) i j 0).2 69)) = nM (gM (σ.2 69)) := gM_fr (fun k h1 h2 => e1 k (by omega))
  have hm' : ∀ p, -1 ≤ nM (gM ((sPut (sPart (nSet σ 2 i j 0) i) i j 0).2 69)) p ∧ nM (gM ((sPut (sPart (nSet σ 2 i j 0) i) i j 0).2 69)) p < 7 := by rw [m1]; exact hm
  have e : ∀ k, 57 ≤ k ∨ k = 0 → (sFr (sPut (sPart (nSet σ 2 i j 0) i) i j 0) i).2 69 k = σ.2 69 k := fun k hk => by rw [sFr_k _ i0 i7 (hm' i) (by omega), e1 k (by omega)]
  have eW0 : nW (gW ((sFr (sPut (sPart (nSet σ 2 i j 0) i) i j 0) i).2 69)) = nW (gW ((sPut (sPart (nSet σ 2 i j 0) i) i j 0).2 69)) := nWf_ext (fun k hk => sFr_k _ i0 i7 (hm' i) (by omega))
  have eW := sPut_W (sPart (nSet σ 2 i j 0) i) 0 i0 i7 j0 j7
  rw [q1] at eW
  have r : ∀ q, ¬ q = 69 → ¬ q = 3 → ¬ q = 4 → (sFr (sPut (sPart (nSet σ 2 i j 0) i) i j 0) i).2 q = σ.2 q := fun q h1 h2 h3 => by rw [sFr_r _ _ h1, sPut_r _ _ _ _ h1, sPart_r _ _ h3, nSet_r _ _ _ _ (by rw [rf_2_1]; exact h2)]
  have f : ∀ q j', (sFr (sPut (sPart (nSet σ 2 i j 0) i) i j 0) i).1 q j' = σ.1 q j' := fun q j' => by rw [sFr_1, sPut_1, sPart_f, nSet_1]
  have eC : nW ((sFr (sPut (sPart (nSet σ 2 i j 0) i) i j 0) i).2 3) = nW (gW ((sFr (sPut (sPart (nSet σ 2 i j 0) i) i j 0) i).2 69)) := by
    rw [eW0]
    funext a b
    rw [eW, sFr_r _ _ (by decide), sPut_r _ _ _ _ (by decide), sPart_r _ _ (by decide), nSet_W 0 h2', vw_W HA]
  have gw := GW_put (IA_w HA).2 h2 (by decide) (by decide) eW
  have hmM := sFr_M (sPut (sPart (nSet σ 2 i j 0) i) i j 0) i0 i7 hm'
  rw [m1] at hmM
  have gj := (IA_m HA).2.2 i (by omega)
  have hcM : ∀ p, nM ((sPart (nSet σ 2 i j 0) i).2 4) p = if p = i ∨ p = j then -1 else nM (gM (σ.2 69)) p := by
    intro p
    unfold sPart
    rw [nSet_1, hn, q4, hM, hp, if_pos ⟨h2.1, h2.2.1⟩, nM_SA, nM_SA, q4, hM]
    by_cases z : p = i
    · rw [if_pos (Or.inl z)]
      by_cases y : (0 ≤ p ∧ p < 7) ∧ j.toNat = p.toNat
      · rw [if_pos y]
      · rw [if_neg y, if_pos (by omega)]
    · by_cases y : p = j
      · rw [if_pos (by omega), if_pos (by omega)]
      · rw [if_neg (by omega), if_neg (by omega), if_neg (by omega)]
  have hmM2 : ∀ p, nM (gM ((sFr (sPut (sPart (nSet σ 2 i j 0) i) i j 0) i).2 69)) p = if p = i ∨ p = j then -1 else nM (gM (σ.2 69)) p := by
    intro p
    rw [hmM, hp]
    by_cases z : p = i ∨ p = j
    · rw [if_pos z, if_pos (by omega)]
    · rw [if_neg z, if_neg (by omega)]
  refine IA_of (PN_fr (f 2 0) (e 0 (by omega)) (IA_n HA)) (PW_of eC (by rw [e 0 (by omega), eW0]; exact gw)) (PM_of ?_ ?_) (PH_fr (r 5 (by decide) (by decide) (by decide)) (fun k h1 h2 => e k (by omega)) (IA_h HA)) (PO_fr (f 6 0) (r 7 (by decide) (by decide) (by decide)) (r 8 (by decide) (by decide) (by decide)) (fun k h1 h2 => e k (by omega)) (IA_o HA)) (PS_fr (f 9 0) (r 10 (by decide) (by decide) (by decide)) (r 11 (by decide) (by decide) (by decide)) (fun k h1 h2 => e k (by omega)) (IA_s HA)) (PE_fr (f 12 0) (r 13 (by decide) (by decide) (by decide)) (r 14 (by decide) (by decide) (by decide)) (fun k h1 h2 => e k (by omega)) (IA_e HA)) (PB_fr (f 15 0) (r 16 (by decide) (by decide) (by decide)) (r 17 (by decide) (by decide) (by decide)) (fun k h1 h2 => e k (by omega)) (IA_b HA))
  · funext p
    rw [hmM2, sFr_r _ _ (by decide), sPut_r _ _ _ _ (by decide), hcM]
  · rw [e 0 (by omega), eW0]
    have g0 := GM_part (M' := nM (gM ((sFr (sPut (sPart (nSet σ 2 i j 0) i) i j 0) i).2 69))) (IA_m HA).2 (i := i) (by omega) (fun p => by rw [hmM2, hp])
    refine GM_W g0 (fun p hp2 => ?_)
    have g3 := (g0.2 p hp2).2.2
    rw [eW, if_neg ?_]
    · exact g3
    · rw [hmM2] at hp2 ⊢
      intro z
      by_cases c : p = i ∨ p = j
      · rw [if_pos c] at hp2
        omega
      · exact c (z.elim (fun w => Or.inl w.1) (fun w => Or.inr w.1))
theorem c_weigh {σ : oSg} (H : Inv σ) {d : Nat} (hd : 20 ≤ d) (i j w : Int) : Both d 13 143 [.inl i, .inl j, .inl w] σ := by
  have HA := H.1
  have hn := vw_n HA
  have b0 := HA.2.1.1
  have b7 := HA.2.1.2
  have hm := vw_m HA
  have x := m_X_weigh (d := d) (σ := σ) (i := i) (j := j) (w := w) (by omega)
  unfold xWeigh at x
  have y0 := m_M_weigh (d := d) (σ := σ) (i := i) (j := j) (w := w) b0 b7 hm (by omega)
  unfold yWeigh at y0
  rw [hn, vw_W HA] at x
  by_cases c : nTwo (σ.2 69 0) i j
  · rw [if_neg (not_not_intro c)] at x y0
    by_cases g : 0 ≤ w ∧ w ≤ 20
    · have q4 : (nSet σ 2 i j w).2 4 = σ.2 4 := nSet_r _ _ _ _ (by rw [rf_2_1]; decide)
      have q0 : (nSet σ 2 i j w).2 69 = σ.2 69 := nSet_r _ _ _ _ (by rw [rf_2_1]; decide)
      rw [if_neg (by omega), q4, vw_M HA] at x
      by_cases z : w = 0 ∧ nM (gM (σ.2 69)) i = j
      · rw [if_pos z] at x
        obtain ⟨rfl, z2⟩ := z
        have q1 : (sPart (nSet σ 2 i j 0) i).2 69 = σ.2 69 := by rw [sPart_r _ _ (by decide), q0]
        have y := m_M_weigh (d := d) (σ := sPart (nSet σ 2 i j 0) i) (i := i) (j := j) (w := 0) (by rw [q1]; exact b0) (by rw [q1]; exact b7) (by rw [q1]; exact hm) (by omega)
        unfold yWeigh at y
        rw [q1, if_neg (not_not_intro c), if_neg (not_not_intro g), if_pos ⟨rfl, z2⟩] at y
        exact Both_i x y rfl (Inv_h H (Fh_t (Fh_t (Fh_set σ i j 0) (Fh_part _ i)) (Fh_t (Fh_put _ i j 0) (Fh_frees _ i))) (IA_cut HA c z2))
      · rw [if_neg z] at x
        have y := m_M_weigh (d := d) (σ := nSet σ 2 i j w) (i := i) (j := j) (w := w) (by rw [q0]; exact b0) (by rw [q0]; exact b7) (by rw [q0]; exact hm) (by omega)
        unfold yWeigh at y
        rw [q0, if_neg (not_not_intro c), if_neg (not_not_intro g), if_neg z] at y
        exact Both_i x y rfl (Inv_h H (Fh_t (Fh_set σ i j w) (Fh_put _ i j w)) (IA_put HA c g.1 g.2 (fun h1 h2 => z ⟨h1, h2⟩)))
    · rw [if_pos g] at y0
      rw [if_pos (by omega)] at x
      exact Both_i x y0 rfl H
  · rw [if_pos c] at x y0
    exact Both_i x y0 rfl H
theorem nCnt_ext {f g : Nat → Bool} : ∀ {n : Nat}, (∀ k, k < n → f k = g k) → nCnt n f = nCnt n g
  | 0, _ => rfl
  | n + 1, h => by
    show nCnt n f + (if f n = true then 1 else 0) = nCnt n g + (if g n = true then 1 else 0)
    rw [nCnt_ext (fun k hk => h k (by omega)), h n (by omega)]
theorem all_bit {n p : Nat} (h : p < n) (h7 : n ≤ 7) : nIs (p : Int) ((2 ^ n - 1 : Nat) : Int) := by
  have p2 : 2 ^ n ≤ 2 ^ 7 := Nat.pow_le_pow_right (by decide) h7
  have p1 : 1 ≤ 2 ^ n := Nat.one_le_two_pow
  refine (nIn (by omega) (by omega)).mpr ?_
  rw [Nat.testBit_two_pow_sub_one, decide_eq_true h]
theorem pairs_eq {σ : oSg} (HA : IA σ) : nCnt (σ.1 2 0).toNat (bPair σ ((2 ^ (σ.1 2 0).toNat - 1 : Nat) : Int)) = nCnt (σ.2 69 0).toNat (bMp (gM (σ.2 69))) := by
  rw [vw_n HA]
  obtain ⟨n, hn⟩ : ∃ n : Nat, σ.2 69 0 = n := ⟨(σ.2 69 0).toNat, by have := HA.2.1.1; omega⟩
  rw [hn, Int.toNat_natCast]
  have n7 : n ≤ 7 := by have := HA.2.1.2; omega
  refine nCnt_ext (fun k hk => ?_)
  unfold bPair bMp
  rw [vw_M HA]
  by_cases c : (k : Int) < nM (gM (σ.2 69)) k
  · have g := ((IA_m HA).2.2 k (by omega)).1
    rw [hn] at g
    obtain ⟨q, hq⟩ : ∃ q : Nat, nM (gM (σ.2 69)) k = q := ⟨(nM (gM (σ.2 69)) k).toNat, by omega⟩
    rw [hq] at c g ⊢
    have i1 := all_bit hk n7
    have i2 := all_bit (p := q) (by omega) n7
    rw [decide_eq_true c, decide_eq_true i1, decide_eq_true i2]
    rfl
  · rw [decide_eq_false c, Bool.false_and]
theorem Fh_join (σ : oSg) (i j : Int) : Fh σ (sJoin σ i j) := by
  unfold sJoin
  split
  · exact Fh_t (Fh_SA _ _ (by decide)) (Fh_SA _ _ (by decide))
  · exact Fh_r σ
theorem Fh_jn (σ : oSg) (i j : Int) : Fh σ (sJn σ i j) := Fh_t (Fh_SA _ _ (by decide)) (Fh_SA _ _ (by decide))
theorem sJoin_r (σ : oSg) (i j : Int) {q : Nat} (h : ¬ q = 4) : (sJoin σ i j).2 q = σ.2 q := by
  unfold sJoin
  split
  · rw [oSA_ne _ _ _ h, oSA_ne _ _ _ h]
  · rfl
theorem sJn_r (σ : oSg) (i j : Int) {q : Nat} (h : ¬ q = 69) : (sJn σ i j).2 q = σ.2 q := by
  unfold sJn
  rw [oSA_ne _ _ _ h, oSA_ne _ _ _ h]
theorem sJn_k (σ : oSg) {i j : Int} (i0 : 0 ≤ i) (i7 : i < 7) (j0 : 0 ≤ j) (j7 : j < 7) {k : Nat} (h : k < 50 ∨ 57 ≤ k) : (sJn σ i j).2 69 k = σ.2 69 k := by
  unfold sJn
  rw [oSA_i _ _ (by omega), oSA_i _ _ (by omega)]
theorem sJn_M (σ : oSg) {i j : Int} (i0 : 0 ≤ i) (i7 : i < 7) (j0 : 0 ≤ j) (j7 : j < 7) (p : Int) : nM (gM ((sJn σ i j).2 69)) p = if p = j then i else if p = i then j else nM (gM (σ.2 69)) p := by
  unfold sJn
  rw [gM_SA, gM_SA]
  by_cases c : p = j
  · rw [if_pos c, if_pos (by omega)]
  · rw [if_neg c, if_neg (by omega)]
    by_cases g : p = i
    · rw [if_pos g, if_pos (by omega)]
    · rw [if_neg g, if_neg (by omega)]
theorem sJoin_M (σ : oSg) {i j : Int} (h2 : nTwo (σ.1 2 0) i j) (p : Int) : nM ((sJoin σ i j).2 4) p = if p = j then i else if p = i then j else nM (σ.2 4) p := by
  obtain ⟨⟨i0, i1, i7⟩, ⟨j0, j1, j7⟩, ij⟩ := id h2
  unfold sJoin
  rw [if_pos h2, nM_SA, nM_SA]
  by_cases c : p = j
  · rw [if_pos c, if_pos (by omega)]
  · rw [if_neg c, if_neg (by omega)]
    by_cases g : p = i
    · rw [if_pos g, if_pos (by omega)]
    · rw [if_neg g, if_neg (by omega)]
theorem IA_join {σ : oSg} (HA : IA σ) {i j : Int} (h2 : nTwo (σ.2 69 0) i j) (w : 0 < nW (gW (σ.2 69)) i j) (hi : nM (gM (σ.2 69)) i = -1) (hj : nM (gM (σ.2 69)) j = -1) : IA (sJn (sJoin σ i j) i j) := by
  obtain ⟨⟨i0, i1, i7⟩, ⟨j0, j1, j7⟩, ij⟩ := id h2
  have hn := vw_n HA
  have h2' : nTwo (σ.1 2 0) i j := by rw [hn]; exact h2
  have q0 : (sJoin σ i j).2 69 = σ.2 69 := sJoin_r _ _ _ (by decide)
  have e : ∀ k, k < 50 ∨ 57 ≤ k → (sJn (sJoin σ i j) i j).2 69 k = σ.2 69 k := fun k hk => by rw [sJn_k _ i0 i7 j0 j7 hk, q0]
  have r : ∀ q, ¬ q = 69 → ¬ q = 4 → (sJn (sJoin σ i j) i j).2 q = σ.2 q := fun q h1 h2 => by rw [sJn_r _ _ _ h1, sJoin_r _ _ _ h2]
  have f : ∀ q j', (sJn (sJoin σ i j) i j).1 q j' = σ.1 q j' := fun q j' => by
    show (sJoin σ i j).1 q j' = _
    rw [sJoin_1]
  have eM := sJn_M (sJoin σ i j) i0 i7 j0 j7
  rw [q0] at eM
  refine IA_of (PN_fr (f 2 0) (e 0 (by omega)) (IA_n HA)) (PW_fr (r 3 (by decide) (by decide)) (e 0 (by omega)) (fun k h1 h2 => e k (by omega)) (IA_w HA)) (PM_of ?_ ?_) (PH_fr (r 5 (by decide) (by decide)) (fun k h1 h2 => e k (by omega)) (IA_h HA)) (PO_fr (f 6 0) (r 7 (by decide) (by decide)) (r 8 (by decide) (by decide)) (fun k h1 h2 => e k (by omega)) (IA_o HA)) (PS_fr (f 9 0) (r 10 (by decide) (by decide)) (r 11 (by decide) (by decide)) (fun k h1 h2 => e k (by omega)) (IA_s HA)) (PE_fr (f 12 0) (r 13 (by decide) (by decide)) (r 14 (by decide) (by decide)) (fun k h1 h2 => e k (by omega)) (IA_e HA)) (PB_fr (f 15 0) (r 16 (by decide) (by decide)) (r 17 (by decide) (by decide)) (fun k h1 h2 => e k (by omega)) (IA_b HA))
  · funext p
    rw [eM, sJn_r _ _ _ (by decide), sJoin_M σ h2', vw_M HA]
  · rw [e 0 (by omega), gW_fr (fun k h1 h2 => e k (by omega))]
    exact GM_join (IA_m HA).2 (IA_w HA).2.2.1 (nM_neg _) hi hj ij i0 i1 j0 j1 HA.2.1.2 w eM
theorem c_pair {σ : oSg} (H : Inv σ) {d : Nat} (hd : 20 ≤ d) (i j : Int) : Both d 21 152 [.inl i, .inl j] σ := by
  have HA := H.1
  have hn := vw_n HA
  have b0 := HA.2.1.1
  have b7 := HA.2.1.2
  have hm := vw_m HA
  have x := m_X_pair (d := d) (σ := σ) (i := i) (j := j) (by omega) (by omega) (by omega)
  unfold xPair at x
  have y0 := m_M_pair (d := d) (σ := σ) (i := i) (j := j) b0 b7 (by omega)
  unfold yPair at y0
  rw [hn, vw_W HA, vw_M HA] at x
  have m1 := hm i
  have m2 := hm j
  by_cases c : nTwo (σ.2 69 0) i j
  · rw [if_neg (not_not_intro c)] at x y0
    by_cases g : ¬ 0 < nW (gW (σ.2 69)) i j ∨ ¬ nM (gM (σ.2 69)) i = -1 ∨ ¬ nM (gM (σ.2 69)) j = -1
    · rw [if_pos g] at y0
      rw [if_pos (by omega)] at x
      exact Both_i x y0 rfl H
    · rw [if_neg (by omega)] at x
      have q0 : (sJoin σ i j).2 69 = σ.2 69 := sJoin_r _ _ _ (by decide)
      have y := m_M_pair (d := d) (σ := sJoin σ i j) (i := i) (j := j) (by rw [q0]; exact b0) (by rw [q0]; exact b7) (by omega)
      unfold yPair at y
      rw [q0, if_neg (not_not_intro c), if_neg g] at y
      have hA := IA_join HA c (by omega) (by omega) (by omega)
      refine Both_i x y ?_ (Inv_h H (Fh_t (Fh_join σ i j) (Fh_jn _ i j)) hA)
      have e := pairs_eq hA
      have e0 : (sJn (sJoin σ i j) i j).2 69 0 = σ.2 69 0 := by rw [sJn_k _ c.1.1 c.1.2.2 c.2.1.1 c.2.1.2.2 (by omega), q0]
      have e1 : bPair (sJn (sJoin σ i j) i j) = bPair (sJoin σ i j) := by
        funext b p
        unfold bPair
        rw [sJn_r _ _ _ (by decide)]
      have e2 : (sJn (sJoin σ i j) i j).1 = (sJoin σ i j).1 := rfl
      rw [e0, e1, e2] at e
      rw [e]
  · rw [if_pos c] at x y0
    exact Both_i x y0 rfl H

