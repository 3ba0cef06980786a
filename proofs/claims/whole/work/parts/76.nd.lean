/-! calls: odd sets, weights, pairs -/
theorem oOdd_bits : ∀ n : Fin 8, ∀ i : Fin 32, (Int32.ofInt (oXor ((2 ^ n.val - 1 : Nat) : Int) (-1))).toBitVec.getLsbD i.val = decide (n.val ≤ i.val) := by decide +kernel
theorem oOdd_in {b : Int} (hb : oI32 b) {n : Nat} (hn : n ≤ 7) : (oAnd b (oXor ((2 ^ n - 1 : Nat) : Int) (-1)) = 0) ↔ (0 ≤ b ∧ b ≤ ((2 ^ n - 1 : Nat) : Int)) := by
  have p1 : 1 ≤ 2 ^ n := Nat.one_le_two_pow
  have p2 : 2 ^ n ≤ 2 ^ 7 := Nat.pow_le_pow_right (by decide) hn
  constructor
  · intro h
    have h1 : Int32.ofInt b &&& Int32.ofInt (oXor ((2 ^ n - 1 : Nat) : Int) (-1)) = 0 := by
      have : (Int32.ofInt b &&& Int32.ofInt (oXor ((2 ^ n - 1 : Nat) : Int) (-1))).toInt = (0 : Int32).toInt := h
      exact Int32.toInt_inj.mp this
    have h2 : (Int32.ofInt b).toBitVec &&& (Int32.ofInt (oXor ((2 ^ n - 1 : Nat) : Int) (-1))).toBitVec = 0#32 := by
      have := congrArg Int32.toBitVec h1
      rw [Int32.toBitVec_and] at this
      exact this
    have h3 : ∀ i, n ≤ i → (Int32.ofInt b).toBitVec.toNat.testBit i = false := by
      intro i hi
      by_cases hi32 : i < 32
      · have h4 := congrArg (fun v => BitVec.getLsbD v i) h2
        have h5 := oOdd_bits ⟨n, by omega⟩ ⟨i, hi32⟩
        dsimp only at h4 h5
        change BitVec.getLsbD (Int32.ofInt (oXor ((2 ^ n - 1 : Nat) : Int) (-1))).toBitVec i = decide (n ≤ i) at h5
        rw [BitVec.getLsbD_and, h5, decide_eq_true hi, Bool.and_true, BitVec.getLsbD_zero] at h4
        exact h4
      · exact Nat.testBit_lt_two_pow (Nat.lt_of_lt_of_le (BitVec.isLt _) (Nat.pow_le_pow_right (by decide) (by omega)))
    have h6 : (Int32.ofInt b).toBitVec.toNat < 2 ^ n := Nat.lt_pow_two_of_testBit _ (fun i hi => h3 i hi)
    have h7 : (Int32.ofInt b).toInt = b := oI32_ofInt hb
    have h8 : (Int32.ofInt b).toInt = (Int32.ofInt b).toBitVec.toInt := rfl
    rw [BitVec.toInt_eq_toNat_cond, if_pos (by omega)] at h8
    omega
  · rintro ⟨h0, h1⟩
    obtain ⟨x, rfl⟩ : ∃ x : Nat, b = x := ⟨b.toNat, by omega⟩
    rw [nDif_eq (a := x) (b := 2 ^ n - 1) (by omega) (by omega)]
    have : nDif x (2 ^ n - 1) = 0 := by
      apply Nat.eq_of_testBit_eq
      intro i
      rw [nDif_t, Nat.zero_testBit, Nat.testBit_two_pow_sub_one]
      by_cases hi : i < n
      · rw [decide_eq_true hi]
        cases x.testBit i <;> rfl
      · rw [Nat.testBit_lt_two_pow (Nat.lt_of_lt_of_le (show x < 2 ^ n by omega) (Nat.pow_le_pow_right (by decide) (by omega)))]
        rfl
    rw [this]
    rfl
theorem c_odd {σ : oSg} (H : Inv σ) {d : Nat} (hd : 20 ≤ d) (b h : Int) (hb : oI32 b) : Both d 91 197 [.inl b, .inl h] σ := by
  have HA := H.1
  have hn := vw_n HA
  have b0 := HA.2.1.1
  have b7 := HA.2.1.2
  obtain ⟨⟨s1, s2⟩, s3, s4, s5⟩ := IA_o HA
  have x := m_X_odd (d := d) (σ := σ) (b := b) (h := h) (by omega) (by omega) (by omega) (by omega)
  unfold xOdd at x
  obtain ⟨n, hnn⟩ : ∃ n : Nat, σ.2 69 0 = n := ⟨(σ.2 69 0).toNat, by omega⟩
  have n7 : n ≤ 7 := by omega
  have p2 : 2 ^ n ≤ 2 ^ 7 := Nat.pow_le_pow_right (by decide) n7
  have p1 : 1 ≤ 2 ^ n := Nat.one_le_two_pow
  by_cases c : b = -1
  · rw [if_pos c] at x
    have y := m_M_odd (d := d) (σ := oSF σ 6 0 0) (b := b) (h := h) b0 b7 s3 s4 (by omega)
    unfold yOdd at y
    rw [if_pos c] at y
    exact Both_i x y rfl (Inv_h H (Fh_t (Fh_SF _ _ (by decide)) (Fh_SA _ _ (by decide))) (IA_o0 HA))
  · have y0 := m_M_odd (d := d) (σ := σ) (b := b) (h := h) b0 b7 s3 s4 (by omega)
    unfold yOdd at y0
    rw [if_neg c, hnn, Int.toNat_natCast] at y0
    rw [if_neg c, hn, hnn, Int.toNat_natCast, s1] at x
    have hib := oOdd_in hb n7
    by_cases g : 0 ≤ b ∧ b ≤ ((2 ^ n - 1 : Nat) : Int)
    · obtain ⟨z, rfl⟩ : ∃ z : Nat, b = z := ⟨b.toNat, by omega⟩
      have hz : z < 128 := by omega
      have f1 := nBc_sz hz
      have f2 := nRem2 (nSz_le z)
      rw [Int.toNat_natCast] at y0
      rw [f1, f2] at x
      by_cases k : ¬ (0 ≤ (z : Int) ∧ (z : Int) ≤ ((2 ^ n - 1 : Nat) : Int)) ∨ nSz z < 3 ∨ nSz z % 2 = 0 ∨ ¬ (1 ≤ h ∧ h ≤ 40)
      · rw [if_pos k] at y0
        rw [if_pos (by
          have k2 := k.resolve_left (fun w => w g)
          by_cases k3 : h < 1 ∨ 40 < h
          · exact Or.inr k3
          · refine Or.inl (fun w => ?_)
            omega)] at x
        exact Both_i x y0 rfl H
      · rw [if_neg k] at y0
        have k2 : ¬ (nSz z < 3 ∨ nSz z % 2 = 0 ∨ ¬ (1 ≤ h ∧ h ≤ 40)) := fun w => k (Or.inr w)
        rw [if_neg (by
          intro w
          rcases w with w | w
          · exact w ⟨hib.mpr g, by omega, by omega⟩
          · omega)] at x
        by_cases e : σ.2 69 64 = 3
        · rw [if_pos e] at y0
          rw [if_pos (by omega)] at x
          exact Both_i x y0 rfl H
        · rw [if_neg (by omega)] at x
          have q0 : (nApp σ 6 (z : Int) h).2 69 = σ.2 69 := nApp_r _ _ _ (by rw [rf_6_1]; decide) (by rw [rf_6_2]; decide)
          have y := m_M_odd (d := d) (σ := nApp σ 6 (z : Int) h) (b := (z : Int)) (h := h) (by rw [q0]; exact b0) (by rw [q0]; exact b7) (by rw [q0]; exact s3) (by rw [q0]; exact s4) (by omega)
          unfold yOdd at y
          rw [q0, if_neg c, hnn, Int.toNat_natCast, Int.toNat_natCast, if_neg k, if_neg e, sOd1_mApp _ _ _ (by rw [q0]; exact s3)] at y
          exact Both_i x y rfl (Inv_h H (Fh_t (Fh_app σ _ _ (by decide) (by rw [rf_6_1]; decide) (by rw [rf_6_2]; decide)) (Fh_mApp _ _ _ _ _ _)) (IA_o1 HA (z : Int) h ⟨by omega, by omega, by rw [Int.toNat_natCast]; omega⟩ (by omega) e))
    · rw [if_pos (Or.inl g)] at y0
      rw [if_pos (Or.inl (fun w => g (hib.mp w.1)))] at x
      exact Both_i x y0 rfl H
/-! partners -/
theorem GM_part {n : Int} {W : Int → Int → Int} {M M' : Int → Int} {i : Int} (h : GM n W M) (hi : 0 ≤ M i) (h' : ∀ p, M' p = if p = i ∨ p = M i then -1 else M p) : GM n W M' := by
  obtain ⟨h1, h2⟩ := h
  refine ⟨fun p => ?_, fun p hp => ?_⟩
  · rw [h']
    split
    · decide
    · exact h1 p
  · rw [h'] at hp
    by_cases c : p = i ∨ p = M i
    · rw [if_pos c] at hp
      omega
    · rw [if_neg c] at hp
      have e : M' p = M p := by rw [h', if_neg c]
      obtain ⟨a, b, w⟩ := h2 p hp
      obtain ⟨-, bi, -⟩ := h2 i hi
      refine ⟨by rw [e]; exact a, ?_, by rw [e]; exact w⟩
      rw [e, h', if_neg ?_]
      · exact b
      · intro z
        rcases z with z | z
        · exact c (Or.inr (by rw [← z, b]))
        · exact c (Or.inl (by rw [← b, z, bi]))
theorem GM_join {n : Int} {W : Int → Int → Int} {M M' : Int → Int} {i j : Int} (h : GM n W M) (hW : ∀ i j, W i j = W j i) (h1 : M (-1) = -1) (hi : M i = -1) (hj : M j = -1) (hij : ¬ i = j) (i0 : 0 ≤ i) (iN : i < n) (j0 : 0 ≤ j) (jN : j < n) (n7 : n ≤ 7) (w : 0 < W i j) (h' : ∀ p, M' p = if p = j then i else if p = i then j else M p) : GM n W M' := by
  obtain ⟨g1, g2⟩ := h
  refine ⟨fun p => ?_, fun p hp => ?_⟩
  · rw [h']
    split
    · omega
    · split
      · omega
      · exact g1 p
  · by_cases c1 : p = j
    · have e : M' p = i := by rw [h', if_pos c1]
      rw [e]
      refine ⟨⟨iN, by omega⟩, ?_, ?_⟩
      · rw [h', if_neg hij, if_pos rfl, c1]
      · rw [c1, hW]; exact w
    · by_cases c2 : p = i
      · have e : M' p = j := by rw [h', if_neg c1, if_pos c2]
        rw [e]
        refine ⟨⟨jN, by omega⟩, ?_, ?_⟩
        · rw [h', if_pos rfl, c2]
        · rw [c2]; exact w
      · have e : M' p = M p := by rw [h', if_neg c1, if_neg c2]
        rw [e] at hp ⊢
        obtain ⟨a, b, v⟩ := g2 p hp
        refine ⟨a, ?_, v⟩
        rw [h', if_neg, if_neg]
        · exact b
        · intro z
          rw [z, hi] at b
          rw [← b, h1] at hp
          omega
        · intro z
          rw [z, hj] at b
          rw [← b, h1] at hp
          omega
theorem nM_neg (g : Nat → Int) : nM g (-1) = -1 := if_neg (by decide)
theorem nM_out {g : Nat → Int} {p : Int} (h : ¬ (0 ≤ p ∧ p < 7)) : nM g p = -1 := if_neg h
theorem nM_pos {g : Nat → Int} {p : Int} (h : 0 ≤ nM g p) : 0 ≤ p ∧ p < 7 := by
  by_cases c : 0 ≤ p ∧ p < 7
  · exact c
  · rw [nM_out c] at h
    omega
theorem nM_at {g : Nat → Int} {p : Nat} (h : p < 7) : nM g p = g p := by
  unfold nM
  rw [if_pos (by omega), Int.toNat_natCast]
/-- the class's partners, one written -/
theorem nM_SA (σ : oSg) (i : Nat) (v p : Int) : nM ((oSA σ 4 i v).2 4) p = if (0 ≤ p ∧ p < 7) ∧ i = p.toNat then v else nM (σ.2 4) p := by
  unfold nM
  by_cases h : 0 ≤ p ∧ p < 7
  · rw [if_pos h, if_pos h]
    by_cases g : i = p.toNat
    · rw [if_pos ⟨h, g⟩, g, oSA_s]
    · rw [if_neg (fun z => g z.2), oSA_i _ _ (fun z => g z.symm)]
  · rw [if_neg h, if_neg h, if_neg (fun z => h z.1)]
theorem PM_of {σ : oSg} (e : nM (σ.2 4) = nM (gM (σ.2 69))) (h : GM (σ.2 69 0) (nW (gW (σ.2 69))) (nM (gM (σ.2 69)))) : PM σ := by
  refine ⟨fun p hp => ?_, h⟩
  have := congrFun e (p : Int)
  rw [nM_at hp, nM_at hp] at this
  exact this
theorem Fh_part (σ : oSg) (p : Int) : Fh σ (sPart σ p) := by
  unfold sPart
  split
  · exact Fh_t (Fh_SA _ _ (by decide)) (Fh_SA _ _ (by decide))
  · exact Fh_r σ
theorem Fh_frees (σ : oSg) (p : Int) : Fh σ (sFr σ p) := by
  unfold sFr
  split
  · exact Fh_SA _ _ (by decide)
  · exact Fh_t (Fh_SA _ _ (by decide)) (Fh_SA _ _ (by decide))
/-- what parting leaves on either side -/
theorem sPart_r (σ : oSg) (p : Int) {q : Nat} (h : ¬ q = 4) : (sPart σ p).2 q = σ.2 q := by
  unfold sPart
  split
  · rw [oSA_ne _ _ _ h, oSA_ne _ _ _ h]
  · rfl
theorem sPart_f (σ : oSg) (p : Int) : (sPart σ p).1 = σ.1 := by
  unfold sPart
  split <;> rfl
theorem sFr_r (σ : oSg) (p : Int) {q : Nat} (h : ¬ q = 69) : (sFr σ p).2 q = σ.2 q := by
  unfold sFr
  split
  · rw [oSA_ne _ _ _ h]
  · rw [oSA_ne _ _ _ h, oSA_ne _ _ _ h]
theorem sFr_1 (σ : oSg) (p : Int) : (sFr σ p).1 = σ.1 := by
  unfold sFr
  split <;> rfl
theorem sFr_k (σ : oSg) {p : Int} (p0 : 0 ≤ p) (p7 : p < 7) (m : -1 ≤ nM (gM (σ.2 69)) p ∧ nM (gM (σ.2 69)) p < 7) {k : Nat} (h : k < 50 ∨ 57 ≤ k) : (sFr σ p).2 69 k = σ.2 69 k := by
  unfold sFr
  split
  · rw [oSA_i _ _ (by omega)]
  · rw [oSA_i _ _ (by omega), oSA_i _ _ (by omega)]
theorem sFr_M (σ : oSg) {i : Int} (i0 : 0 ≤ i) (i7 : i < 7) (hm : ∀ p, -1 ≤ nM (gM (σ.2 69)) p ∧ nM (gM (σ.2 69)) p < 7) (p : Int) : nM (gM ((sFr σ i).2 69)) p = if p = i ∨ (0 ≤ nM (gM (σ.2 69)) i ∧ p = nM (gM (σ.2 69)) i) then -1 else nM (gM (σ.2 69)) p := by
  have m := hm i
  unfold sFr
  by_cases c : nM (gM (σ.2 69)) i = -1
  · rw [if_pos c, gM_SA]
    by_cases z : p = i
    · rw [if_pos (by omega), if_pos (Or.inl z)]
    · rw [if_neg (by omega), if_neg (by omega)]
  · rw [if_neg c, gM_SA, gM_SA]
    by_cases z : p = i
    · rw [if_pos (Or.inl z)]
      by_cases y : (0 ≤ p ∧ p < 7) ∧ (50 + nM (gM (σ.2 69)) i).toNat = 50 + p.toNat
      · rw [if_pos y]
      · rw [if_neg y, if_pos (by omega)]
    · by_cases y : p = nM (gM (σ.2 69)) i
      · rw [if_pos (by omega), if_pos (by omega)]
      · rw [if_neg (by omega), if_neg (by omega), if_neg (by omega)]
theorem sPart_M {σ : oSg} (HA : IA σ) {i : Int} (hi : nHas (σ.2 69 0) i) (p : Int) : nM ((sPart σ i).2 4) p = if p = i ∨ (0 ≤ nM (gM (σ.2 69)) i ∧ p = nM (gM (σ.2 69)) i) then -1 else nM (gM (σ.2 69)) p := by
  have hM := vw_M HA
  have m := vw_m HA i
  obtain ⟨i0, in', i7⟩ := id hi
  have gm := (IA_m HA).2.2 i
  unfold sPart
  rw [vw_n HA, hM]
  by_cases c : nM (gM (σ.2 69)) i = -1
  · rw [if_neg (fun z => by have := z.2.1; omega)]
    rw [hM]
    by_cases z : p = i
    · rw [if_pos (Or.inl z), z, c]
    · rw [if_neg (by omega)]
  · have mm := (gm (by omega)).1
    rw [if_pos ⟨hi, by omega, by omega, by omega⟩, nM_SA, nM_SA, hM]
    by_cases z : p = i
    · rw [if_pos (Or.inl z)]
      by_cases y : (0 ≤ p ∧ p < 7) ∧ (nM (gM (σ.2 69)) i).toNat = p.toNat
      · rw [if_pos y]
      · rw [if_neg y, if_pos (by omega)]
    · by_cases y : p = nM (gM (σ.2 69)) i
      · rw [if_pos (by omega), if_pos (by omega)]
      · rw [if_neg (by omega), if_neg (by omega), if_neg (by omega)]
/-- a pair parted on both sides, where the net may have changed ahead of it -/
theorem IA_part {σ : oSg} (HA : IA σ) {i : Int} (hi : nHas (σ.2 69 0) i) : IA (sFr (sPart σ i) i) := by
  obtain ⟨i0, in', i7⟩ := id hi
  have q0 : (sPart σ i).2 69 = σ.2 69 := sPart_r _ _ (by decide)
  have hm := vw_m HA
  have hm' : ∀ p, -1 ≤ nM (gM ((sPart σ i).2 69)) p ∧ nM (gM ((sPart σ i).2 69)) p < 7 := by rw [q0]; exact hm
  have e : ∀ k, k < 50 ∨ 57 ≤ k → (sFr (sPart σ i) i).2 69 k = σ.2 69 k := fun k hk => by rw [sFr_k _ i0 i7 (hm' i) hk, q0]
  have r : ∀ q, ¬ q = 69 → ¬ q = 4 → (sFr (sPart σ i) i).2 q = σ.2 q := fun q h1 h2 => by rw [sFr_r _ _ h1, sPart_r _ _ h2]
  have f : ∀ q j, (sFr (sPart σ i) i).1 q j = σ.1 q j := fun q j => by rw [sFr_1, sPart_f]
  have hmM := sFr_M (sPart σ i) i0 i7 hm'
  rw [q0] at hmM
  have hcM := sPart_M HA hi
  have eM : nM ((sFr (sPart σ i) i).2 4) = nM (gM ((sFr (sPart σ i) i).2 69)) := by
    funext p
    rw [hmM, sFr_r _ _ (by decide), hcM]
  refine IA_of (PN_fr (f 2 0) (e 0 (by omega)) (IA_n HA)) (PW_fr (r 3 (by decide) (by decide)) (e 0 (by omega)) (fun k h1 h2 => e k (by omega)) (IA_w HA)) (PM_of eM ?_) (PH_fr (r 5 (by decide) (by decide)) (fun k h1 h2 => e k (by omega)) (IA_h HA)) (PO_fr (f 6 0) (r 7 (by decide) (by decide)) (r 8 (by decide) (by decide)) (fun k h1 h2 => e k (by omega)) (IA_o HA)) (PS_fr (f 9 0) (r 10 (by decide) (by decide)) (r 11 (by decide) (by decide)) (fun k h1 h2 => e k (by omega)) (IA_s HA)) (PE_fr (f 12 0) (r 13 (by decide) (by decide)) (r 14 (by decide) (by decide)) (fun k h1 h2 => e k (by omega)) (IA_e HA)) (PB_fr (f 15 0) (r 16 (by decide) (by decide)) (r 17 (by decide) (by decide)) (fun k h1 h2 => e k (by omega)) (IA_b HA))
  rw [e 0 (by omega), gW_fr (fun k h1 h2 => e k (by omega))]
  by_cases c : 0 ≤ nM (gM (σ.2 69)) i
  · refine GM_part (IA_m HA).2 c (fun p => ?_)
    rw [hmM]
    by_cases z : p = i ∨ p = nM (gM (σ.2 69)) i
    · rw [if_pos z, if_pos (by omega)]
    · rw [if_neg z, if_neg (by omega)]
  · have eq : nM (gM ((sFr (sPart σ i) i).2 69)) = nM (gM (σ.2 69)) := by
      funext p
      rw [hmM]
      have := hm i
      by_cases z : p = i
      · rw [if_pos (Or.inl z), z]
        omega
      · rw [if_neg (by omega)]
    rw [eq]
    exact (IA_m HA).2
theorem c_alone {σ : oSg} (H : Inv σ) {d : Nat} (hd : 20 ≤ d) (p : Int) : Both d 29 156 [.inl p] σ := by
  have HA := H.1
  have hn := vw_n HA
  have b0 := HA.2.1.1
  have b7 := HA.2.1.2
  have m := vw_m HA p
  have x := m_X_alone (d := d) (σ := σ) (p := p) (by omega)
  unfold xAlone at x
  rw [hn, vw_M HA] at x
  by_cases c : nHas (σ.2 69 0) p
  · have q0 : (sPart σ p).2 69 = σ.2 69 := sPart_r _ _ (by decide)
    have y := m_M_alone (d := d) (σ := sPart σ p) (p := p) (by rw [q0]; exact b0) (by rw [q0]; exact b7) (by rw [q0]; exact m.1) (by rw [q0]; exact m.2) (by omega)
    unfold yAlone at y
    rw [q0, if_neg (not_not_intro c)] at y
    rw [if_neg (not_not_intro c)] at x
    refine Both_i x y ?_ (Inv_h H (Fh_t (Fh_part σ p) (Fh_frees _ _)) (IA_part HA c))
    by_cases h : nM (gM (σ.2 69)) p = -1
    · rw [if_pos h, if_pos (by omega)]
    · rw [if_neg h, if_neg (by omega)]
  · have y := m_M_alone (d := d) (σ := σ) (p := p) b0 b7 m.1 m.2 (by omega)
    unfold yAlone at y
    rw [if_pos c] at x y
    exact Both_i x y rfl H

