/-! calls: the image, tapes, the text fed -/
theorem IA_g {σ τ : oSg} (e1 : ∀ q, q ≤ 17 → τ.1 q 0 = σ.1 q 0) (e2 : ∀ q, q ≤ 17 → τ.2 q = σ.2 q) (e : ∀ k, k < 116 → τ.2 69 k = σ.2 69 k) (HA : IA σ) : IA τ := IA_of (PN_fr (e1 2 (by decide)) (e 0 (by decide)) (IA_n HA)) (PW_fr (e2 3 (by decide)) (e 0 (by decide)) (fun k _ h => e k (by omega)) (IA_w HA)) (PM_fr (e2 4 (by decide)) (e 0 (by decide)) (fun k _ h => e k (by omega)) (IA_m HA)) (PH_fr (e2 5 (by decide)) (fun k _ h => e k (by omega)) (IA_h HA)) (PO_fr (e1 6 (by decide)) (e2 7 (by decide)) (e2 8 (by decide)) (fun k _ h => e k (by omega)) (IA_o HA)) (PS_fr (e1 9 (by decide)) (e2 10 (by decide)) (e2 11 (by decide)) (fun k _ h => e k (by omega)) (IA_s HA)) (PE_fr (e1 12 (by decide)) (e2 13 (by decide)) (e2 14 (by decide)) (fun k _ h => e k (by omega)) (IA_e HA)) (PB_fr (e1 15 (by decide)) (e2 16 (by decide)) (e2 17 (by decide)) (fun k _ h => e k (by omega)) (IA_b HA))
theorem IK_g {σ τ : oSg} (e0 : τ.1 0 2 = σ.1 0 2) (e1 : ∀ q, 18 ≤ q → q ≤ 34 → τ.1 q 0 = σ.1 q 0) (e2 : ∀ q, 18 ≤ q → q ≤ 34 → τ.2 q = σ.2 q) (e3 : τ.2 70 = σ.2 70) (e4 : τ.1 68 3 = σ.1 68 3) (H : IK σ) : IK τ := by
  obtain ⟨h1, h2, h3, h4, h5, h6⟩ := H
  unfold IK
  rw [e4, e0, e1 23 (by decide) (by decide), e1 26 (by decide) (by decide), e1 29 (by decide) (by decide), e1 32 (by decide) (by decide), e3]
  refine ⟨h1, ?_, h3, h4, h5, h6⟩
  rcases h2 with h2 | ⟨h2, h7⟩
  · exact Or.inl h2
  · refine Or.inr ⟨?_, h7⟩
    unfold RH
    rw [e1 (2 + 17) (by decide) (by decide), e1 (6 + 17) (by decide) (by decide), e1 (9 + 17) (by decide) (by decide), e1 (12 + 17) (by decide) (by decide), e1 (15 + 17) (by decide) (by decide), e2 (3 + 17) (by decide) (by decide), e2 (4 + 17) (by decide) (by decide), e2 (5 + 17) (by decide) (by decide), e2 (7 + 17) (by decide) (by decide), e2 (8 + 17) (by decide) (by decide), e2 (10 + 17) (by decide) (by decide), e2 (11 + 17) (by decide) (by decide), e2 (13 + 17) (by decide) (by decide), e2 (14 + 17) (by decide) (by decide), e2 (16 + 17) (by decide) (by decide), e2 (17 + 17) (by decide) (by decide)]
    exact h2
theorem IT_g {σ τ : oSg} (e1 : τ.1 35 0 = σ.1 35 0) (e2 : τ.1 68 6 = σ.1 68 6) (e3 : τ.2 36 = σ.2 36) (e4 : τ.2 72 = σ.2 72) (H : IT σ) : IT τ := by
  unfold IT
  rw [e1, e2, e3, e4]
  exact H
theorem IP_g {σ τ : oSg} (e : ∀ q, (52 ≤ q ∧ q ≤ 54) ∨ (79 ≤ q ∧ q ≤ 87) → τ.2 q = σ.2 q) (H : IP σ) : IP τ := by
  intro t ht
  have := H t ht
  rw [e 52 (by omega), e 53 (by omega), e 54 (by omega), e 79 (by omega), e 80 (by omega), e (82 + t) (by omega)]
  exact this
theorem byte_chk : ∀ z : Fin 128, oI2b (oI2b (z.val : Int)) = (z.val : Int) := by decide +kernel
theorem kd7_chk : ∀ r : Fin 89, oKd r.val = some 7 → r.val = 6 ∨ r.val = 9 ∨ r.val = 12 ∨ r.val = 15 ∨ r.val = 23 ∨ r.val = 26 ∨ r.val = 29 ∨ r.val = 32 := by decide +kernel
theorem c_feed {σ : oSg} (H : Inv σ) {d : Nat} (hd : 20 ≤ d) (s : Int) : Both d 51 166 [.inl s] σ := by
  obtain ⟨HA, HK, HT, HP⟩ := id H
  obtain ⟨⟨t0, t1⟩, t2, t3⟩ := id HT
  have x := m_X_feed (d := d) (σ := σ) (s := s) (by omega)
  unfold xFeed at x
  have y0 := m_M_feed (d := d) (σ := σ) (s := s) (by omega) (by omega) (by omega)
  unfold yFeed at y0
  by_cases c : 0 ≤ s ∧ s ≤ 127
  · rw [if_neg (by omega)] at x
    by_cases g : σ.1 35 0 = 100
    · have e : sApp σ s = σ := by unfold sApp; rw [if_neg (by omega)]
      rw [if_neg (by omega), e] at x
      rw [if_neg (not_not_intro c), if_pos (by omega)] at y0
      exact Both_i x y0 rfl H
    · have e : sApp σ s = oSF (oSA σ 36 (σ.1 35 0).toNat (oI2b (oI2b s))) 35 0 (σ.1 35 0 + 1) := by unfold sApp; rw [if_pos (by omega)]
      rw [if_pos (by omega), e] at x
      have b6 : (oSF (oSA σ 36 (σ.1 35 0).toNat (oI2b (oI2b s))) 35 0 (σ.1 35 0 + 1)).1 68 6 = σ.1 68 6 := oSF_o _ _ (by omega)
      have y := m_M_feed (d := d) (σ := oSF (oSA σ 36 (σ.1 35 0).toNat (oI2b (oI2b s))) 35 0 (σ.1 35 0 + 1)) (s := s) (by omega) (by omega) (by omega)
      unfold yFeed at y
      rw [b6, if_neg (not_not_intro c), if_neg (by omega), t2] at y
      have hs : oI2b (oI2b s) = s := by
        obtain ⟨z, rfl⟩ : ∃ z : Nat, s = z := ⟨s.toNat, by omega⟩
        exact byte_chk ⟨z, by omega⟩
      obtain ⟨N, hN⟩ : ∃ N : Nat, σ.1 35 0 = N := ⟨(σ.1 35 0).toNat, by omega⟩
      rw [hs, hN, Int.toNat_natCast] at x y
      refine Both_i x y ?_ ?_
      · exact oSF_s (oSA σ 36 N s) 35 0 ((N : Int) + 1)
      · generalize hυ : oSF (oSA (oSF (oSA σ 36 N s) 35 0 ((N : Int) + 1)) 72 N s) 68 6 ((N : Int) + 1) = υ
        have f : ∀ q j, ¬ (q = 35 ∧ j = 0) → ¬ (q = 68 ∧ j = 6) → υ.1 q j = σ.1 q j := fun q j h1 h2 => by
          rw [← hυ, oSF_o _ _ h2]
          show (oSF (oSA σ 36 N s) 35 0 ((N : Int) + 1)).1 q j = _
          rw [oSF_o _ _ h1]
          rfl
        have r : ∀ q, ¬ q = 36 → ¬ q = 72 → υ.2 q = σ.2 q := fun q h1 h2 => by
          rw [← hυ, oSF_2, oSA_ne _ _ _ h2, oSF_2, oSA_ne _ _ _ h1]
        refine ⟨IA_g (fun q hq => f q 0 (by omega) (by omega)) (fun q hq => r q (by omega) (by omega)) (fun k _ => by rw [r 69 (by omega) (by omega)]) HA, IK_g (f 0 2 (by omega) (by omega)) (fun q h1 h2 => f q 0 (by omega) (by omega)) (fun q h1 h2 => r q (by omega) (by omega)) (r 70 (by omega) (by omega)) (f 68 3 (by omega) (by omega)) HK, ?_, IP_g (fun q hq => r q (by omega) (by omega)) HP⟩
        have a1 : υ.1 35 0 = (N : Int) + 1 := by
          rw [← hυ, oSF_o _ _ (by omega)]
          exact oSF_s (oSA σ 36 N s) 35 0 ((N : Int) + 1)
        have a2 : υ.1 68 6 = (N : Int) + 1 := by
          rw [← hυ]
          exact oSF_s _ _ _ _
        show IT υ
        refine ⟨⟨by omega, by omega⟩, by omega, fun k hk => ?_⟩
        rw [a1] at hk
        have z1 : υ.2 36 k = if k = N then s else σ.2 36 k := by
          rw [← hυ, oSF_2, oSA_ne _ _ _ (by decide), oSF_2]
          by_cases z : k = N
          · rw [if_pos z, z, oSA_s]
          · rw [if_neg z, oSA_i _ _ z]
        have z2 : υ.2 72 k = if k = N then s else σ.2 72 k := by
          rw [← hυ, oSF_2]
          by_cases z : k = N
          · rw [if_pos z, z, oSA_s]
          · rw [if_neg z, oSA_i _ _ z, oSF_2, oSA_ne _ _ _ (by decide)]
        rw [z1, z2]
        by_cases z : k = N
        · rw [if_pos z, if_pos z]
        · rw [if_neg z, if_neg z]
          exact t3 k (by omega)
  · rw [if_pos (by omega)] at x
    rw [if_pos c] at y0
    exact Both_i x y0 rfl H
/-! rows copied -/
theorem sC1_spec {τ : oSg} {o p r1 r2 s1 s2 L : Nat} (h1 : oRf o 1 = r1) (h2 : oRf o 2 = r2) (g1 : oRf p 1 = s1) (g2 : oRf p 2 = s2) (l1 : oLn r1 = L) (l2 : oLn s1 = L) (l3 : oLn s2 = L) (n1 : ¬ r1 = r2) (n2 : ¬ s1 = r1) (n3 : ¬ s1 = r2) (n4 : ¬ s2 = r1) (n5 : ¬ s2 = r2) (b0 : 0 ≤ τ.1 p 0) (bL : τ.1 p 0 ≤ L) : (∀ q j, ¬ (q = o ∧ j = 0) → (sC1 τ o p).1 q j = τ.1 q j) ∧ (sC1 τ o p).1 o 0 = τ.1 p 0 ∧ (∀ q, ¬ q = r1 → ¬ q = r2 → (sC1 τ o p).2 q = τ.2 q) ∧ ∀ k : Nat, (k : Int) < τ.1 p 0 → (sC1 τ o p).2 r1 k = τ.2 s1 k ∧ (sC1 τ o p).2 r2 k = τ.2 s2 k := by
  have key : ∀ m : Nat, m ≤ L → (∀ q j, ¬ (q = o ∧ j = 0) → (sCopy τ o p m).1 q j = τ.1 q j) ∧ (sCopy τ o p m).1 o 0 = m ∧ (∀ q, ¬ q = r1 → ¬ q = r2 → (sCopy τ o p m).2 q = τ.2 q) ∧ ∀ k : Nat, k < m → (sCopy τ o p m).2 r1 k = τ.2 s1 k ∧ (sCopy τ o p m).2 r2 k = τ.2 s2 k := by
    intro m
    induction m with
    | zero => exact fun _ => ⟨fun q j h => oSF_o _ _ h, oSF_s _ _ _ _, fun _ _ _ => rfl, fun k hk => absurd hk (Nat.not_lt_zero k)⟩
    | succ m ih =>
      intro hm
      obtain ⟨i1, i2, i3, i4⟩ := ih (by omega)
      have e : sCopy τ o p (m + 1) = nApp (sCopy τ o p m) o (τ.2 s1 m) (τ.2 s2 m) := by
        show (if _ then _ else _) = _
        rw [if_neg (by rw [h1, l1, i2]; omega), g1, g2, l2, l3]
        unfold nAt
        rw [if_pos (by omega), if_pos (by omega), Int.toNat_natCast, i3 s1 n2 n3, i3 s2 n4 n5]
      rw [e]
      have a := nApp_a (sCopy τ o p m) (a := o) (τ.2 s1 m) (τ.2 s2 m) (by rw [h1, h2]; exact n1)
      have b := nApp_b (sCopy τ o p m) (a := o) (τ.2 s1 m) (τ.2 s2 m) (by rw [h1, h2]; exact n1)
      rw [h1, i2, Int.toNat_natCast] at a
      rw [h2, i2, Int.toNat_natCast] at b
      refine ⟨fun q j h => ?_, ?_, fun q h3 h4 => ?_, fun k hk => ?_⟩
      · unfold nApp
        rw [oSF_o _ _ h]
        exact i1 q j h
      · rw [nApp_1, i2]
        omega
      · rw [nApp_r _ _ _ (by rw [h1]; exact h3) (by rw [h2]; exact h4)]
        exact i3 q h3 h4
      · rw [a, b]
        by_cases z : k = m
        · rw [if_pos z, if_pos z, z]
          exact ⟨rfl, rfl⟩
        · rw [if_neg z, if_neg z]
          exact i4 k (by omega)
  obtain ⟨k1, k2, k3, k4⟩ := key (τ.1 p 0).toNat (by omega)
  exact ⟨k1, by show (sCopy τ o p (τ.1 p 0).toNat).1 o 0 = _; rw [k2]; omega, k3, fun k hk => k4 k (by omega)⟩
theorem hz_of {σ : oSg} (H : Inv σ) : ∀ r : Nat, oKd r = some 7 → 0 ≤ σ.1 r 0 ∧ σ.1 r 0 ≤ 8 := by
  obtain ⟨HA, ⟨-, -, k1, k2, k3, k4⟩, -⟩ := H
  have o := IA_o HA
  have s := IA_s HA
  have e := IA_e HA
  have b := IA_b HA
  intro r hr
  have hr89 := oKd_lt hr
  have hl : r = 6 ∨ r = 9 ∨ r = 12 ∨ r = 15 ∨ r = 23 ∨ r = 26 ∨ r = 29 ∨ r = 32 := kd7_chk ⟨r, hr89⟩ hr
  rcases hl with rfl | rfl | rfl | rfl | rfl | rfl | rfl | rfl
  · rw [o.1.1]; have := o.2.1; have := o.2.2.1; omega
  · rw [s.1.1]; have := s.2.1; have := s.2.2.1; omega
  · rw [e.1.1]; exact e.2
  · rw [b.1.1]; have := b.2.1; have := b.2.2.1; omega
  · exact k1
  · exact k2
  · exact k3
  · exact k4
theorem sC3_spec (σ : oSg) {na nb wa wb ma mb ha hb : Nat} (h1 : ¬ wa = ma) (h2 : ¬ wa = ha) (h3 : ¬ ma = ha) (h4 : ¬ mb = wa) (h5 : ¬ hb = wa) (h6 : ¬ hb = ma) : (∀ q j, ¬ (q = na ∧ j = 0) → (sC3 σ na nb wa wb ma mb ha hb).1 q j = σ.1 q j) ∧ (sC3 σ na nb wa wb ma mb ha hb).1 na 0 = σ.1 nb 0 ∧ (∀ q, ¬ q = wa → ¬ q = ma → ¬ q = ha → (sC3 σ na nb wa wb ma mb ha hb).2 q = σ.2 q) ∧ (∀ k, k < 49 → (sC3 σ na nb wa wb ma mb ha hb).2 wa k = σ.2 wb k) ∧ (∀ k, k < 7 → (sC3 σ na nb wa wb ma mb ha hb).2 ma k = σ.2 mb k) ∧ ∀ k, k < 7 → (sC3 σ na nb wa wb ma mb ha hb).2 ha k = σ.2 hb k := by
  unfold sC3
  refine ⟨fun q j h => oSF_o _ _ h, oSF_s _ _ _ _, fun q g1 g2 g3 => ?_, fun k hk => ?_, fun k hk => ?_, fun k hk => ?_⟩
  · rw [oCp_ne _ g3, oCp_ne _ g2, oCp_ne _ g1, oSF_2]
  · rw [oCp_ne _ h2, oCp_ne _ h1]
    have := oCp_at (oSF σ na 0 (σ.1 nb 0)) (a := wb) (b := wa) (n := 49) k
    rw [if_pos hk] at this
    exact this
  · rw [oCp_ne _ h3]
    have := oCp_at (oCp (oSF σ na 0 (σ.1 nb 0)) wb 0 wa 0 49) (a := mb) (b := ma) (n := 7) k
    rw [if_pos hk] at this
    refine Eq.trans this ?_
    rw [oCp_ne _ h4, oSF_2]
  · have := oCp_at (oCp (oCp (oSF σ na 0 (σ.1 nb 0)) wb 0 wa 0 49) mb 0 ma 0 7) (a := hb) (b := ha) (n := 7) k
    rw [if_pos hk] at this
    refine Eq.trans this ?_
    rw [oCp_ne _ h6, oCp_ne _ h5, oSF_2]
/-- what the copy leaves -/
theorem sImg_spec {σ : oSg} (z0 : 0 ≤ σ.1 6 0 ∧ σ.1 6 0 ≤ 3) (z1 : 0 ≤ σ.1 9 0 ∧ σ.1 9 0 ≤ 5) (z2 : 0 ≤ σ.1 12 0 ∧ σ.1 12 0 ≤ 8) (z3 : 0 ≤ σ.1 15 0 ∧ σ.1 15 0 ≤ 8) : (∀ q j, ¬ ((q = 19 ∨ q = 23 ∨ q = 26 ∨ q = 29 ∨ q = 32) ∧ j = 0) → (sImg σ).1 q j = σ.1 q j) ∧ (∀ q, ¬ (19 ≤ q ∧ q ≤ 34) → (sImg σ).2 q = σ.2 q) ∧ (sImg σ).1 19 0 = σ.1 2 0 ∧ (∀ k, k < 49 → (sImg σ).2 20 k = σ.2 3 k) ∧ (∀ k, k < 7 → (sImg σ).2 21 k = σ.2 4 k) ∧ (∀ k, k < 7 → (sImg σ).2 22 k = σ.2 5 k) ∧ ((sImg σ).1 23 0 = σ.1 6 0 ∧ ∀ k : Nat, (k : Int) < σ.1 6 0 → (sImg σ).2 24 k = σ.2 7 k ∧ (sImg σ).2 25 k = σ.2 8 k) ∧ ((sImg σ).1 26 0 = σ.1 9 0 ∧ ∀ k : Nat, (k : Int) < σ.1 9 0 → (sImg σ).2 27 k = σ.2 10 k ∧ (sImg σ).2 28 k = σ.2 11 k) ∧ ((sImg σ).1 29 0 = σ.1 12 0 ∧ ∀ k : Nat, (k : Int) < σ.1 12 0 → (sImg σ).2 30 k = σ.2 13 k ∧ (sImg σ).2 31 k = σ.2 14 k) ∧ ((sImg σ).1 32 0 = σ.1 15 0 ∧ ∀ k : Nat, (k : Int) < σ.1 15 0 → (sImg σ).2 33 k = σ.2 16 k ∧ (sImg σ).2 34 k = σ.2 17 k) := by
  obtain ⟨a1, a2, a3, a4, a5, a6⟩ := sC3_spec σ (na := 19) (nb := 2) (wa := 20) (wb := 3) (ma := 21) (mb := 4) (ha := 22) (hb := 5) (by decide) (by decide) (by decide) (by decide) (by decide) (by decide)
  generalize hτ0 : sC3 σ 19 2 20 3 21 4 22 5 = τ0 at *
  have p0 : τ0.1 6 0 = σ.1 6 0 := by rw [a1 6 0 (by omega)]
  obtain ⟨b01, b02, b03, b04⟩ := sC1_spec (τ := τ0) (o := 23) (p := 6) rf_23_1 rf_23_2 rf_6_1 rf_6_2 ln_24 ln_7 ln_8 (by decide) (by decide) (by decide) (by decide) (by decide) (by rw [p0]; exact z0.1) (by rw [p0]; exact z0.2)
  generalize hτ1 : sC1 τ0 23 6 = τ1 at *
  have p1 : τ1.1 9 0 = σ.1 9 0 := by rw [b01 9 0 (by omega), a1 9 0 (by omega)]
  obtain ⟨b11, b12, b13, b14⟩ := sC1_spec (τ := τ1) (o := 26) (p := 9) rf_26_1 rf_26_2 rf_9_1 rf_9_2 ln_27 ln_10 ln_11 (by decide) (by decide) (by decide) (by decide) (by decide) (by rw [p1]; exact z1.1) (by rw [p1]; exact z1.2)
  generalize hτ2 : sC1 τ1 26 9 = τ2 at *
  have p2 : τ2.1 12 0 = σ.1 12 0 := by rw [b11 12 0 (by omega), b01 12 0 (by omega), a1 12 0 (by omega)]
  obtain ⟨b21, b22, b23, b24⟩ := sC1_spec (τ := τ2) (o := 29) (p := 12) rf_29_1 rf_29_2 rf_12_1 rf_12_2 ln_30 ln_13 ln_14 (by decide) (by decide) (by decide) (by decide) (by decide) (by rw [p2]; exact z2.1) (by rw [p2]; exact z2.2)
  generalize hτ3 : sC1 τ2 29 12 = τ3 at *
  have p3 : τ3.1 15 0 = σ.1 15 0 := by rw [b21 15 0 (by omega), b11 15 0 (by omega), b01 15 0 (by omega), a1 15 0 (by omega)]
  obtain ⟨b31, b32, b33, b34⟩ := sC1_spec (τ := τ3) (o := 32) (p := 15) rf_32_1 rf_32_2 rf_15_1 rf_15_2 ln_33 ln_16 ln_17 (by decide) (by decide) (by decide) (by decide) (by decide) (by rw [p3]; exact z3.1) (by rw [p3]; exact z3.2)
  generalize hτ4 : sC1 τ3 32 15 = τ4 at *
  have eτ : sImg σ = τ4 := by
    unfold sImg
    rw [hτ0, hτ1, hτ2, hτ3, hτ4]
  rw [eτ]
  refine ⟨fun q j h => ?_, fun q h => ?_, ?_, fun k hk => ?_, fun k hk => ?_, fun k hk => ?_, ⟨?_, fun k hk => ?_⟩, ⟨?_, fun k hk => ?_⟩, ⟨?_, fun k hk => ?_⟩, ⟨?_, fun k hk => ?_⟩⟩
  · rw [b31 q j (by omega), b21 q j (by omega), b11 q j (by omega), b01 q j (by omega), a1 q j (by omega)]
  · rw [b33 q (by omega) (by omega), b23 q (by omega) (by omega), b13 q (by omega) (by omega), b03 q (by omega) (by omega), a3 q (by omega) (by omega) (by omega)]
  · rw [b31 19 0 (by omega), b21 19 0 (by omega), b11 19 0 (by omega), b01 19 0 (by omega), a2]
  · rw [b33 20 (by omega) (by omega), b23 20 (by omega) (by omega), b13 20 (by omega) (by omega), b03 20 (by omega) (by omega), a4 k hk]
  · rw [b33 21 (by omega) (by omega), b23 21 (by omega) (by omega), b13 21 (by omega) (by omega), b03 21 (by omega) (by omega), a5 k hk]
  · rw [b33 22 (by omega) (by omega), b23 22 (by omega) (by omega), b13 22 (by omega) (by omega), b03 22 (by omega) (by omega), a6 k hk]
  · rw [b31 23 0 (by omega), b21 23 0 (by omega), b11 23 0 (by omega), b02, p0]
  · obtain ⟨w1, w2⟩ := b04 k (by rw [p0]; exact hk)
    rw [b33 24 (by omega) (by omega), b23 24 (by omega) (by omega), b13 24 (by omega) (by omega), b33 25 (by omega) (by omega), b23 25 (by omega) (by omega), b13 25 (by omega) (by omega)]
    rw [w1, w2, a3 7 (by omega) (by omega) (by omega), a3 8 (by omega) (by omega) (by omega)]
    exact ⟨rfl, rfl⟩
  · rw [b31 26 0 (by omega), b21 26 0 (by omega), b12, p1]
  · obtain ⟨w1, w2⟩ := b14 k (by rw [p1]; exact hk)
    rw [b33 27 (by omega) (by omega), b23 27 (by omega) (by omega), b33 28 (by omega) (by omega), b23 28 (by omega) (by omega)]
    rw [w1, w2, b03 10 (by omega) (by omega), a3 10 (by omega) (by omega) (by omega), b03 11 (by omega) (by omega), a3 11 (by omega) (by omega) (by omega)]
    exact ⟨rfl, rfl⟩
  · rw [b31 29 0 (by omega), b22, p2]
  · obtain ⟨w1, w2⟩ := b24 k (by rw [p2]; exact hk)
    rw [b33 30 (by omega) (by omega), b33 31 (by omega) (by omega)]
    rw [w1, w2, b13 13 (by omega) (by omega), b03 13 (by omega) (by omega), a3 13 (by omega) (by omega) (by omega), b13 14 (by omega) (by omega), b03 14 (by omega) (by omega), a3 14 (by omega) (by omega) (by omega)]
    exact ⟨rfl, rfl⟩
  · rw [b32, p3]
  · obtain ⟨w1, w2⟩ := b34 k (by rw [p3]; exact hk)
    rw [w1, w2, b23 16 (by omega) (by omega), b13 16 (by omega) (by omega), b03 16 (by omega) (by omega), a3 16 (by omega) (by omega) (by omega), b23 17 (by omega) (by omega), b13 17 (by omega) (by omega), b03 17 (by omega) (by omega), a3 17 (by omega) (by omega) (by omega)]
    exact ⟨rfl, rfl⟩
/-- what the copy leaves -/
theorem sUnd_spec {σ : oSg} (z0 : 0 ≤ σ.1 23 0 ∧ σ.1 23 0 ≤ 3) (z1 : 0 ≤ σ.1 26 0 ∧ σ.1 26 0 ≤ 5) (z2 : 0 ≤ σ.1 29 0 ∧ σ.1 29 0 ≤ 8) (z3 : 0 ≤ σ.1 32 0 ∧ σ.1 32 0 ≤ 8) : (∀ q j, ¬ ((q = 2 ∨ q = 6 ∨ q = 9 ∨ q = 12 ∨ q = 15) ∧ j = 0) → (sUnd σ).1 q j = σ.1 q j) ∧ (∀ q, ¬ (2 ≤ q ∧ q ≤ 17) → (sUnd σ).2 q = σ.2 q) ∧ (sUnd σ).1 2 0 = σ.1 19 0 ∧ (∀ k, k < 49 → (sUnd σ).2 3 k = σ.2 20 k) ∧ (∀ k, k < 7 → (sUnd σ).2 4 k = σ.2 21 k) ∧ (∀ k, k < 7 → (sUnd σ).2 5 k = σ.2 22 k) ∧ ((sUnd σ).1 6 0 = σ.1 23 0 ∧ ∀ k : Nat, (k : Int) < σ.1 23 0 → (sUnd σ).2 7 k = σ.2 24 k ∧ (sUnd σ).2 8 k = σ.2 25 k) ∧ ((sUnd σ).1 9 0 = σ.1 26 0 ∧ ∀ k : Nat, (k : Int) < σ.1 26 0 → (sUnd σ).2 10 k = σ.2 27 k ∧ (sUnd σ).2 11 k = σ.2 28 k) ∧ ((sUnd σ).1 12 0 = σ.1 29 0 ∧ ∀ k : Nat, (k : Int) < σ.1 29 0 → (sUnd σ).2 13 k = σ.2 30 k ∧ (sUnd σ).2 14 k = σ.2 31 k) ∧ ((sUnd σ).1 15 0 = σ.1 32 0 ∧ ∀ k : Nat, (k : Int) < σ.1 32 0 → (sUnd σ).2 16 k = σ.2 33 k ∧ (sUnd σ).2 17 k = σ.2 34 k) := by
  obtain ⟨a1, a2, a3, a4, a5, a6⟩ := sC3_spec σ (na := 2) (nb := 19) (wa := 3) (wb := 20) (ma := 4) (mb := 21) (ha := 5) (hb := 22) (by decide) (by decide) (by decide) (by decide) (by decide) (by decide)
  generalize hτ0 : sC3 σ 2 19 3 20 4 21 5 22 = τ0 at *
  have p0 : τ0.1 23 0 = σ.1 23 0 := by rw [a1 23 0 (by omega)]
  obtain ⟨b01, b02, b03, b04⟩ := sC1_spec (τ := τ0) (o := 6) (p := 23) rf_6_1 rf_6_2 rf_23_1 rf_23_2 ln_7 ln_24 ln_25 (by decide) (by decide) (by decide) (by decide) (by decide) (by rw [p0]; exact z0.1) (by rw [p0]; exact z0.2)
  generalize hτ1 : sC1 τ0 6 23 = τ1 at *
  have p1 : τ1.1 26 0 = σ.1 26 0 := by rw [b01 26 0 (by omega), a1 26 0 (by omega)]
  obtain ⟨b11, b12, b13, b14⟩ := sC1_spec (τ := τ1) (o := 9) (p := 26) rf_9_1 rf_9_2 rf_26_1 rf_26_2 ln_10 ln_27 ln_28 (by decide) (by decide) (by decide) (by decide) (by decide) (by rw [p1]; exact z1.1) (by rw [p1]; exact z1.2)
  generalize hτ2 : sC1 τ1 9 26 = τ2 at *
  have p2 : τ2.1 29 0 = σ.1 29 0 := by rw [b11 29 0 (by omega), b01 29 0 (by omega), a1 29 0 (by omega)]
  obtain ⟨b21, b22, b23, b24⟩ := sC1_spec (τ := τ2) (o := 12) (p := 29) rf_12_1 rf_12_2 rf_29_1 rf_29_2 ln_13 ln_30 ln_31 (by decide) (by decide) (by decide) (by decide) (by decide) (by rw [p2]; exact z2.1) (by rw [p2]; exact z2.2)
  generalize hτ3 : sC1 τ2 12 29 = τ3 at *
  have p3 : τ3.1 32 0 = σ.1 32 0 := by rw [b21 32 0 (by omega), b11 32 0 (by omega), b01 32 0 (by omega), a1 32 0 (by omega)]
  obtain ⟨b31, b32, b33, b34⟩ := sC1_spec (τ := τ3) (o := 15) (p := 32) rf_15_1 rf_15_2 rf_32_1 rf_32_2 ln_16 ln_33 ln_34 (by decide) (by decide) (by decide) (by decide) (by decide) (by rw [p3]; exact z3.1) (by rw [p3]; exact z3.2)
  generalize hτ4 : sC1 τ3 15 32 = τ4 at *
  have eτ : sUnd σ = τ4 := by
    unfold sUnd
    rw [hτ0, hτ1, hτ2, hτ3, hτ4]
  rw [eτ]
  refine ⟨fun q j h => ?_, fun q h => ?_, ?_, fun k hk => ?_, fun k hk => ?_, fun k hk => ?_, ⟨?_, fun k hk => ?_⟩, ⟨?_, fun k hk => ?_⟩, ⟨?_, fun k hk => ?_⟩, ⟨?_, fun k hk => ?_⟩⟩
  · rw [b31 q j (by omega), b21 q j (by omega), b11 q j (by omega), b01 q j (by omega), a1 q j (by omega)]
  · rw [b33 q (by omega) (by omega), b23 q (by omega) (by omega), b13 q (by omega) (by omega), b03 q (by omega) (by omega), a3 q (by omega) (by omega) (by omega)]
  · rw [b31 2 0 (by omega), b21 2 0 (by omega), b11 2 0 (by omega), b01 2 0 (by omega), a2]
  · rw [b33 3 (by omega) (by omega), b23 3 (by omega) (by omega), b13 3 (by omega) (by omega), b03 3 (by omega) (by omega), a4 k hk]
  · rw [b33 4 (by omega) (by omega), b23 4 (by omega) (by omega), b13 4 (by omega) (by omega), b03 4 (by omega) (by omega), a5 k hk]
  · rw [b33 5 (by omega) (by omega), b23 5 (by omega) (by omega), b13 5 (by omega) (by omega), b03 5 (by omega) (by omega), a6 k hk]
  · rw [b31 6 0 (by omega), b21 6 0 (by omega), b11 6 0 (by omega), b02, p0]
  · obtain ⟨w1, w2⟩ := b04 k (by rw [p0]; exact hk)
    rw [b33 7 (by omega) (by omega), b23 7 (by omega) (by omega), b13 7 (by omega) (by omega), b33 8 (by omega) (by omega), b23 8 (by omega) (by omega), b13 8 (by omega) (by omega)]
    rw [w1, w2, a3 24 (by omega) (by omega) (by omega), a3 25 (by omega) (by omega) (by omega)]
    exact ⟨rfl, rfl⟩
  · rw [b31 9 0 (by omega), b21 9 0 (by omega), b12, p1]
  · obtain ⟨w1, w2⟩ := b14 k (by rw [p1]; exact hk)
    rw [b33 10 (by omega) (by omega), b23 10 (by omega) (by omega), b33 11 (by omega) (by omega), b23 11 (by omega) (by omega)]
    rw [w1, w2, b03 27 (by omega) (by omega), a3 27 (by omega) (by omega) (by omega), b03 28 (by omega) (by omega), a3 28 (by omega) (by omega) (by omega)]
    exact ⟨rfl, rfl⟩
  · rw [b31 12 0 (by omega), b22, p2]
  · obtain ⟨w1, w2⟩ := b24 k (by rw [p2]; exact hk)
    rw [b33 13 (by omega) (by omega), b33 14 (by omega) (by omega)]
    rw [w1, w2, b13 30 (by omega) (by omega), b03 30 (by omega) (by omega), a3 30 (by omega) (by omega) (by omega), b13 31 (by omega) (by omega), b03 31 (by omega) (by omega), a3 31 (by omega) (by omega) (by omega)]
    exact ⟨rfl, rfl⟩
  · rw [b32, p3]
  · obtain ⟨w1, w2⟩ := b34 k (by rw [p3]; exact hk)
    rw [w1, w2, b23 33 (by omega) (by omega), b13 33 (by omega) (by omega), b03 33 (by omega) (by omega), a3 33 (by omega) (by omega) (by omega), b23 34 (by omega) (by omega), b13 34 (by omega) (by omega), b03 34 (by omega) (by omega), a3 34 (by omega) (by omega) (by omega)]
    exact ⟨rfl, rfl⟩
theorem c_image {σ : oSg} (H : Inv σ) {d : Nat} (hd : 20 ≤ d) : Both d 126 218 [] σ := by
  obtain ⟨HA, HK, HT, HP⟩ := id H
  have x := m_X_image (d := d) (σ := σ) (hz_of H) (by omega)
  have o := IA_o HA
  have s := IA_s HA
  have e := IA_e HA
  have b := IA_b HA
  obtain ⟨i1, i2, i3, i4, i5, i6, ⟨o1, o2⟩, ⟨s1, s2⟩, ⟨v1, v2⟩, b1, b2⟩ := sImg_spec (σ := σ) (by rw [o.1.1]; exact ⟨o.2.1, o.2.2.1⟩) (by rw [s.1.1]; exact ⟨s.2.1, s.2.2.1⟩) (by rw [e.1.1]; exact e.2) (by rw [b.1.1]; exact ⟨b.2.1, b.2.2.1⟩)
  have y := m_M_image (d := d) (σ := oSF (sImg σ) 0 2 1) (by omega)
  have q69 : (oSF (sImg σ) 0 2 1).2 69 = σ.2 69 := i2 69 (by omega)
  rw [q69] at y
  refine Both_i x y ?_ ?_
  · show (oSF (sImg σ) 0 2 1).1 2 0 = _
    rw [oSF_o _ _ (by omega), i1 2 0 (by omega), vw_n HA]
  · generalize hυ : oSF (oCp (oSF (sImg σ) 0 2 1) 69 0 70 0 116) 68 3 1 = υ
    have f : ∀ q, ¬ (q = 19 ∨ q = 23 ∨ q = 26 ∨ q = 29 ∨ q = 32) → υ.1 q 0 = σ.1 q 0 := fun q h => by
      rw [← hυ, oSF_o _ _ (by omega), oCp_1, oSF_o _ _ (by omega), i1 q 0 (by omega)]
    have f' : ∀ q, υ.1 q 0 = (sImg σ).1 q 0 := fun q => by
      rw [← hυ, oSF_o _ _ (by omega), oCp_1, oSF_o _ _ (by omega)]
    have r' : ∀ q, ¬ q = 70 → υ.2 q = (sImg σ).2 q := fun q h => by
      rw [← hυ, oSF_2, oCp_ne _ h, oSF_2]
    have r : ∀ q, ¬ q = 70 → ¬ (19 ≤ q ∧ q ≤ 34) → υ.2 q = σ.2 q := fun q h1 h2 => by rw [r' q h1, i2 q h2]
    have r70 : ∀ k, k < 116 → υ.2 70 k = σ.2 69 k := fun k hk => by
      rw [← hυ, oSF_2]
      have := oCp_at (oSF (sImg σ) 0 2 1) (a := 69) (b := 70) (n := 116) k
      rw [if_pos hk, q69] at this
      exact this
    have k3 : υ.1 68 3 = 1 := by rw [← hυ]; exact oSF_s _ _ _ _
    have k2 : υ.1 0 2 = 1 := by
      rw [← hυ, oSF_o _ _ (by omega), oCp_1]
      exact oSF_s _ _ _ _
    have k6 : υ.1 68 6 = σ.1 68 6 := by rw [← hυ, oSF_o _ _ (by omega), oCp_1, oSF_o _ _ (by omega), i1 68 6 (by omega)]
    refine ⟨IA_g (fun q hq => f q (by omega)) (fun q hq => r q (by omega) (by omega)) (fun k _ => by rw [r 69 (by omega) (by omega)]) HA, ?_, IT_g (f 35 (by omega)) k6 (r 36 (by omega) (by omega)) (r 72 (by omega) (by omega)) HT, IP_g (fun q hq => r q (by omega) (by omega)) HP⟩
    have GHn : GH (υ.2 70) := GH_ext r70 HA.2
    refine ⟨by rw [k3, k2], Or.inr ⟨?_, GHn⟩, ?_, ?_, ?_, ?_⟩
    · unfold RH
      rw [r70 0 (by omega), r70 64 (by omega), r70 71 (by omega), r70 82 (by omega), r70 99 (by omega)]
      refine ⟨?_, fun k hk => ?_, fun p hp => ?_, fun p hp => ?_, ⟨?_, fun k hk => ?_⟩, ⟨?_, fun k hk => ?_⟩, ⟨?_, fun k hk => ?_⟩, ?_, fun k hk => ?_⟩
      · rw [f' 19, i3, vw_n HA]
      · rw [r' 20 (by omega), i4 k hk, r70 _ (by omega)]
        exact (IA_w HA).1 k hk
      · rw [r' 21 (by omega), i5 p hp, r70 _ (by omega)]
        exact (IA_m HA).1 p hp
      · rw [r' 22 (by omega), i6 p hp, r70 _ (by omega)]
        exact (IA_h HA).1 p hp
      · rw [f' 23, o1, o.1.1]
      · have := o.2.2.1
        obtain ⟨w1, w2⟩ := o2 k (by rw [o.1.1]; exact hk)
        rw [r' 24 (by omega), r' 25 (by omega), w1, w2, r70 _ (by omega), r70 _ (by omega)]
        exact o.1.2 k hk
      · rw [f' 26, s1, s.1.1]
      · have := s.2.2.1
        obtain ⟨w1, w2⟩ := s2 k (by rw [s.1.1]; exact hk)
        rw [r' 27 (by omega), r' 28 (by omega), w1, w2, r70 _ (by omega), r70 _ (by omega)]
        exact s.1.2 k hk
      · rw [f' 29, v1, e.1.1]
      · have := e.2.2
        obtain ⟨w1, w2⟩ := v2 k (by rw [e.1.1]; exact hk)
        rw [r' 30 (by omega), r' 31 (by omega), w1, w2, r70 _ (by omega), r70 _ (by omega)]
        exact e.1.2 k hk
      · rw [f' 32, b1, b.1.1]
      · have := b.2.2.1
        obtain ⟨w1, w2⟩ := b2 k (by rw [b.1.1]; exact hk)
        rw [r' 33 (by omega), r' 34 (by omega), w1, w2, r70 _ (by omega), r70 _ (by omega)]
        exact b.1.2 k hk
    · rw [f' 23, o1, o.1.1]; have := o.2.1; have := o.2.2.1; omega
    · rw [f' 26, s1, s.1.1]; have := s.2.1; have := s.2.2.1; omega
    · rw [f' 29, v1, e.1.1]; exact e.2
    · rw [f' 32, b1, b.1.1]; have := b.2.1; have := b.2.2.1; omega
theorem c_undo {σ : oSg} (H : Inv σ) {d : Nat} (hd : 20 ≤ d) : Both d 129 219 [] σ := by
  obtain ⟨HA, HK, HT, HP⟩ := id H
  have x := m_X_undo (d := d) (σ := σ) (hz_of H) (by omega)
  unfold xUndo at x
  have y0 := m_M_undo (d := d) (σ := σ) (by omega)
  unfold yUndo at y0
  obtain ⟨k1, k2, -⟩ := id HK
  by_cases c : σ.1 0 2 = 0
  · rw [if_pos c] at x
    rw [if_pos (by omega)] at y0
    exact Both_i x y0 rfl H
  · rw [if_neg c] at x
    obtain ⟨R, G⟩ := k2.resolve_left c
    obtain ⟨ra, rw', rm, rh, ⟨ro1, ro2⟩, ⟨rs1, rs2⟩, ⟨rv1, rv2⟩, rb1, rb2⟩ := id R
    change σ.1 23 0 = _ at ro1
    change σ.1 26 0 = _ at rs1
    change σ.1 29 0 = _ at rv1
    change σ.1 32 0 = _ at rb1
    obtain ⟨ga, gw, gm, gh, go, gs, gv, gb⟩ := id G
    obtain ⟨i1, i2, i3, i4, i5, i6, ⟨o1, o2⟩, ⟨s1, s2⟩, ⟨v1, v2⟩, b1, b2⟩ := sUnd_spec (σ := σ) (by rw [ro1]; exact ⟨go.1, go.2.1⟩) (by rw [rs1]; exact ⟨gs.1, gs.2.1⟩) (by rw [rv1]; exact gv) (by rw [rb1]; exact ⟨gb.1, gb.2.1⟩)
    have y := m_M_undo (d := d) (σ := sUnd σ) (by omega)
    unfold yUndo at y
    have q3 : (sUnd σ).1 68 3 = σ.1 68 3 := i1 68 3 (by omega)
    have q70 : (sUnd σ).2 70 = σ.2 70 := i2 70 (by omega)
    rw [q3, if_neg (by omega), q70] at y
    refine Both_i x y ?_ ?_
    · rw [i3]
      exact ra
    · generalize hυ : oCp (sUnd σ) 70 0 69 0 116 = υ
      have f : ∀ q j, υ.1 q j = (sUnd σ).1 q j := fun q j => by rw [← hυ]; rfl
      have r : ∀ q, ¬ q = 69 → υ.2 q = (sUnd σ).2 q := fun q h => by rw [← hυ, oCp_ne _ h]
      have r69 : ∀ k, k < 116 → υ.2 69 k = σ.2 70 k := fun k hk => by
        rw [← hυ]
        have := oCp_at (sUnd σ) (a := 70) (b := 69) (n := 116) k
        rw [if_pos hk, q70] at this
        exact this
      have GHn : GH (υ.2 69) := GH_ext r69 G
      refine ⟨⟨?_, GHn⟩, IK_g (by rw [f, i1 0 2 (by omega)]) (fun q h1 h2 => by rw [f, i1 q 0 (by omega)]) (fun q h1 h2 => by rw [r q (by omega), i2 q (by omega)]) (by rw [r 70 (by decide), q70]) (by rw [f, q3]) HK, IT_g (by rw [f, i1 35 0 (by omega)]) (by rw [f, i1 68 6 (by omega)]) (by rw [r 36 (by decide), i2 36 (by omega)]) (by rw [r 72 (by decide), i2 72 (by omega)]) HT, IP_g (fun q hq => by rw [r q (by omega), i2 q (by omega)]) HP⟩
      unfold RH
      rw [r69 0 (by omega), r69 64 (by omega), r69 71 (by omega), r69 82 (by omega), r69 99 (by omega)]
      refine ⟨?_, fun k hk => ?_, fun p hp => ?_, fun p hp => ?_, ⟨?_, fun k hk => ?_⟩, ⟨?_, fun k hk => ?_⟩, ⟨?_, fun k hk => ?_⟩, ?_, fun k hk => ?_⟩
      · rw [f, i3]
        exact ra
      · rw [r 3 (by omega), i4 k hk, r69 _ (by omega)]
        exact rw' k hk
      · rw [r 4 (by omega), i5 p hp, r69 _ (by omega)]
        exact rm p hp
      · rw [r 5 (by omega), i6 p hp, r69 _ (by omega)]
        exact rh p hp
      · rw [f, o1, ro1]
      · have := go.2.1
        obtain ⟨w1, w2⟩ := o2 k (by rw [ro1]; exact hk)
        rw [r 7 (by omega), r 8 (by omega), w1, w2, r69 _ (by omega), r69 _ (by omega)]
        exact ro2 k hk
      · rw [f, s1, rs1]
      · have := gs.2.1
        obtain ⟨w1, w2⟩ := s2 k (by rw [rs1]; exact hk)
        rw [r 10 (by omega), r 11 (by omega), w1, w2, r69 _ (by omega), r69 _ (by omega)]
        exact rs2 k hk
      · rw [f, v1, rv1]
      · have := gv.2
        obtain ⟨w1, w2⟩ := v2 k (by rw [rv1]; exact hk)
        rw [r 13 (by omega), r 14 (by omega), w1, w2, r69 _ (by omega), r69 _ (by omega)]
        exact rv2 k hk
      · rw [f, b1, rb1]
      · have := gb.2.1
        obtain ⟨w1, w2⟩ := b2 k (by rw [rb1]; exact hk)
        rw [r 16 (by omega), r 17 (by omega), w1, w2, r69 _ (by omega), r69 _ (by omega)]
        exact rb2 k hk

