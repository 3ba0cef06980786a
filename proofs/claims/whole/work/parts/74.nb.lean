/-! Pieces of the relation -/
def PO (σ : oSg) : Prop := (σ.1 6 0 = σ.2 69 64 ∧ ∀ k : Nat, (k : Int) < σ.2 69 64 → σ.2 7 k = σ.2 69 (65 + k) ∧ σ.2 8 k = σ.2 69 (68 + k)) ∧ GO (σ.2 69)
def PS (σ : oSg) : Prop := (σ.1 9 0 = σ.2 69 71 ∧ ∀ k : Nat, (k : Int) < σ.2 69 71 → σ.2 10 k = σ.2 69 (72 + k) ∧ σ.2 11 k = σ.2 69 (77 + k)) ∧ (0 ≤ σ.2 69 71 ∧ σ.2 69 71 ≤ 5 ∧ ∀ k : Nat, (k : Int) < σ.2 69 71 → 0 ≤ σ.2 69 (72 + k) ∧ σ.2 69 (72 + k) < 7)
def PE (σ : oSg) : Prop := (σ.1 12 0 = σ.2 69 82 ∧ ∀ k : Nat, (k : Int) < σ.2 69 82 → σ.2 13 k = σ.2 69 (83 + k) ∧ σ.2 14 k = σ.2 69 (91 + k)) ∧ (0 ≤ σ.2 69 82 ∧ σ.2 69 82 ≤ 8)
def PB (σ : oSg) : Prop := (σ.1 15 0 = σ.2 69 99 ∧ ∀ k : Nat, (k : Int) < σ.2 69 99 → σ.2 16 k = σ.2 69 (100 + k) ∧ σ.2 17 k = σ.2 69 (108 + k)) ∧ (0 ≤ σ.2 69 99 ∧ σ.2 69 99 ≤ 8 ∧ ∀ k : Nat, (k : Int) < σ.2 69 99 → 0 ≤ σ.2 69 (100 + k) ∧ σ.2 69 (100 + k) < 7)
def PN (σ : oSg) : Prop := σ.1 2 0 = σ.2 69 0 ∧ 0 ≤ σ.2 69 0 ∧ σ.2 69 0 ≤ 7
def PW (σ : oSg) : Prop := (∀ k, k < 49 → σ.2 3 k = σ.2 69 (1 + k)) ∧ GW (σ.2 69 0) (nW (gW (σ.2 69)))
def PM (σ : oSg) : Prop := (∀ p, p < 7 → σ.2 4 p = σ.2 69 (50 + p)) ∧ GM (σ.2 69 0) (nW (gW (σ.2 69))) (nM (gM (σ.2 69)))
def PH (σ : oSg) : Prop := (∀ p, p < 7 → σ.2 5 p = σ.2 69 (57 + p)) ∧ ∀ p : Nat, p < 7 → 0 ≤ σ.2 69 (57 + p) ∧ σ.2 69 (57 + p) ≤ 60
theorem IA_of {σ : oSg} (n : PN σ) (w : PW σ) (m : PM σ) (h : PH σ) (o : PO σ) (s : PS σ) (e : PE σ) (b : PB σ) : IA σ := ⟨⟨n.1, w.1, m.1, h.1, o.1, s.1, e.1, b.1⟩, n.2, w.2, m.2, h.2, o.2, s.2, e.2, b.2⟩
theorem IA_n {σ : oSg} (H : IA σ) : PN σ := ⟨H.1.1, H.2.1⟩
theorem IA_w {σ : oSg} (H : IA σ) : PW σ := ⟨H.1.2.1, H.2.2.1⟩
theorem IA_m {σ : oSg} (H : IA σ) : PM σ := ⟨H.1.2.2.1, H.2.2.2.1⟩
theorem IA_h {σ : oSg} (H : IA σ) : PH σ := ⟨H.1.2.2.2.1, H.2.2.2.2.1⟩
theorem IA_o {σ : oSg} (H : IA σ) : PO σ := ⟨H.1.2.2.2.2.1, H.2.2.2.2.2.1⟩
theorem IA_s {σ : oSg} (H : IA σ) : PS σ := ⟨H.1.2.2.2.2.2.1, H.2.2.2.2.2.2.1⟩
theorem IA_e {σ : oSg} (H : IA σ) : PE σ := ⟨H.1.2.2.2.2.2.2.1, H.2.2.2.2.2.2.2.1⟩
theorem IA_b {σ : oSg} (H : IA σ) : PB σ := ⟨H.1.2.2.2.2.2.2.2, H.2.2.2.2.2.2.2.2⟩
section PFR
variable {σ τ : oSg}
theorem PN_fr (e1 : τ.1 2 0 = σ.1 2 0) (e : τ.2 69 0 = σ.2 69 0) (H : PN σ) : PN τ := by
  unfold PN
  rw [e1, e]
  exact H
theorem gW_fr (e : ∀ k, 1 ≤ k → k < 50 → τ.2 69 k = σ.2 69 k) : nW (gW (τ.2 69)) = nW (gW (σ.2 69)) := nWf_ext (fun k hk => e (1 + k) (by omega) (by omega))
theorem gM_fr (e : ∀ k, 50 ≤ k → k < 57 → τ.2 69 k = σ.2 69 k) : nM (gM (τ.2 69)) = nM (gM (σ.2 69)) := nMf_ext (fun k hk => e (50 + k) (by omega) (by omega))
theorem PW_fr (e3 : τ.2 3 = σ.2 3) (e0 : τ.2 69 0 = σ.2 69 0) (e : ∀ k, 1 ≤ k → k < 50 → τ.2 69 k = σ.2 69 k) (H : PW σ) : PW τ := by
  refine ⟨fun k hk => ?_, ?_⟩
  · rw [e3, e _ (by omega) (by omega)]
    exact H.1 k hk
  · rw [gW_fr e, e0]
    exact H.2
theorem PM_fr (e4 : τ.2 4 = σ.2 4) (e0 : τ.2 69 0 = σ.2 69 0) (e : ∀ k, 1 ≤ k → k < 57 → τ.2 69 k = σ.2 69 k) (H : PM σ) : PM τ := by
  refine ⟨fun k hk => ?_, ?_⟩
  · rw [e4, e _ (by omega) (by omega)]
    exact H.1 k hk
  · rw [gW_fr (fun k h1 h2 => e k h1 (by omega)), gM_fr (fun k h1 h2 => e k (by omega) h2), e0]
    exact H.2
theorem PH_fr (e5 : τ.2 5 = σ.2 5) (e : ∀ k, 57 ≤ k → k < 64 → τ.2 69 k = σ.2 69 k) (H : PH σ) : PH τ := by
  refine ⟨fun k hk => ?_, fun k hk => ?_⟩
  · rw [e5, e _ (by omega) (by omega)]
    exact H.1 k hk
  · rw [e _ (by omega) (by omega)]
    exact H.2 k hk
theorem PO_fr (e1 : τ.1 6 0 = σ.1 6 0) (e7 : τ.2 7 = σ.2 7) (e8 : τ.2 8 = σ.2 8) (e : ∀ k, 64 ≤ k → k < 71 → τ.2 69 k = σ.2 69 k) (H : PO σ) : PO τ := by
  obtain ⟨⟨h1, h2⟩, h3, h4, h5⟩ := H
  have e64 := e 64 (by omega) (by omega)
  refine ⟨⟨by rw [e1, e64, h1], fun k hk => ?_⟩, by rw [e64]; exact h3, by rw [e64]; exact h4, fun k hk => ?_⟩
  · rw [e64] at hk
    rw [e7, e8, e (65 + k) (by omega) (by omega), e (68 + k) (by omega) (by omega)]
    exact h2 k hk
  · rw [e64] at hk
    rw [e (65 + k) (by omega) (by omega), e (68 + k) (by omega) (by omega)]
    exact h5 k hk
theorem PS_fr (e1 : τ.1 9 0 = σ.1 9 0) (e7 : τ.2 10 = σ.2 10) (e8 : τ.2 11 = σ.2 11) (e : ∀ k, 71 ≤ k → k < 82 → τ.2 69 k = σ.2 69 k) (H : PS σ) : PS τ := by
  obtain ⟨⟨h1, h2⟩, h3, h4, h5⟩ := H
  have e64 := e 71 (by omega) (by omega)
  refine ⟨⟨by rw [e1, e64, h1], fun k hk => ?_⟩, by rw [e64]; exact h3, by rw [e64]; exact h4, fun k hk => ?_⟩
  · rw [e64] at hk
    rw [e7, e8, e (72 + k) (by omega) (by omega), e (77 + k) (by omega) (by omega)]
    exact h2 k hk
  · rw [e64] at hk
    rw [e (72 + k) (by omega) (by omega)]
    exact h5 k hk
theorem PE_fr (e1 : τ.1 12 0 = σ.1 12 0) (e7 : τ.2 13 = σ.2 13) (e8 : τ.2 14 = σ.2 14) (e : ∀ k, 82 ≤ k → k < 99 → τ.2 69 k = σ.2 69 k) (H : PE σ) : PE τ := by
  obtain ⟨⟨h1, h2⟩, h3, h4⟩ := H
  have e64 := e 82 (by omega) (by omega)
  refine ⟨⟨by rw [e1, e64, h1], fun k hk => ?_⟩, by rw [e64]; exact h3, by rw [e64]; exact h4⟩
  rw [e64] at hk
  rw [e7, e8, e (83 + k) (by omega) (by omega), e (91 + k) (by omega) (by omega)]
  exact h2 k hk
theorem PB_fr (e1 : τ.1 15 0 = σ.1 15 0) (e7 : τ.2 16 = σ.2 16) (e8 : τ.2 17 = σ.2 17) (e : ∀ k, 99 ≤ k → k < 116 → τ.2 69 k = σ.2 69 k) (H : PB σ) : PB τ := by
  obtain ⟨⟨h1, h2⟩, h3, h4, h5⟩ := H
  have e64 := e 99 (by omega) (by omega)
  refine ⟨⟨by rw [e1, e64, h1], fun k hk => ?_⟩, by rw [e64]; exact h3, by rw [e64]; exact h4, fun k hk => ?_⟩
  · rw [e64] at hk
    rw [e7, e8, e (100 + k) (by omega) (by omega), e (108 + k) (by omega) (by omega)]
    exact h2 k hk
  · rw [e64] at hk
    rw [e (100 + k) (by omega) (by omega)]
    exact h5 k hk
end PFR
/-! calls: people, halves -/
theorem Fh_SF (σ : oSg) {a k : Nat} (v : Int) (h : ¬ (a = 0 ∨ (18 ≤ a ∧ a ≤ 34) ∨ (a = 35 ∧ k = 0) ∨ (a = 68 ∧ (k = 3 ∨ k = 6)))) : Fh σ (oSF σ a k v) := ⟨fun _ _ => rfl, fun q j hq => oSF_o _ _ (fun z => h (by obtain ⟨rfl, rfl⟩ := z; exact hq))⟩
theorem Fh_SA (σ : oSg) {a i : Nat} (v : Int) (h : ¬ ((18 ≤ a ∧ a ≤ 55) ∨ a = 70 ∨ a = 72 ∨ (79 ≤ a ∧ a ≤ 87))) : Fh σ (oSA σ a i v) := ⟨fun q hq => oSA_ne _ _ _ (fun z => h (by rw [← z]; exact hq)), fun _ _ _ => rfl⟩
theorem Fh_SW (σ : oSg) {a : Nat} (g : Nat → Int) (h : ¬ ((18 ≤ a ∧ a ≤ 55) ∨ a = 70 ∨ a = 72 ∨ (79 ≤ a ∧ a ≤ 87))) : Fh σ (oSW σ a g) := ⟨fun q hq => oSW_ne _ (fun z => h (by rw [← z]; exact hq)) _, fun _ _ _ => rfl⟩
theorem Fh_r (σ : oSg) : Fh σ σ := ⟨fun _ _ => rfl, fun _ _ _ => rfl⟩
theorem GW_more {n : Int} {W : Int → Int → Int} (h : GW n W) : GW (n + 1) W := ⟨h.1, h.2.1, h.2.2.1, fun i j hi => h.2.2.2 i j (by omega)⟩
theorem GM_more {n : Int} {W : Int → Int → Int} {M : Int → Int} (h : GM n W M) : GM (n + 1) W M := ⟨h.1, fun p hp => by
  obtain ⟨⟨a, b⟩, c⟩ := h.2 p hp
  exact ⟨⟨by omega, by omega⟩, c⟩⟩
theorem IA_person {σ : oSg} (H : IA σ) (h : ¬ σ.2 69 0 = 7) : IA (oSA (oSF σ 2 0 (σ.1 2 0 + 1)) 69 0 (σ.2 69 0 + 1)) := by
  have hn := vw_n H
  have b0 := H.2.1.1
  have b7 := H.2.1.2
  have e0 : (oSA (oSF σ 2 0 (σ.1 2 0 + 1)) 69 0 (σ.2 69 0 + 1)).2 69 0 = σ.2 69 0 + 1 := oSA_s _ _ _ _
  have e : ∀ k, 1 ≤ k → (oSA (oSF σ 2 0 (σ.1 2 0 + 1)) 69 0 (σ.2 69 0 + 1)).2 69 k = σ.2 69 k := fun k hk => oSA_i _ _ (by omega)
  have r : ∀ q, ¬ q = 69 → (oSA (oSF σ 2 0 (σ.1 2 0 + 1)) 69 0 (σ.2 69 0 + 1)).2 q = σ.2 q := fun q hq => oSA_ne _ _ _ hq
  have f : ∀ q j, ¬ q = 2 → (oSA (oSF σ 2 0 (σ.1 2 0 + 1)) 69 0 (σ.2 69 0 + 1)).1 q j = σ.1 q j := fun q j hq => oSF_o _ _ (fun z => hq z.1)
  refine IA_of ⟨?_, ?_, ?_⟩ ⟨fun k hk => ?_, ?_⟩ ⟨fun k hk => ?_, ?_⟩ (PH_fr (r 5 (by decide)) (fun k h1 _ => e k (by omega)) (IA_h H)) (PO_fr (f 6 0 (by decide)) (r 7 (by decide)) (r 8 (by decide)) (fun k h1 _ => e k (by omega)) (IA_o H)) (PS_fr (f 9 0 (by decide)) (r 10 (by decide)) (r 11 (by decide)) (fun k h1 _ => e k (by omega)) (IA_s H)) (PE_fr (f 12 0 (by decide)) (r 13 (by decide)) (r 14 (by decide)) (fun k h1 _ => e k (by omega)) (IA_e H)) (PB_fr (f 15 0 (by decide)) (r 16 (by decide)) (r 17 (by decide)) (fun k h1 _ => e k (by omega)) (IA_b H))
  · rw [e0, ← hn]
    exact oSF_s σ 2 0 (σ.1 2 0 + 1)
  · rw [e0]; omega
  · rw [e0]; omega
  · rw [r 3 (by decide), e _ (by omega)]
    exact (IA_w H).1 k hk
  · rw [gW_fr (fun k h1 _ => e k h1), e0]
    exact GW_more (IA_w H).2
  · rw [r 4 (by decide), e _ (by omega)]
    exact (IA_m H).1 k hk
  · rw [gW_fr (fun k h1 _ => e k h1), gM_fr (fun k h1 _ => e k (by omega)), e0]
    exact GM_more (IA_m H).2
theorem Both_i {d zx zm : Nat} {as : List oV} {σ τ υ : oSg} {a b : Int} (x : oMi d zx (.inr (.inr (.inl 0)) :: as) σ (some (.inl a)) τ) (y : oMi d zm (.inr (.inr (.inl 68)) :: as) τ (some (.inl b)) υ) (e : a = b) (H : Inv υ) : Both d zx zm as σ := by
  subst e
  exact ⟨_, _, _, x, y, H⟩
theorem Both_j {d zx zm : Nat} {as : List oV} {σ τ υ : oSg} {a b : Int} (x : oMi d zx (.inr (.inr (.inl 0)) :: as) σ (some (.inr (.inl a))) τ) (y : oMi d zm (.inr (.inr (.inl 68)) :: as) τ (some (.inr (.inl b))) υ) (e : a = b) (H : Inv υ) : Both d zx zm as σ := by
  subst e
  exact ⟨_, _, _, x, y, H⟩
theorem c_person {σ : oSg} (H : Inv σ) {d : Nat} (hd : 20 ≤ d) : Both d 12 142 [] σ := by
  have HA := H.1
  have hn := vw_n HA
  have x := m_X_person (d := d) (vw_0 HA) (vw_7 HA) (by omega)
  have b7 := HA.2.1.2
  have b0 := HA.2.1.1
  unfold xPerson at x
  by_cases h : σ.2 69 0 = 7
  · rw [if_pos (by omega)] at x
    have y := m_M_person (d := d) (σ := σ) b0 b7 (by omega)
    unfold yPerson at y
    rw [if_pos h] at y
    exact ⟨_, _, _, x, y, H⟩
  · rw [if_neg (by omega)] at x
    have y := m_M_person (d := d) (σ := oSF σ 2 0 (σ.1 2 0 + 1)) b0 b7 (by omega)
    unfold yPerson at y
    rw [oSF_2, if_neg h] at y
    exact Both_i x y hn (Inv_h H (Fh_t (Fh_SF σ _ (by decide)) (Fh_SA _ _ (by decide))) (IA_person HA h))
theorem c_of {σ : oSg} (H : Inv σ) {d : Nat} (hd : 20 ≤ d) (i j : Int) : Both d 20 151 [.inl i, .inl j] σ := by
  have HA := H.1
  have x := m_X_of (d := d) (σ := σ) (i := i) (j := j) (by omega)
  have y := m_M_of (d := d) (σ := σ) (i := i) (j := j) HA.2.1.1 HA.2.1.2 (by omega)
  unfold xOf at x
  unfold yOf at y
  rw [vw_n HA, vw_W HA] at x
  exact ⟨_, _, _, x, y, H⟩
theorem c_partner {σ : oSg} (H : Inv σ) {d : Nat} (hd : 20 ≤ d) (p : Int) : Both d 50 165 [.inl p] σ := by
  have HA := H.1
  have x := m_X_partner (d := d) (σ := σ) (p := p) (by omega)
  have y := m_M_partner (d := d) (σ := σ) (p := p) HA.2.1.1 HA.2.1.2 (by omega)
  unfold xPartner at x
  unfold yPartner at y
  rw [vw_n HA, vw_M HA] at x
  have m := vw_m HA p
  have e : (if nM (gM (σ.2 69)) p < 0 then (-5 : Int) else nM (gM (σ.2 69)) p) = if nM (gM (σ.2 69)) p = -1 then -5 else nM (gM (σ.2 69)) p := by
    by_cases h : nM (gM (σ.2 69)) p = -1
    · rw [if_pos h, if_pos (by omega)]
    · rw [if_neg h, if_neg (by omega)]
  rw [e] at x
  exact ⟨_, _, _, x, y, H⟩
theorem c_count {σ : oSg} (H : Inv σ) {d : Nat} (hd : 20 ≤ d) (w : Int) : Both d 130 220 [.inl w] σ := by
  have HA := H.1
  have x := m_X_count (d := d) (σ := σ) (w := w) (by omega)
  have y := m_M_count (d := d) (σ := σ) (w := w) (by omega)
  unfold xCount at x
  unfold yCount at y
  rw [(IA_o HA).1.1, (IA_s HA).1.1, (IA_e HA).1.1, (IA_b HA).1.1, ← H.2.2.1.2.1] at x
  exact ⟨_, _, _, x, y, H⟩

