/-! The relation of the class and the model -/
def RH (σ : oSg) (o : Nat) (g : Nat → Int) : Prop :=
  σ.1 (2 + o) 0 = g 0 ∧ (∀ k, k < 49 → σ.2 (3 + o) k = g (1 + k)) ∧ (∀ p, p < 7 → σ.2 (4 + o) p = g (50 + p)) ∧ (∀ p, p < 7 → σ.2 (5 + o) p = g (57 + p)) ∧
  (σ.1 (6 + o) 0 = g 64 ∧ ∀ k : Nat, (k : Int) < g 64 → σ.2 (7 + o) k = g (65 + k) ∧ σ.2 (8 + o) k = g (68 + k)) ∧
  (σ.1 (9 + o) 0 = g 71 ∧ ∀ k : Nat, (k : Int) < g 71 → σ.2 (10 + o) k = g (72 + k) ∧ σ.2 (11 + o) k = g (77 + k)) ∧
  (σ.1 (12 + o) 0 = g 82 ∧ ∀ k : Nat, (k : Int) < g 82 → σ.2 (13 + o) k = g (83 + k) ∧ σ.2 (14 + o) k = g (91 + k)) ∧
  (σ.1 (15 + o) 0 = g 99 ∧ ∀ k : Nat, (k : Int) < g 99 → σ.2 (16 + o) k = g (100 + k) ∧ σ.2 (17 + o) k = g (108 + k))
/-- a net of weights among n people -/
def GW (n : Int) (W : Int → Int → Int) : Prop := (∀ i j, 0 ≤ W i j ∧ W i j ≤ 20) ∧ (∀ i j, W i j = W j i) ∧ (∀ i, W i i = 0) ∧ (∀ i j, n ≤ i → W i j = 0)
/-- partners -/
def GM (n : Int) (W : Int → Int → Int) (M : Int → Int) : Prop := (∀ p, -1 ≤ M p ∧ M p < 7) ∧ ∀ p, 0 ≤ M p → (M p < n ∧ p < n) ∧ M (M p) = p ∧ 0 < W p (M p)
def GO (g : Nat → Int) : Prop := (0 ≤ g 64 ∧ g 64 ≤ 3 ∧ ∀ k : Nat, (k : Int) < g 64 → (0 ≤ g (65 + k) ∧ g (65 + k) < 128 ∧ nSz (g (65 + k)).toNat % 2 = 1) ∧ 0 ≤ g (68 + k) ∧ g (68 + k) ≤ 40)
def GH (g : Nat → Int) : Prop :=
  (0 ≤ g 0 ∧ g 0 ≤ 7) ∧ GW (g 0) (nW (gW g)) ∧ GM (g 0) (nW (gW g)) (nM (gM g)) ∧ (∀ p : Nat, p < 7 → 0 ≤ g (57 + p) ∧ g (57 + p) ≤ 60) ∧ GO g ∧
  (0 ≤ g 71 ∧ g 71 ≤ 5 ∧ ∀ k : Nat, (k : Int) < g 71 → 0 ≤ g (72 + k) ∧ g (72 + k) < 7) ∧ (0 ≤ g 82 ∧ g 82 ≤ 8) ∧ (0 ≤ g 99 ∧ g 99 ≤ 8 ∧ ∀ k : Nat, (k : Int) < g 99 → 0 ≤ g (100 + k) ∧ g (100 + k) < 7)
def IA (σ : oSg) : Prop := RH σ 0 (σ.2 69) ∧ GH (σ.2 69)
def IK (σ : oSg) : Prop := σ.1 68 3 = σ.1 0 2 ∧ (σ.1 0 2 = 0 ∨ (RH σ 17 (σ.2 70) ∧ GH (σ.2 70))) ∧ (0 ≤ σ.1 23 0 ∧ σ.1 23 0 ≤ 8) ∧ (0 ≤ σ.1 26 0 ∧ σ.1 26 0 ≤ 8) ∧ (0 ≤ σ.1 29 0 ∧ σ.1 29 0 ≤ 8) ∧ (0 ≤ σ.1 32 0 ∧ σ.1 32 0 ≤ 8)
def IT (σ : oSg) : Prop := (0 ≤ σ.1 35 0 ∧ σ.1 35 0 ≤ 100) ∧ σ.1 68 6 = σ.1 35 0 ∧ ∀ k : Nat, (k : Int) < σ.1 35 0 → σ.2 36 k = σ.2 72 k
def IP (σ : oSg) : Prop := ∀ t, t < 6 → σ.2 52 t = σ.2 79 t ∧ σ.2 53 t = σ.2 80 t ∧ (0 ≤ σ.2 53 t ∧ σ.2 53 t ≤ 60) ∧ (-1 ≤ σ.2 52 t ∧ σ.2 52 t ≤ 4) ∧ (σ.2 52 t = -1 → σ.2 53 t = 0) ∧ ∀ k : Nat, (k : Int) < σ.2 53 t → σ.2 54 (t * 60 + k) = σ.2 (82 + t) k
def Inv (σ : oSg) : Prop := IA σ ∧ IK σ ∧ IT σ ∧ IP σ
/-- what is asked leaves these alone -/
def Fr (σ τ : oSg) : Prop := (∀ q, q ≤ 55 ∨ q = 70 ∨ q = 72 ∨ (79 ≤ q ∧ q ≤ 87) → τ.2 q = σ.2 q) ∧ (∀ k, k < 116 → τ.2 69 k = σ.2 69 k) ∧ ∀ q j, q ≤ 34 ∨ (q = 35 ∧ j = 0) ∨ (q = 68 ∧ (j = 3 ∨ j = 6)) → τ.1 q j = σ.1 q j
theorem Fr_r (σ : oSg) : Fr σ σ := ⟨fun _ _ => rfl, fun _ _ => rfl, fun _ _ _ => rfl⟩
theorem Fr_t {σ τ υ : oSg} (h : Fr σ τ) (g : Fr τ υ) : Fr σ υ := ⟨fun q hq => (g.1 q hq).trans (h.1 q hq), fun k hk => (g.2.1 k hk).trans (h.2.1 k hk), fun q j hq => (g.2.2 q j hq).trans (h.2.2 q j hq)⟩
theorem nW_ext {g h : Nat → Int} (e : ∀ k, k < 49 → g k = h k) (i j : Int) : nW g i j = nW h i j := by
  unfold nW
  split
  · exact e _ (by omega)
  · rfl
theorem nM_ext {g h : Nat → Int} (e : ∀ k, k < 7 → g k = h k) (p : Int) : nM g p = nM h p := by
  unfold nM
  split
  · exact e _ (by omega)
  · rfl
theorem nWf_ext {g h : Nat → Int} (e : ∀ k, k < 49 → g k = h k) : nW g = nW h := funext fun i => funext fun j => nW_ext e i j
theorem nMf_ext {g h : Nat → Int} (e : ∀ k, k < 7 → g k = h k) : nM g = nM h := funext fun i => nM_ext e i
theorem GH_ext {g h : Nat → Int} (e : ∀ k, k < 116 → h k = g k) (H : GH g) : GH h := by
  obtain ⟨⟨a0, a7⟩, a2, a3, a4, ⟨o0, o3, o⟩, ⟨s0, s5, s⟩, ⟨e0, e8⟩, b0, b8, b⟩ := H
  have w : nW (gW h) = nW (gW g) := nWf_ext (fun k hk => e (1 + k) (by omega))
  have m : nM (gM h) = nM (gM g) := nMf_ext (fun k hk => e (50 + k) (by omega))
  unfold GH GO
  rw [w, m, e 0 (by omega), e 64 (by omega), e 71 (by omega), e 82 (by omega), e 99 (by omega)]
  refine ⟨⟨a0, a7⟩, a2, a3, fun p hp => ?_, ⟨o0, o3, fun k hk => ?_⟩, ⟨s0, s5, fun k hk => ?_⟩, ⟨e0, e8⟩, b0, b8, fun k hk => ?_⟩
  · rw [e _ (by omega)]
    exact a4 p hp
  · rw [e (65 + k) (by omega), e (68 + k) (by omega)]
    exact o k hk
  · rw [e (72 + k) (by omega)]
    exact s k hk
  · rw [e (100 + k) (by omega)]
    exact b k hk
theorem RH_ext {σ τ : oSg} {o : Nat} {g h : Nat → Int} (ho : o = 0 ∨ o = 17) (e : ∀ k, k < 116 → h k = g k) (e1 : ∀ q j, q ≤ 34 → τ.1 q j = σ.1 q j) (e2 : ∀ q, q ≤ 55 → τ.2 q = σ.2 q) (G : GH g) (H : RH σ o g) : RH τ o h := by
  obtain ⟨a0, a1, a2, a3, ⟨o0, o1⟩, ⟨s0, s1⟩, ⟨v0, v1⟩, b0, b1⟩ := H
  obtain ⟨-, -, -, -, ⟨-, go, -⟩, ⟨-, gs, -⟩, ⟨-, ge⟩, -, gb, -⟩ := G
  unfold RH
  rw [e1 (2 + o) 0 (by omega), e1 (6 + o) 0 (by omega), e1 (9 + o) 0 (by omega), e1 (12 + o) 0 (by omega), e1 (15 + o) 0 (by omega), e2 (3 + o) (by omega), e2 (4 + o) (by omega), e2 (5 + o) (by omega), e2 (7 + o) (by omega), e2 (8 + o) (by omega), e2 (10 + o) (by omega), e2 (11 + o) (by omega), e2 (13 + o) (by omega), e2 (14 + o) (by omega), e2 (16 + o) (by omega), e2 (17 + o) (by omega)]
  rw [e 0 (by omega), e 64 (by omega), e 71 (by omega), e 82 (by omega), e 99 (by omega)]
  refine ⟨a0, fun k hk => ?_, fun p hp => ?_, fun p hp => ?_, ⟨o0, fun k hk => ?_⟩, ⟨s0, fun k hk => ?_⟩, ⟨v0, fun k hk => ?_⟩, b0, fun k hk => ?_⟩
  · rw [e _ (by omega)]; exact a1 k hk
  · rw [e _ (by omega)]; exact a2 p hp
  · rw [e _ (by omega)]; exact a3 p hp
  · rw [e (65 + k) (by omega), e (68 + k) (by omega)]; exact o1 k hk
  · rw [e (72 + k) (by omega), e (77 + k) (by omega)]; exact s1 k hk
  · rw [e (83 + k) (by omega), e (91 + k) (by omega)]; exact v1 k hk
  · rw [e (100 + k) (by omega), e (108 + k) (by omega)]; exact b1 k hk
theorem IA_fr {σ τ : oSg} (h : Fr σ τ) (H : IA σ) : IA τ := ⟨RH_ext (Or.inl rfl) h.2.1 (fun q j hq => h.2.2 q j (Or.inl hq)) (fun q hq => h.1 q (Or.inl hq)) H.2 H.1, GH_ext h.2.1 H.2⟩
theorem IK_fr {σ τ : oSg} (h : Fr σ τ) (H : IK σ) : IK τ := by
  obtain ⟨h1, h2, h3, h4, h5, h6⟩ := H
  have e70 := h.1 70 (by omega)
  unfold IK
  rw [h.2.2 68 3 (by omega), h.2.2 0 2 (by omega), h.2.2 23 0 (by omega), h.2.2 26 0 (by omega), h.2.2 29 0 (by omega), h.2.2 32 0 (by omega), e70]
  refine ⟨h1, ?_, h3, h4, h5, h6⟩
  rcases h2 with h2 | ⟨h2, h7⟩
  · exact Or.inl h2
  · exact Or.inr ⟨RH_ext (Or.inr rfl) (fun _ _ => rfl) (fun q j hq => h.2.2 q j (Or.inl hq)) (fun q hq => h.1 q (Or.inl hq)) h7 h2, h7⟩
theorem IT_fr {σ τ : oSg} (h : Fr σ τ) (H : IT σ) : IT τ := by
  unfold IT
  rw [h.2.2 35 0 (by omega), h.2.2 68 6 (by omega), h.1 36 (by omega), h.1 72 (by omega)]
  exact H
theorem IP_fr {σ τ : oSg} (h : Fr σ τ) (H : IP σ) : IP τ := by
  intro t ht
  have := H t ht
  rw [h.1 52 (by omega), h.1 53 (by omega), h.1 54 (by omega), h.1 79 (by omega), h.1 80 (by omega), h.1 (82 + t) (by omega)]
  exact this
theorem Inv_fr {σ τ : oSg} (H : Inv σ) (h : Fr σ τ) : Inv τ := ⟨IA_fr h H.1, IK_fr h H.2.1, IT_fr h H.2.2.1, IP_fr h H.2.2.2⟩
/-- the people's side alone changes: the rest stays -/
def Fh (σ τ : oSg) : Prop := (∀ q, (18 ≤ q ∧ q ≤ 55) ∨ q = 70 ∨ q = 72 ∨ (79 ≤ q ∧ q ≤ 87) → τ.2 q = σ.2 q) ∧ ∀ q j, q = 0 ∨ (18 ≤ q ∧ q ≤ 34) ∨ (q = 35 ∧ j = 0) ∨ (q = 68 ∧ (j = 3 ∨ j = 6)) → τ.1 q j = σ.1 q j
theorem Fh_t {σ τ υ : oSg} (h : Fh σ τ) (g : Fh τ υ) : Fh σ υ := ⟨fun q hq => (g.1 q hq).trans (h.1 q hq), fun q j hq => (g.2 q j hq).trans (h.2 q j hq)⟩
theorem Fh_fr {σ τ : oSg} (h : Fr σ τ) : Fh σ τ := ⟨fun q hq => h.1 q (by omega), fun q j hq => h.2.2 q j (by omega)⟩
theorem Inv_h {σ τ : oSg} (H : Inv σ) (h : Fh σ τ) (hA : IA τ) : Inv τ := by
  obtain ⟨-, ⟨h1, h2, h3, h4, h5, h6⟩, hT, hP⟩ := H
  refine ⟨hA, ?_, ?_, ?_⟩
  · have e70 := h.1 70 (by omega)
    unfold IK
    rw [h.2 68 3 (by omega), h.2 0 2 (by omega), h.2 23 0 (by omega), h.2 26 0 (by omega), h.2 29 0 (by omega), h.2 32 0 (by omega), e70]
    refine ⟨h1, ?_, h3, h4, h5, h6⟩
    rcases h2 with h2 | ⟨h2, h7⟩
    · exact Or.inl h2
    · refine Or.inr ⟨?_, h7⟩
      unfold RH
      rw [h.2 (2 + 17) 0 (by omega), h.2 (6 + 17) 0 (by omega), h.2 (9 + 17) 0 (by omega), h.2 (12 + 17) 0 (by omega), h.2 (15 + 17) 0 (by omega), h.1 (3 + 17) (by omega), h.1 (4 + 17) (by omega), h.1 (5 + 17) (by omega), h.1 (7 + 17) (by omega), h.1 (8 + 17) (by omega), h.1 (10 + 17) (by omega), h.1 (11 + 17) (by omega), h.1 (13 + 17) (by omega), h.1 (14 + 17) (by omega), h.1 (16 + 17) (by omega), h.1 (17 + 17) (by omega)]
      exact h2
  · unfold IT
    rw [h.2 35 0 (by omega), h.2 68 6 (by omega), h.1 36 (by omega), h.1 72 (by omega)]
    exact hT
  · intro t ht
    have := hP t ht
    rw [h.1 52 (by omega), h.1 53 (by omega), h.1 54 (by omega), h.1 79 (by omega), h.1 80 (by omega), h.1 (82 + t) (by omega)]
    exact this
/-- both sides answer alike -/
def Both (d zx zm : Nat) (as : List oV) (σ : oSg) : Prop := ∃ (v : oV) (τ υ : oSg), oMi d zx (.inr (.inr (.inl 0)) :: as) σ (some v) τ ∧ oMi d zm (.inr (.inr (.inl 68)) :: as) τ (some v) υ ∧ Inv υ
section VIEW
variable {σ : oSg}
theorem vw_n (H : IA σ) : σ.1 2 0 = σ.2 69 0 := H.1.1
theorem vw_W (H : IA σ) : nW (σ.2 3) = nW (gW (σ.2 69)) := nWf_ext (fun k hk => H.1.2.1 k hk)
theorem vw_M (H : IA σ) : nM (σ.2 4) = nM (gM (σ.2 69)) := nMf_ext (fun k hk => H.1.2.2.1 k hk)
theorem vw_N (H : IA σ) : mNet σ := ⟨H.2.1.1, H.2.1.2, H.2.2.1.1⟩
theorem vw_c (H : IA σ) : cNet σ 2 := by
  refine ⟨by rw [vw_n H]; exact H.2.1.1, by rw [vw_n H]; exact H.2.1.2, ?_⟩
  rw [rf_2_1, vw_W H]
  exact H.2.2.1.1
theorem vw_m (H : IA σ) : ∀ p : Int, -1 ≤ nM (gM (σ.2 69)) p ∧ nM (gM (σ.2 69)) p < 7 := H.2.2.2.1.1
theorem vw_0 (H : IA σ) : 0 ≤ σ.1 2 0 := by rw [vw_n H]; exact H.2.1.1
theorem vw_7 (H : IA σ) : σ.1 2 0 ≤ 7 := by rw [vw_n H]; exact H.2.1.2
theorem vw_O (H : IA σ) : mOk σ := ⟨H.2.1.1, H.2.1.2, vw_m H⟩
theorem vw_H (H : IA σ) : mHv (σ.2 69) := ⟨H.2.2.2.2.1, H.2.2.2.2.2.1.1, H.2.2.2.2.2.1.2.1, fun k hk => by
  obtain ⟨⟨h1, h2, -⟩, h3, h4⟩ := H.2.2.2.2.2.1.2.2 k hk
  exact ⟨h1, h2, h3, h4⟩⟩
theorem vw_h (H : IA σ) (p : Int) : nH σ p = if nHas (σ.2 69 0) p then gH (σ.2 69) p.toNat else 0 := by
  unfold nH
  rw [vw_n H]
  by_cases c : nHas (σ.2 69 0) p
  · obtain ⟨c1, c2, c3⟩ := id c
    rw [if_pos c, if_pos c]
    exact H.1.2.2.2.1 p.toNat (by omega)
  · rw [if_neg c, if_neg c]
theorem vw_hc (H : IA σ) : cHv σ := by
  refine ⟨fun p => ?_, ?_, ?_, fun k hk => ?_⟩
  · rw [vw_h H]
    split
    · next c => exact H.2.2.2.2.1 p.toNat (by have := c.1; have := c.2.2; omega)
    · omega
  · rw [H.1.2.2.2.2.1.1]; exact H.2.2.2.2.2.1.1
  · rw [H.1.2.2.2.2.1.1]; exact H.2.2.2.2.2.1.2.1
  · rw [H.1.2.2.2.2.1.1] at hk
    obtain ⟨e1, e2⟩ := H.1.2.2.2.2.1.2 k hk
    obtain ⟨⟨h1, h2, -⟩, h3, h4⟩ := H.2.2.2.2.2.1.2.2 k hk
    have hk3 : k < 3 := by have := H.2.2.2.2.2.1.2.1; omega
    unfold nAt
    rw [if_pos (by omega), Int.toNat_natCast]
    rw [if_pos (by omega)]
    change σ.2 7 k = _ at e1
    change σ.2 8 k = _ at e2
    rw [e1, e2]
    exact ⟨h1, h2, h3, h4⟩
end VIEW

