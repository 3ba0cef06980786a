/-! read: the clauses done -/
theorem IA_halves {σ : oSg} (HA : IA σ) {p h : Int} (c : nHas (σ.2 69 0) p) (g : 0 ≤ h ∧ h ≤ 60) : IA (oSA (oSA σ 5 p.toNat h) 69 (57 + p).toNat h) := by
  obtain ⟨c1, c2, c3⟩ := id c
  have e : ∀ k, ¬ k = (57 + p).toNat → (oSA (oSA σ 5 p.toNat h) 69 (57 + p).toNat h).2 69 k = σ.2 69 k := fun k hk => by rw [oSA_i _ _ hk, oSA_ne _ _ _ (by decide)]
  have r : ∀ q, ¬ q = 69 → ¬ q = 5 → (oSA (oSA σ 5 p.toNat h) 69 (57 + p).toNat h).2 q = σ.2 q := fun q h1 h2 => by rw [oSA_ne _ _ _ h1, oSA_ne _ _ _ h2]
  have f : ∀ q j, (oSA (oSA σ 5 p.toNat h) 69 (57 + p).toNat h).1 q j = σ.1 q j := fun _ _ => rfl
  refine IA_of (PN_fr (f 2 0) (e 0 (by omega)) (IA_n HA)) (PW_fr (r 3 (by decide) (by decide)) (e 0 (by omega)) (fun k h1 h2 => e k (by omega)) (IA_w HA)) (PM_fr (r 4 (by decide) (by decide)) (e 0 (by omega)) (fun k h1 h2 => e k (by omega)) (IA_m HA)) ⟨fun k hk => ?_, fun k hk => ?_⟩ (PO_fr (f 6 0) (r 7 (by decide) (by decide)) (r 8 (by decide) (by decide)) (fun k h1 _ => e k (by omega)) (IA_o HA)) (PS_fr (f 9 0) (r 10 (by decide) (by decide)) (r 11 (by decide) (by decide)) (fun k h1 _ => e k (by omega)) (IA_s HA)) (PE_fr (f 12 0) (r 13 (by decide) (by decide)) (r 14 (by decide) (by decide)) (fun k h1 _ => e k (by omega)) (IA_e HA)) (PB_fr (f 15 0) (r 16 (by decide) (by decide)) (r 17 (by decide) (by decide)) (fun k h1 _ => e k (by omega)) (IA_b HA))
  · rw [oSA_ne _ _ _ (show ¬ 5 = 69 by decide)]
    by_cases z : k = p.toNat
    · rw [z, oSA_s, show 57 + p.toNat = (57 + p).toNat from by omega, oSA_s]
    · rw [oSA_i _ _ z, e _ (by omega)]
      exact (IA_h HA).1 k hk
  · by_cases z : k = p.toNat
    · rw [z, show 57 + p.toNat = (57 + p).toNat from by omega, oSA_s]
      exact g
    · rw [e _ (by omega)]
      exact (IA_h HA).2 k hk
section TWO2
variable {σ τ : oSg}
theorem p_halves (H : IA (mx σ τ)) (p h : Int) : (xHalves σ p h).1 = (yHalves τ p h).1 ∧ IA (mx (xHalves σ p h).2 (yHalves τ p h).2) := by
  have hn := vw_n H
  have hh := vw_h H p
  have ih := fun a b => IA_halves (p := p) (h := h) H a b
  have e : nH (mx σ τ) p = nH σ p := by
    unfold nH
    rw [mx_1, mx_r _ _ (by decide)]
  rw [mx_69, mx_1] at hn
  rw [mx_69, e] at hh
  rw [mx_69] at ih
  unfold xHalves yHalves
  rw [hn, hh]
  by_cases c : nHas (τ.2 69 0) p
  · rw [if_neg (not_not_intro c), if_neg (not_not_intro c)]
    by_cases g : 0 ≤ h ∧ h ≤ 60
    · have a := ih c g
      rw [mx_C _ _ (by decide), mx_A] at a
      rw [if_neg (show ¬ (h < 0 ∨ 60 < h) by omega), if_neg (not_not_intro g), if_pos c, if_pos c]
      exact ⟨rfl, a⟩
    · rw [if_pos (show h < 0 ∨ 60 < h by omega), if_pos g]
      exact ⟨rfl, H⟩
  · rw [if_pos c, if_pos c]
    exact ⟨rfl, H⟩
/-- one clause done on either side -/
theorem p_do (H : IA (mx σ τ)) {T : Nat → Int} (hT : aT τ = T) {c x : Nat} (ok : zOk T x) (co : cOk T x σ c) : (0 ≤ (xDo σ c).1 ↔ 0 ≤ (zDo τ x).1) ∧ IA (mx (xDo σ c).2 (zDo τ x).2) := by
  obtain ⟨o0, o1, o2, o3⟩ := co
  unfold xDo zDo
  rw [hT, o0]
  by_cases e1 : T x = 112
  · rw [if_pos e1, if_pos e1]
    have p := p_person H
    exact ⟨by rw [p.1], p.2⟩
  · rw [if_neg e1, if_neg e1]
    by_cases e2 : T x = 119
    · rw [if_pos e2, if_pos e2]
      obtain ⟨q1, q2, q3⟩ := o1 e2
      rw [q1, q2, q3]
      have p := p_weigh H (T (x + 1) - 48) (T (x + 2) - 48) (zNm T (x + 3))
      exact ⟨by rw [p.1], p.2⟩
    · rw [if_neg e2, if_neg e2]
      by_cases e3 : T x = 109
      · rw [if_pos e3, if_pos e3]
        obtain ⟨q1, q2⟩ := o2 e3
        rw [q1, q2]
        exact p_pair H _ _
      · have e4 : T x = 104 := by
          rcases ok with z | ⟨z, -⟩ | ⟨z | z, -⟩
          · exact absurd z e1
          · exact absurd z e2
          · exact absurd z e3
          · exact z
        rw [if_neg e3, if_neg e3, if_pos e4]
        obtain ⟨q1, q2⟩ := o3 e4
        rw [q1, q2]
        have p := p_halves H (T (x + 1) - 48) (zNm T (x + 2))
        exact ⟨by rw [p.1], p.2⟩
end TWO2

