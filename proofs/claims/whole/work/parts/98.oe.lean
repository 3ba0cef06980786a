/-! read: all the clauses done -/
def dFr (σ υ : oSg) : Prop := (∀ q, ¬ (q = 3 ∨ q = 4 ∨ q = 5) → υ.2 q = σ.2 q) ∧ ∀ q j, ¬ q = 2 → υ.1 q j = σ.1 q j
theorem dFr_r (σ : oSg) : dFr σ σ := ⟨fun _ _ => rfl, fun _ _ _ => rfl⟩
theorem dFr_t {σ τ υ : oSg} (h : dFr σ τ) (g : dFr τ υ) : dFr σ υ := ⟨fun q a => (g.1 q a).trans (h.1 q a), fun q j a => (g.2 q j a).trans (h.2 q j a)⟩
theorem dFr_do (σ : oSg) (c : Nat) : dFr σ (xDo σ c).2 := by
  have st : ∀ i j w, dFr σ (nSet σ 2 i j w) := fun i j w => ⟨fun q h => nSet_r _ _ _ _ (by rw [rf_2_1]; omega), fun q j' _ => by rw [nSet_1]⟩
  have pt : ∀ (υ : oSg) p, dFr υ (sPart υ p) := fun υ p => ⟨fun q h => sPart_r _ _ (by omega), fun q j _ => by rw [sPart_f]⟩
  unfold xDo
  split
  · unfold xPerson
    split
    · exact dFr_r σ
    · exact ⟨fun _ _ => rfl, fun q j h => oSF_o _ _ (by omega)⟩
  · split
    · unfold xWeigh
      split
      · exact dFr_r σ
      · split
        · exact dFr_r σ
        · split
          · exact dFr_t (st _ _ _) (pt _ _)
          · exact st _ _ _
    · split
      · unfold xPair
        split
        · exact dFr_r σ
        · split
          · exact dFr_r σ
          · exact ⟨fun q h => sJoin_r _ _ _ (by omega), fun q j _ => by rw [sJoin_1]⟩
      · split
        · unfold xHalves
          split
          · exact dFr_r σ
          · split
            · exact dFr_r σ
            · dsimp only
              split
              · exact ⟨fun q h => oSA_ne _ _ _ (by omega), fun _ _ _ => rfl⟩
              · exact dFr_r σ
        · exact dFr_r σ
theorem aT_z {σ τ : oSg} (h : zSm σ τ) : aT τ = aT σ := by
  funext k
  unfold aT
  rw [h.1, h.2 72 (by decide)]
theorem ds_T {T : Nat → Int} {C : Nat} (c12 : C ≤ 12) : ∀ (m i e : Nat) (σ τ : oSg), i + m = C → IA (mx σ τ) → aT τ = T → cAll T σ τ C → (xDs m i e σ).1 = ((zDs m i e τ).1 : Int) ∧ IA (mx (xDs m i e σ).2 (zDs m i e τ).2) ∧ dFr σ (xDs m i e σ).2 ∧ zSm τ (zDs m i e τ).2
  | 0, _, _, σ, τ, _, H, _, _ => ⟨rfl, H, dFr_r σ, zSm_r τ⟩
  | m + 1, i, e, σ, τ, hi, H, hT, hA => by
    obtain ⟨x, x1, x2, x3⟩ := hA i (by omega)
    have e1 : xDs (m + 1) i e σ = xDs m (i + 1) (if 0 ≤ (xDo σ (39 + i)).1 then e + 1 else e) (xDo σ (39 + i)).2 := rfl
    have e2 : zDs (m + 1) i e τ = zDs m (i + 1) (if 0 ≤ (zDo τ (τ.2 73 i).toNat).1 then e + 1 else e) (zDo τ (τ.2 73 i).toNat).2 := rfl
    rw [e1, e2, x1, Int.toNat_natCast]
    obtain ⟨p1, p2⟩ := p_do H hT x2 x3
    have d1 := dFr_do σ (39 + i)
    have d2 := zSm_do τ x
    have ec : (if 0 ≤ (xDo σ (39 + i)).1 then e + 1 else e) = (if 0 ≤ (zDo τ x).1 then e + 1 else e) := by
      by_cases c : 0 ≤ (zDo τ x).1
      · rw [if_pos c, if_pos (p1.mpr c)]
      · rw [if_neg c, if_neg (fun z => c (p1.mp z))]
    rw [ec]
    have ih := ds_T (T := T) c12 m (i + 1) (if 0 ≤ (zDo τ x).1 then e + 1 else e) (xDo σ (39 + i)).2 (zDo τ x).2 (by omega) p2 (by rw [aT_z d2]; exact hT) (fun i' hi' => by
      obtain ⟨y, y1, y2, y3⟩ := hA i' hi'
      exact ⟨y, by rw [d2.2 73 (by decide)]; exact y1, y2, cOk_e (fun j => d1.2 _ j (by omega)) y3⟩)
    exact ⟨ih.1, ih.2.1, dFr_t d1 ih.2.2.1, zSm_t d2 ih.2.2.2⟩

