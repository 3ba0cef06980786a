/-! shrunk: who is linked to nobody does not count -/
theorem tb_clr {b q i : Nat} (h : b < 128) (hq : q < 7) : tb (nClr b q) i ↔ tb b i ∧ ¬ i = q := by
  have cl := nClr_le h hq
  constructor
  · intro z
    have i7 := tb_lt (by omega) z
    have := (nClr_chk ⟨b, h⟩ ⟨q, hq⟩).2.2 ⟨i, i7⟩
    dsimp only at this
    unfold tb at z
    rw [this, Bool.and_eq_true, decide_eq_true_eq] at z
    exact ⟨z.1, fun w => z.2 (Fin.ext w)⟩
  · rintro ⟨z1, z2⟩
    have i7 := tb_lt h z1
    have := (nClr_chk ⟨b, h⟩ ⟨q, hq⟩).2.2 ⟨i, i7⟩
    dsimp only at this
    unfold tb
    rw [this, Bool.and_eq_true, decide_eq_true_eq]
    exact ⟨z1, fun w => z2 (congrArg Fin.val w)⟩
theorem rP_iso {L K : Nat → Nat} {b : Nat} (iso : ∀ l q, l < 7 → tb (L l) q → tb b l ∧ tb b q) (same : ∀ l q, tb b l → tb b q → l < 7 → q < 7 → (tb (L l) q ↔ tb (K l) q)) : ∀ k k' c, c < 128 → nSz c < k → nSz (c &&& b) < k' → rP L k c = rP K k' (c &&& b)
  | 0, _, _, _, h, _ => absurd h (Nat.not_lt_zero _)
  | _ + 1, 0, _, _, _, h => absurd h (Nat.not_lt_zero _)
  | k + 1, k' + 1, c, hc, h, h' => by
    have e1 : rP L (k + 1) c = if c = 0 then 0 else rPl (rP L k) L (nLow c) (nRst c) (rP L k (nRst c)) (6 - nLow c) := rfl
    have e2 : rP K (k' + 1) (c &&& b) = if (c &&& b) = 0 then 0 else rPl (rP K k') K (nLow (c &&& b)) (nRst (c &&& b)) (rP K k' (nRst (c &&& b))) (6 - nLow (c &&& b)) := rfl
    by_cases z : c = 0
    · rw [e1, e2, z, if_pos rfl, Nat.zero_and, if_pos rfl]
    · have c0 : 0 < c := Nat.pos_of_ne_zero z
      have l6 := nLow_le c0 hc
      have lt := nLow_t c0 hc
      have rl := nRst_lt c0 hc
      have s1 := nSz_rst c0 hc
      have cb : c &&& b < 128 := Nat.lt_of_le_of_lt Nat.and_le_left hc
      have rr : ∀ i, tb (nRst c) i ↔ tb c i ∧ ¬ i = nLow c := fun i => by
        rw [← nClr_low c0 hc]
        exact tb_clr hc (by omega)
      obtain ⟨m1, m2, m3⟩ := rPl_max (F := rP L k) (L := L) (l := nLow c) (r := nRst c) (v := rP L k (nRst c)) (6 - nLow c)
      by_cases lb : tb b (nLow c)
      · have lo := low_of (p := nLow c) cb (by omega) (fun q hq => by
          have : ¬ tb (c &&& b) q := fun w => by
            have t := (tb_and.mp w).1
            have := (nBit_chk ⟨c, hc⟩ c0).2.2.2.2.2 ⟨q, by omega⟩
            dsimp only at this
            have u := this.2.1 hq
            unfold tb at t
            rw [u] at t
            exact absurd t (by decide)
          exact Bool.not_eq_true _ ▸ this) (tb_and.mpr ⟨lt, lb⟩)
        have er : nRst (c &&& b) = nRst c &&& b := tb_eq (fun i => by
          rw [lo.2.2, tb_clr cb (by omega), tb_and, tb_and, rr]
          exact ⟨fun w => ⟨⟨w.1.1, w.2⟩, w.1.2⟩, fun w => ⟨⟨w.1.1, w.2⟩, w.1.2⟩⟩)
        have s2 := nSz_rst lo.1 cb
        rw [e1, e2, if_neg z, if_neg (by omega), lo.2.1]
        obtain ⟨n1, n2, n3⟩ := rPl_max (F := rP K k') (L := K) (l := nLow c) (r := nRst (c &&& b)) (v := rP K k' (nRst (c &&& b))) (6 - nLow c)
        have ihr : rP L k (nRst c) = rP K k' (nRst (c &&& b)) := by
          rw [er]
          exact rP_iso iso same k k' (nRst c) (by omega) (by omega) (by rw [← er]; omega)
        have opt : ∀ q, nLow c < q → q ≤ nLow c + (6 - nLow c) → ((tb (nRst c &&& L (nLow c)) q ↔ tb (nRst (c &&& b) &&& K (nLow c)) q) ∧ (tb (nRst c &&& L (nLow c)) q → rP L k (nClr (nRst c) q) = rP K k' (nClr (nRst (c &&& b)) q))) := fun q q1 q2 => by
          refine ⟨?_, fun w => ?_⟩
          · rw [er, tb_and, tb_and, tb_and]
            constructor
            · rintro ⟨w1, w2⟩
              have g := iso (nLow c) q (by omega) w2
              exact ⟨⟨w1, g.2⟩, (same _ q lb g.2 (by omega) (by omega)).mp w2⟩
            · rintro ⟨⟨w1, w3⟩, w2⟩
              exact ⟨w1, (same _ q lb w3 (by omega) (by omega)).mpr w2⟩
          · obtain ⟨w1, w2⟩ := tb_and.mp w
            have g := iso (nLow c) q (by omega) w2
            have cq : nClr (nRst (c &&& b)) q = nClr (nRst c) q &&& b := tb_eq (fun i => by
              have rb : nRst c &&& b < 128 := Nat.lt_of_le_of_lt Nat.and_le_left (by omega)
              rw [er, tb_clr rb (by omega), tb_and, tb_and, tb_clr (by omega) (by omega)]
              exact ⟨fun w => ⟨⟨w.1.1, w.2⟩, w.1.2⟩, fun w => ⟨⟨w.1.1, w.2⟩, w.1.2⟩⟩)
            have a1 := nSz_clrx ⟨nRst c, by omega⟩ ⟨q, by omega⟩ w1
            have rb : nRst (c &&& b) < 128 := by rw [er]; exact Nat.lt_of_le_of_lt Nat.and_le_left (by omega)
            have tt : tb (nRst (c &&& b)) q := by
              rw [er]
              exact tb_and.mpr ⟨w1, g.2⟩
            have a2 := nSz_clrx ⟨nRst (c &&& b), rb⟩ ⟨q, by omega⟩ tt
            dsimp only at a1 a2
            have cl := nClr_le (b := nRst c) (q := q) (by omega) (by omega)
            rw [cq]
            exact rP_iso iso same k k' _ (by omega) (by omega) (by rw [← cq]; omega)
        generalize rPl (rP L k) L (nLow c) (nRst c) (rP L k (nRst c)) (6 - nLow c) = X at *
        generalize rPl (rP K k') K (nLow c) (nRst (c &&& b)) (rP K k' (nRst (c &&& b))) (6 - nLow c) = Y at *
        have h1 : X ≤ Y := by
          rcases m3 with w | ⟨q, q1, q2, q3, q4⟩
          · omega
          · have o := opt q q1 q2
            have := n2 q q1 q2 (o.1.mp q3)
            have := o.2 q3
            omega
        have h2 : Y ≤ X := by
          rcases n3 with w | ⟨q, q1, q2, q3, q4⟩
          · omega
          · have o := opt q q1 q2
            have := m2 q q1 q2 (o.1.mpr q3)
            have := o.2 (o.1.mpr q3)
            omega
        omega
      · have er : nRst c &&& b = c &&& b := tb_eq (fun i => by
          rw [tb_and, tb_and, rr]
          refine ⟨fun w => ⟨w.1.1, w.2⟩, fun w => ⟨⟨w.1, fun y => ?_⟩, w.2⟩⟩
          rw [y] at w
          exact lb w.2)
        rw [e1, if_neg z]
        have ih := rP_iso iso same k (k' + 1) (nRst c) (by omega) (by omega) (by rw [er]; exact h')
        rw [er] at ih
        rw [← ih]
        rcases m3 with w | ⟨q, q1, q2, q3, q4⟩
        · exact w
        · exact absurd (iso (nLow c) q (by omega) (tb_and.mp q3).2).1 lb

