/-! read: one clause, both sides -/
/-- the text of the class, and where it stands -/
def Tx (T : Nat → Int) (s : Nat) (σ : oSg) : Prop := σ.1 35 0 = s ∧ s ≤ 100 ∧ (∀ k : Nat, k < s → σ.2 36 k = T k) ∧ ∀ k : Nat, s ≤ k → T k = -1
theorem ahd_T {T : Nat → Int} {s : Nat} {σ : oSg} (H : Tx T s σ) {k : Nat} (hk : σ.1 35 2 = k) : vAhd σ = T k := by
  obtain ⟨h1, h2, h3, h4⟩ := H
  unfold vAhd
  rw [hk, h1]
  by_cases c : k < s
  · rw [if_pos (by omega), Int.toNat_natCast, h3 k c]
  · rw [if_neg (by omega), h4 k (by omega)]
/-- what a clause read into c leaves alone -/
def cFr (c : Nat) (σ τ : oSg) : Prop := τ.2 = σ.2 ∧ ∀ q j, ¬ (q = 35 ∧ j = 2) → ¬ q = c → τ.1 q j = σ.1 q j
theorem cFr_r (c : Nat) (σ : oSg) : cFr c σ σ := ⟨rfl, fun _ _ _ _ => rfl⟩
theorem cFr_t {c : Nat} {σ τ υ : oSg} (h : cFr c σ τ) (g : cFr c τ υ) : cFr c σ υ := ⟨g.1.trans h.1, fun q j a b => (g.2 q j a b).trans (h.2 q j a b)⟩
theorem cFr_2 (c : Nat) (σ : oSg) (v : Int) : cFr c σ (oSF σ 35 2 v) := ⟨rfl, fun q j a _ => oSF_o _ _ a⟩
theorem cFr_c (c : Nat) (σ : oSg) (k : Nat) (v : Int) : cFr c σ (oSF σ c k v) := ⟨rfl, fun q j _ b => oSF_o _ _ (fun z => b z.1)⟩
theorem Tx_fr {T : Nat → Int} {s c : Nat} {σ τ : oSg} (hc : ¬ c = 35) (h : cFr c σ τ) (H : Tx T s σ) : Tx T s τ := by
  unfold Tx
  rw [h.1, h.2 35 0 (by omega) (fun z => hc z.symm)]
  exact H
section DIG
variable {T : Nat → Int} {s c k : Nat} {σ : oSg}
theorem dig_T (H : Tx T s σ) (hk : σ.1 35 2 = k) : (zD (T k) → xDig σ = (T k - 48, oSF σ 35 2 ((k + 1 : Nat) : Int))) ∧ (¬ zD (T k) → xDig σ = (-1, σ)) := by
  unfold xDig
  rw [ahd_T H hk, hk]
  exact ⟨fun z => by rw [if_pos z]; rfl, fun z => by rw [if_neg z]⟩
theorem num_T (H : Tx T s σ) (hk : σ.1 35 2 = k) : (zD (T k) → (xNum σ).1 = zNm T k ∧ ¬ (xNum σ).1 < 0 ∧ (xNum σ).2.1 35 2 = if zD (T (k + 1)) then ((k + 2 : Nat) : Int) else ((k + 1 : Nat) : Int)) ∧ (¬ zD (T k) → (xNum σ).1 < 0 ∧ (xNum σ).2.1 35 2 = k) ∧ cFr c σ (xNum σ).2 := by
  obtain ⟨d1, d2⟩ := dig_T H hk
  by_cases z : zD (T k)
  · have e := d1 z
    have H2 : Tx T s (oSF σ 35 2 ((k + 1 : Nat) : Int)) := Tx_fr (c := 0) (by decide) (cFr_2 0 σ _) H
    obtain ⟨g1, g2⟩ := dig_T (k := k + 1) H2 (oSF_s _ _ _ _)
    unfold xNum
    rw [e]
    dsimp only
    rw [if_neg (by omega)]
    by_cases y : zD (T (k + 1))
    · rw [g1 y]
      dsimp only
      rw [if_neg (by omega)]
      dsimp only
      refine ⟨fun _ => ⟨by unfold zNm; rw [if_pos y], by omega, by rw [if_pos y, oSF_s]⟩, fun w => absurd z w, cFr_t (cFr_2 c σ _) (cFr_2 c _ _)⟩
    · rw [g2 y]
      dsimp only
      rw [if_pos (by decide)]
      dsimp only
      refine ⟨fun _ => ⟨by unfold zNm; rw [if_neg y], by omega, by rw [if_neg y, oSF_s]⟩, fun w => absurd z w, cFr_2 c σ _⟩
  · unfold xNum
    rw [d2 z]
    dsimp only
    rw [if_pos (by decide)]
    exact ⟨fun w => absurd w z, fun _ => ⟨show (-1 : Int) < 0 by decide, hk⟩, cFr_r c σ⟩
/-- a clause in c is the one at k -/
def cOk (T : Nat → Int) (k : Nat) (σ : oSg) (c : Nat) : Prop := σ.1 c 0 = T k ∧ (T k = 119 → σ.1 c 1 = T (k + 1) - 48 ∧ σ.1 c 2 = T (k + 2) - 48 ∧ σ.1 c 3 = zNm T (k + 3)) ∧ (T k = 109 → σ.1 c 1 = T (k + 1) - 48 ∧ σ.1 c 2 = T (k + 2) - 48) ∧ (T k = 104 → σ.1 c 1 = T (k + 1) - 48 ∧ σ.1 c 3 = zNm T (k + 2))
theorem zSc_0 (T : Nat → Int) (k : Nat) : zSc T 0 k = (1, k) := rfl
theorem zSc_s (T : Nat → Int) (d k : Nat) : zSc T (d + 1) k = if zD (T k) then zSc T d (k + 1) else (0, k) := rfl
/-- a digit read into field j of c -/
theorem get_T (hc : ¬ c = 35) (H : Tx T s σ) (hk : σ.1 35 2 = k) (j : Nat) : (zD (T k) → (xDig σ).1 = T k - 48 ∧ ¬ (xDig σ).1 < 0 ∧ (oSF (xDig σ).2 c j (xDig σ).1).1 35 2 = ((k + 1 : Nat) : Int)) ∧ (¬ zD (T k) → (xDig σ).1 < 0 ∧ (oSF (xDig σ).2 c j (xDig σ).1).1 35 2 = k) ∧ cFr c σ (oSF (xDig σ).2 c j (xDig σ).1) ∧ (∀ i, (xDig σ).2.1 c i = σ.1 c i) := by
  obtain ⟨d1, d2⟩ := dig_T H hk
  by_cases z : zD (T k)
  · rw [d1 z]
    refine ⟨fun _ => ⟨rfl, by dsimp only; omega, by rw [oSF_o _ _ (by omega), oSF_s]⟩, fun w => absurd z w, cFr_t (cFr_2 c σ _) (cFr_c c _ _ _), fun i => oSF_o _ _ (by omega)⟩
  · rw [d2 z]
    exact ⟨fun w => absurd w z, fun _ => ⟨show (-1 : Int) < 0 by decide, by rw [oSF_o _ _ (by omega)]; exact hk⟩, cFr_c c _ _ _, fun _ => rfl⟩
theorem cla_T (hc : ¬ c = 35) (h0 : ¬ c = 0) (H : Tx T s σ) (hk : σ.1 35 2 = k) : cFr c σ (xCla σ c).2 ∧ (¬ zK (T k) → (xCla σ c).1 = 0 ∧ (xCla σ c).2.1 35 2 = k) ∧ (zK (T k) → ((xCla σ c).1 = 0 ↔ (zGo T k).1 = 0) ∧ (xCla σ c).2.1 35 2 = (zGo T k).2 ∧ (¬ (zGo T k).1 = 0 → cOk T k (xCla σ c).2 c)) := by
  have ea := ahd_T H hk
  by_cases K : zK (T k)
  · have f1 : cFr c σ (xCl1 σ c) := cFr_t (cFr_2 c σ _) (cFr_c c _ _ _)
    have H1 : Tx T s (xCl1 σ c) := Tx_fr hc f1 H
    have p1 : (xCl1 σ c).1 35 2 = ((k + 1 : Nat) : Int) := by
      unfold xCl1
      rw [oSF_o _ _ (by omega), oSF_s, hk]
      omega
    have o1 : (xCl1 σ c).1 c 0 = T k := by
      unfold xCl1
      rw [oSF_s, ea]
    obtain ⟨a1, a2, a3, a4⟩ := get_T hc H1 p1 1
    have f2 : cFr c σ (xCl2 σ c) := cFr_t f1 a3
    have H2 : Tx T s (xCl2 σ c) := Tx_fr hc f2 H
    have o2 : (xCl2 σ c).1 c 0 = T k := by
      show (oSF (xDig (xCl1 σ c)).2 c 1 _).1 c 0 = _
      rw [oSF_o _ _ (by omega), a4, o1]
    have o21 : (xCl2 σ c).1 c 1 = (xDig (xCl1 σ c)).1 := oSF_s _ _ _ _
    unfold xCla
    rw [ea, if_neg (not_not_intro K)]
    by_cases e112 : T k = 112
    · rw [if_pos e112]
      have g : zGo T k = (1, k + 1) := by
        unfold zGo
        rw [show zDg (T k) = 0 by rw [e112]; rfl, zSc_0]
        dsimp only
        rw [if_neg (by decide), if_neg (by omega)]
      rw [g]
      exact ⟨f1, fun w => absurd K w, fun _ => ⟨Iff.intro (fun z => absurd (show (1 : Int) = 0 from z) (by decide)) (fun z => absurd (show (1 : Int) = 0 from z) (by decide)), p1, fun _ => ⟨o1, fun z => by omega, fun z => by omega, fun z => by omega⟩⟩⟩
    · rw [if_neg e112]
      have s1 : ∃ d, zDg (T k) = d + 2 ∧ ((T k = 119 ∧ d = 1) ∨ (¬ T k = 119 ∧ d = 0)) := by
        unfold zDg
        rw [if_neg e112]
        by_cases z : T k = 119
        · exact ⟨1, by rw [if_pos z], Or.inl ⟨z, rfl⟩⟩
        · exact ⟨0, by rw [if_neg z], Or.inr ⟨z, rfl⟩⟩
      obtain ⟨D, hD, hD2⟩ := s1
      by_cases z1 : zD (T (k + 1))
      · obtain ⟨b1, b2, b3⟩ := a1 z1
        have p2 : (xCl2 σ c).1 35 2 = ((k + 2 : Nat) : Int) := b3
        have u1 : (xCl2 σ c).1 c 1 = T (k + 1) - 48 := by rw [o21, b1]
        rw [if_neg b2]
        have sc1 : zSc T (zDg (T k)) (k + 1) = zSc T (D + 1) (k + 2) := by rw [hD, zSc_s, if_pos z1]
        by_cases e104 : T k = 104
        · rw [if_pos e104]
          have D0 : D = 0 := by omega
          obtain ⟨n1, n2, n3⟩ := num_T (c := c) H2 p2
          have n4 := (num_T (c := 0) H2 p2).2.2
          have f4 : cFr c σ (xCl4 (xCl2 σ c) c) := cFr_t f2 (cFr_t n3 (cFr_c c _ _ _))
          have p4 : (xCl4 (xCl2 σ c) c).1 35 2 = (xNum (xCl2 σ c)).2.1 35 2 := xCl4_at hc
          rw [D0] at sc1
          by_cases z2 : zD (T (k + 2))
          · obtain ⟨m1, m2, m3⟩ := n1 z2
            have g : zGo T k = (1, if zD (T (k + 3)) then k + 4 else k + 3) := by
              unfold zGo
              rw [sc1, zSc_s, if_pos z2, zSc_0]
              dsimp only
              rw [if_neg (by decide)]
              by_cases y : zD (T (k + 3))
              · rw [if_pos ⟨Or.inr e104, y⟩, if_pos y]
              · rw [if_neg (fun w => y w.2), if_neg y]
            rw [g]
            dsimp only
            refine ⟨f4, fun w => absurd K w, fun _ => ⟨?_, ?_, fun _ => ⟨?_, fun z => by omega, fun z => by omega, fun _ => ⟨?_, ?_⟩⟩⟩⟩
            · rw [oB_t m2]
            · rw [p4, m3]
              split <;> rfl
            · show (oSF (xNum (xCl2 σ c)).2 c 3 _).1 c 0 = _
              rw [oSF_o _ _ (by omega), n4.2 c 0 (by omega) h0, o2]
            · show (oSF (xNum (xCl2 σ c)).2 c 3 _).1 c 1 = _
              rw [oSF_o _ _ (by omega), n4.2 c 1 (by omega) h0, u1]
            · show (oSF (xNum (xCl2 σ c)).2 c 3 _).1 c 3 = _
              rw [oSF_s, m1]
          · obtain ⟨m1, m2⟩ := n2 z2
            have g : zGo T k = (0, k + 2) := by
              unfold zGo
              rw [sc1, zSc_s, if_neg z2]
              rfl
            rw [g]
            dsimp only
            refine ⟨f4, fun w => absurd K w, fun _ => ⟨?_, ?_, fun w => absurd rfl w⟩⟩
            · rw [oB_f (not_not_intro m1)]
            · rw [p4, m2]
        · rw [if_neg e104]
          obtain ⟨g1, g2, g3, g4⟩ := get_T hc H2 p2 2
          have f3 : cFr c σ (xCl3 (xCl2 σ c) c) := cFr_t f2 g3
          have H3 : Tx T s (xCl3 (xCl2 σ c) c) := Tx_fr hc f3 H
          have o3 : (xCl3 (xCl2 σ c) c).1 c 0 = T k := by
            show (oSF (xDig (xCl2 σ c)).2 c 2 _).1 c 0 = _
            rw [oSF_o _ _ (by omega), g4, o2]
          have o31 : (xCl3 (xCl2 σ c) c).1 c 1 = T (k + 1) - 48 := by
            show (oSF (xDig (xCl2 σ c)).2 c 2 _).1 c 1 = _
            rw [oSF_o _ _ (by omega), g4, u1]
          have o32 : (xCl3 (xCl2 σ c) c).1 c 2 = (xDig (xCl2 σ c)).1 := oSF_s _ _ _ _
          by_cases z2 : zD (T (k + 2))
          · obtain ⟨c1, c2, c3⟩ := g1 z2
            have p3 : (xCl3 (xCl2 σ c) c).1 35 2 = ((k + 3 : Nat) : Int) := c3
            rw [c1] at o32
            rw [if_neg c2]
            have sc2 : zSc T (D + 1) (k + 2) = zSc T D (k + 3) := by rw [zSc_s, if_pos z2]
            by_cases e109 : T k = 109
            · rw [if_pos e109]
              have g : zGo T k = (1, k + 3) := by
                unfold zGo
                rw [sc1, sc2, show D = 0 by omega, zSc_0]
                dsimp only
                rw [if_neg (by decide), if_neg (fun w => by omega)]
              rw [g]
              exact ⟨f3, fun w => absurd K w, fun _ => ⟨Iff.intro (fun z => absurd (show (1 : Int) = 0 from z) (by decide)) (fun z => absurd (show (1 : Int) = 0 from z) (by decide)), p3, fun _ => ⟨o3, fun z => by omega, fun _ => ⟨o31, o32⟩, fun z => by omega⟩⟩⟩
            · rw [if_neg e109]
              have e119 : T k = 119 := by omega
              have D1 : D = 1 := by omega
              obtain ⟨n1, n2, n3⟩ := num_T (c := c) H3 p3
              have n4 := (num_T (c := 0) H3 p3).2.2
              have f4 : cFr c σ (xCl4 (xCl3 (xCl2 σ c) c) c) := cFr_t f3 (cFr_t n3 (cFr_c c _ _ _))
              have p4 : (xCl4 (xCl3 (xCl2 σ c) c) c).1 35 2 = (xNum (xCl3 (xCl2 σ c) c)).2.1 35 2 := xCl4_at hc
              by_cases z3 : zD (T (k + 3))
              · obtain ⟨m1, m2, m3⟩ := n1 z3
                have g : zGo T k = (1, if zD (T (k + 4)) then k + 5 else k + 4) := by
                  unfold zGo
                  rw [sc1, sc2, D1, zSc_s, if_pos z3, zSc_0]
                  dsimp only
                  rw [if_neg (by decide)]
                  by_cases y : zD (T (k + 4))
                  · rw [if_pos ⟨Or.inl e119, y⟩, if_pos y]
                  · rw [if_neg (fun w => y w.2), if_neg y]
                rw [g]
                dsimp only
                refine ⟨f4, fun w => absurd K w, fun _ => ⟨?_, ?_, fun _ => ⟨?_, fun _ => ⟨?_, ?_, ?_⟩, fun z => by omega, fun z => by omega⟩⟩⟩
                · rw [oB_t m2]
                · rw [p4, m3]
                  split <;> rfl
                · show (oSF (xNum (xCl3 (xCl2 σ c) c)).2 c 3 _).1 c 0 = _
                  rw [oSF_o _ _ (by omega), n4.2 c 0 (by omega) h0, o3]
                · show (oSF (xNum (xCl3 (xCl2 σ c) c)).2 c 3 _).1 c 1 = _
                  rw [oSF_o _ _ (by omega), n4.2 c 1 (by omega) h0, o31]
                · show (oSF (xNum (xCl3 (xCl2 σ c) c)).2 c 3 _).1 c 2 = _
                  rw [oSF_o _ _ (by omega), n4.2 c 2 (by omega) h0, o32]
                · show (oSF (xNum (xCl3 (xCl2 σ c) c)).2 c 3 _).1 c 3 = _
                  rw [oSF_s, m1]
              · obtain ⟨m1, m2⟩ := n2 z3
                have g : zGo T k = (0, k + 3) := by
                  unfold zGo
                  rw [sc1, sc2, D1, zSc_s, if_neg z3]
                  rfl
                rw [g]
                dsimp only
                refine ⟨f4, fun w => absurd K w, fun _ => ⟨?_, ?_, fun w => absurd rfl w⟩⟩
                · rw [oB_f (not_not_intro m1)]
                · rw [p4, m2]
          · obtain ⟨c1, c2⟩ := g2 z2
            rw [if_pos c1]
            have g : zGo T k = (0, k + 2) := by
              unfold zGo
              rw [sc1, zSc_s, if_neg z2]
              rfl
            rw [g]
            dsimp only
            exact ⟨f3, fun w => absurd K w, fun _ => ⟨Iff.intro (fun _ => rfl) (fun _ => rfl), c2, fun w => absurd rfl w⟩⟩
      · obtain ⟨b1, b2⟩ := a2 z1
        rw [if_pos b1]
        have g : zGo T k = (0, k + 1) := by
          unfold zGo
          rw [hD, zSc_s, if_neg z1]
          rfl
        rw [g]
        dsimp only
        exact ⟨f2, fun w => absurd K w, fun _ => ⟨Iff.intro (fun _ => rfl) (fun _ => rfl), b2, fun w => absurd rfl w⟩⟩
  · unfold xCla
    rw [ea, if_pos K]
    exact ⟨cFr_r c σ, fun _ => ⟨rfl, hk⟩, fun w => absurd w K⟩
end DIG

