/-! flower: both sides find alike -/
theorem gd_back {n : Nat} {W : Int → Int → Int} {M : Int → Int} {P : Nat → Int} {t : Nat} (hG : gdP n W M P t) (gm : GM n W M) {j : Nat} (hj : j < t) (he : j % 2 = 0) (h0 : ¬ j = 0) : M (P j) = P (j - 1) := by
  have c := hG.2.2 j hj
  unfold cMay at c
  rw [if_neg h0, if_neg (by omega)] at c
  have r := hG.1 j hj
  obtain ⟨-, m, -⟩ := gm.2 (P (j - 1)) (by rw [c]; exact r.1)
  rw [c] at m
  exact m
section FLO
variable {n : Nat} {σ τ : oSg}
theorem flo_one (H : Lk n σ τ) {a b : Nat} (a7 : a ≤ 7) (ao : a % 2 = 1) (be : b % 2 = 0) (ba : b + 2 < a) : (vSeek σ a b).1 = (vB τ ((b + 1 : Nat) : Int) ((a - b : Nat) : Int)).1 ∧ (¬ (vB τ ((b + 1 : Nat) : Int) ((a - b : Nat) : Int)).1 = 0 → (∀ j, j < a → (vSeek σ a b).2.2 64 j = (vB τ ((b + 1 : Nat) : Int) ((a - b : Nat) : Int)).2.2 74 j) ∧ gdP n (nW (gW (τ.2 69))) (nM (gM (τ.2 69))) ((vB τ ((b + 1 : Nat) : Int) ((a - b : Nat) : Int)).2.2 74) a) := by
  obtain ⟨n7, h1, h0, hW, hM, gw, gm⟩ := H
  have F10 : (oSF (oSF τ 68 10 ((b + 1 : Nat) : Int)) 68 11 ((a - b : Nat) : Int)).1 68 10 = ((b + 1 : Nat) : Int) := by rw [oSF_o _ _ (by omega), oSF_s]
  have F11 : (oSF (oSF τ 68 10 ((b + 1 : Nat) : Int)) 68 11 ((a - b : Nat) : Int)).1 68 11 = ((a - b : Nat) : Int) := oSF_s _ _ _ _
  have b' := bis (n := n) (L := a) (B := b) (W := nW (gW (τ.2 69))) (M := nM (gM (τ.2 69))) (F := (oSF (oSF τ 68 10 ((b + 1 : Nat) : Int)) 68 11 ((a - b : Nat) : Int)).1) (g := τ.2 69) (dn := dnB) (en := enB) (my := myB) a7 n7 h0 (fun p => (gm.1 p).1)
    (fun υ t h ht => by
      unfold dnB
      rw [oB_eq0, Decidable.not_not, h, F10, F11]
      omega)
    (fun σ' τ' e1 e2 hG hC hP => by
      unfold vEnds enB
      obtain ⟨c1, c2, c3, c4, c5⟩ := hC
      have e := nP_of c2 a7 (j := a - 1) (by omega)
      have eb := nP_of c2 a7 (j := b) (by omega)
      rw [show ((a - 1 : Nat) : Int) = (a : Int) - 1 by omega] at e
      have ix : (((b + 1 : Nat) : Int) - 1).toNat = b := by omega
      rw [c2, c3, if_neg (by omega), c4, e2, e, eb, hP _ (by omega), hP _ (by omega), e1, F10, ix]
      refine oB_congr ⟨fun z => ⟨z, ?_⟩, fun z => z.1⟩
      rw [gd_back hG gm (j := a - 1) (by omega) (by omega) (by omega)]
      exact fun z => hG.2.1 b (a - 1 - 1) (by omega) (by omega) z.symm)
    (fun τ' t p e1 e2 ht hp hG ho => by
      unfold myB cMay
      rw [e2, e1, F10]
      by_cases c : t = 0
      · rw [if_pos c, if_pos c, oB_eq0, Decidable.not_not]
      · rw [if_neg c, if_neg c]
        have ev : (if (t : Int) < ((b + 1 : Nat) : Int) then oRem t 2 = 0 else oRem ((t : Int) - ((b + 1 : Nat) : Int) + 1) 2 = 0) ↔ t % 2 = 0 := by
          split
          · rw [nRem2 (by omega)]
            omega
          · rw [show (t : Int) - ((b + 1 : Nat) : Int) + 1 = ((t - b : Nat) : Int) by omega, nRem2 (by omega)]
            omega
        by_cases r : t % 2 = 1
        · rw [if_neg (fun z => by have := ev.mp z; omega), if_pos r, oB_eq0, Decidable.not_not]
          refine ⟨fun z => z.1, fun z => ⟨z, ?_⟩⟩
          by_cases t1 : t - 1 = 0
          · have c0 := hG.2.2 0 (by omega)
            unfold cMay at c0
            rw [if_pos rfl] at c0
            rw [t1, c0]
            omega
          · rw [gd_back hG gm (j := t - 1) (by omega) (by omega) t1]
            exact ho _ (by omega)
        · rw [if_pos (ev.mpr (by omega)), if_neg r, oB_eq0, Decidable.not_not])
    8 0 0 (oSF (oSF σ 63 0 a) 63 1 b) (oSF (oSF τ 68 10 ((b + 1 : Nat) : Int)) 68 11 ((a - b : Nat) : Int))
    ⟨by rw [oSF_o _ _ (by omega), oSF_o _ _ (by omega)]; exact h1, by rw [oSF_o _ _ (by omega), oSF_s], oSF_s _ _ _ _, hW, hM⟩ rfl rfl (by omega) (fun j hj => absurd hj (Nat.not_lt_zero j)) (gd_0 _ _ _ _) (fun p hp => by
      rw [Nat.zero_testBit]
      exact ⟨fun z => absurd z (by decide), fun ⟨j, hj, _⟩ => absurd hj (Nat.not_lt_zero j)⟩)
  exact ⟨b'.1, fun z => ⟨(b'.2 z).1, (b'.2 z).2.1⟩⟩
/-- what is found -/
def fdF (n : Nat) (σ τ : oSg) (W : Int → Int → Int) (M : Int → Int) (a b : Nat) : Prop := σ.1 63 0 = a ∧ σ.1 63 1 = b ∧ τ.1 68 10 = (b : Int) + 1 ∧ τ.1 68 11 = (a : Int) - b ∧ (∀ j, j < a → σ.2 64 j = τ.2 74 j) ∧ gdP n W M (τ.2 74) a
def pC (x : Nat × Nat) : Int × Int := ((x.1 : Int), (x.2 : Int))
def pM (x : Nat × Nat) : Int × Int := ((x.1 : Int), ((x.2 + 1 : Nat) : Int))
theorem flo_try : ∀ (ls : List (Nat × Nat)) {σ τ : oSg}, Lk n σ τ → (∀ x ∈ ls, x.1 ≤ 7 ∧ x.1 % 2 = 1 ∧ x.2 % 2 = 0 ∧ x.2 + 2 < x.1) → (sTry (ls.map pC) σ).1 = (yFl ((ls.filter (fun x => decide (x.1 ≤ n))).map pM) τ).1 ∧ (¬ (yFl ((ls.filter (fun x => decide (x.1 ≤ n))).map pM) τ).1 = 0 → ∃ x ∈ ls, x.1 ≤ n ∧ fdF n (sTry (ls.map pC) σ).2 (yFl ((ls.filter (fun x => decide (x.1 ≤ n))).map pM) τ).2 (nW (gW (τ.2 69))) (nM (gM (τ.2 69))) x.1 x.2)
  | [], σ, τ, _, _ => ⟨rfl, fun z => absurd rfl z⟩
  | x :: t, σ, τ, H, hl => by
    obtain ⟨a7, ao, be, ba⟩ := hl x List.mem_cons_self
    obtain ⟨h1, h2⟩ := flo_one H a7 ao be ba
    have e1 : sTry ((x :: t).map pC) σ = if (vSeek σ x.1 x.2).1 = 0 then sTry (t.map pC) (vSeek σ x.1 x.2).2 else (1, (vSeek σ x.1 x.2).2) := rfl
    obtain ⟨k1, k2⟩ := vSeek_k σ x.1 x.2
    rw [e1, List.filter_cons]
    by_cases cn : x.1 ≤ n
    · rw [if_pos (decide_eq_true cn), h1]
      have e2 : yFl ((x :: t.filter (fun x => decide (x.1 ≤ n))).map pM) τ = if (vB τ ((x.2 + 1 : Nat) : Int) ((x.1 : Int) + 1 - ((x.2 + 1 : Nat) : Int))).1 = 0 then yFl ((t.filter (fun x => decide (x.1 ≤ n))).map pM) (oSF (vB τ ((x.2 + 1 : Nat) : Int) ((x.1 : Int) + 1 - ((x.2 + 1 : Nat) : Int))).2 68 10 (((x.2 + 1 : Nat) : Int) + 2)) else (1, (vB τ ((x.2 + 1 : Nat) : Int) ((x.1 : Int) + 1 - ((x.2 + 1 : Nat) : Int))).2) := rfl
      rw [e2, show (x.1 : Int) + 1 - ((x.2 + 1 : Nat) : Int) = ((x.1 - x.2 : Nat) : Int) by omega]
      have k3 := (vB_s τ ((x.2 + 1 : Nat) : Int) ((x.1 - x.2 : Nat) : Int)).2 69 (by decide)
      by_cases c : (vB τ ((x.2 + 1 : Nat) : Int) ((x.1 - x.2 : Nat) : Int)).1 = 0
      · rw [if_pos c, if_pos c]
        obtain ⟨i1, i2⟩ := flo_try t (σ := (vSeek σ x.1 x.2).2) (τ := oSF (vB τ ((x.2 + 1 : Nat) : Int) ((x.1 - x.2 : Nat) : Int)).2 68 10 (((x.2 + 1 : Nat) : Int) + 2)) (Lk_s (k2 2 0 (by decide)) (k1 3 (by decide)) (k1 4 (by decide)) k3 H) (fun y hy => hl y (List.mem_cons_of_mem _ hy))
        refine ⟨i1, fun z => ?_⟩
        obtain ⟨y, hy, y1, y2⟩ := i2 z
        refine ⟨y, List.mem_cons_of_mem _ hy, y1, ?_⟩
        have e69 : (oSF (vB τ ((x.2 + 1 : Nat) : Int) ((x.1 - x.2 : Nat) : Int)).2 68 10 (((x.2 + 1 : Nat) : Int) + 2)).2 69 = τ.2 69 := k3
        rw [e69] at y2
        exact y2
      · rw [if_neg c, if_neg c]
        obtain ⟨a1, a2⟩ := h2 c
        have s1 := (vB_s τ ((x.2 + 1 : Nat) : Int) ((x.1 - x.2 : Nat) : Int)).1
        refine ⟨rfl, fun _ => ⟨x, List.mem_cons_self, cn, (vSeek_s σ x.1 x.2).1, (vSeek_s σ x.1 x.2).2, ?_, ?_, a1, a2⟩⟩
        · rw [s1, oSF_o _ _ (by omega), oSF_s]
          omega
        · rw [s1, oSF_s]
          omega
    · rw [if_neg (show ¬ decide (x.1 ≤ n) = true by rw [decide_eq_false cn]; decide)]
      have c : (vSeek σ x.1 x.2).1 = 0 := by
        by_cases z : (vB τ ((x.2 + 1 : Nat) : Int) ((x.1 - x.2 : Nat) : Int)).1 = 0
        · rw [h1, z]
        · obtain ⟨-, a2⟩ := h2 z
          exact absurd (pigeon n x.1 _ a2.1 a2.2.1) cn
      rw [if_pos c]
      obtain ⟨i1, i2⟩ := flo_try t (σ := (vSeek σ x.1 x.2).2) (τ := τ) (Lk_s (k2 2 0 (by decide)) (k1 3 (by decide)) (k1 4 (by decide)) rfl H) (fun y hy => hl y (List.mem_cons_of_mem _ hy))
      refine ⟨i1, fun z => ?_⟩
      obtain ⟨y, hy, y1, y2⟩ := i2 z
      exact ⟨y, List.mem_cons_of_mem _ hy, y1, y2⟩
def lFN : List (Nat × Nat) := [(3, 0), (5, 0), (5, 2), (7, 0), (7, 2), (7, 4)]
theorem lFlo_e : lFlo = lFN.map pC := rfl
theorem lF_chk : ∀ n : Fin 8, lF (n.val : Int) = (lFN.filter (fun x => decide (x.1 ≤ n.val))).map pM := by decide +kernel
theorem flo_all (H : Lk n σ τ) : (sTry lFlo σ).1 = (yFl (lF n) τ).1 ∧ (¬ (yFl (lF n) τ).1 = 0 → ∃ a b : Nat, (a ≤ n ∧ a ≤ 7 ∧ a % 2 = 1 ∧ b % 2 = 0 ∧ b + 2 < a) ∧ fdF n (sTry lFlo σ).2 (yFl (lF n) τ).2 (nW (gW (τ.2 69))) (nM (gM (τ.2 69))) a b) := by
  have n7 := H.1
  have bd : ∀ x ∈ lFN, x.1 ≤ 7 ∧ x.1 % 2 = 1 ∧ x.2 % 2 = 0 ∧ x.2 + 2 < x.1 := by decide
  obtain ⟨h1, h2⟩ := flo_try lFN H bd
  rw [lFlo_e, show lF (n : Int) = _ from lF_chk ⟨n, by omega⟩]
  refine ⟨h1, fun z => ?_⟩
  obtain ⟨x, hx, y1, y2⟩ := h2 z
  obtain ⟨b1, b2, b3, b4⟩ := bd x hx
  exact ⟨x.1, x.2, ⟨y1, b1, b2, b3, b4⟩, y2⟩
theorem c_flower (H : Inv σ) {d : Nat} (hd : 20 ≤ d) (w k : Int) : Both d 66 176 [.inl w, .inl k] σ := by
  have HA := H.1
  have x := m_X_flower (d := d) (σ := σ) (w := w) (k := k) (vw_0 HA) (vw_7 HA) (by omega)
  unfold xFlower at x
  by_cases cw : w < 0 ∨ 1 < w
  · have y := m_M_flower (d := d) (σ := σ) (w := w) (k := k) HA.2.1.1 HA.2.1.2 (by omega)
    unfold yFlower at y
    rw [if_pos cw] at x y
    exact Both_i x y rfl H
  · rw [if_neg cw] at x
    have f1 := Fr_try lFlo σ
    have H1 := Inv_fr H f1
    obtain ⟨n, hn⟩ : ∃ n : Nat, σ.2 69 0 = n := ⟨(σ.2 69 0).toNat, by have := HA.2.1.1; omega⟩
    have k1 := (sTry_k lFlo σ).1 69 (by decide)
    have LK : Lk n σ (sTry lFlo σ).2 := Lk_s rfl rfl rfl k1 (Lk_of HA hn)
    obtain ⟨w1, w2⟩ := flo_all LK
    rw [w1] at x
    have y := m_M_flower (d := d) (σ := (sTry lFlo σ).2) (w := w) (k := k) H1.1.2.1.1 H1.1.2.1.2 (by omega)
    unfold yFlower at y
    rw [if_neg cw, k1, hn] at y
    have fr := Inv_fr H1 (Fr_yfl (lF n) (sTry lFlo σ).2)
    by_cases c : (yFl (lF n) (sTry lFlo σ).2).1 = 0
    · rw [if_pos c] at x y
      exact Both_i x y rfl fr
    · rw [if_neg c] at x y
      obtain ⟨a, b, ⟨an, a7, ao, be, ba⟩, q1, q2, q3, q4, q5, -⟩ := w2 c
      generalize yFl (lF n) (sTry lFlo σ).2 = Y at *
      generalize sTry lFlo σ = X at *
      unfold vStem vRing at x
      rw [q1, q2] at x
      rw [q3, q4] at y
      by_cases w0 : w = 0
      · rw [if_pos w0] at x y
        refine Both_i x y ?_ fr
        dsimp only
        by_cases km : k = -1
        · rw [if_pos km, if_pos km]
        · rw [if_neg km, if_neg km]
          by_cases kr : 0 ≤ k ∧ k ≤ (b : Int) + 1 - 1
          · rw [if_pos (show k ≤ (b : Int) by omega), if_pos kr]
            obtain ⟨K, rfl⟩ : ∃ K : Nat, k = K := ⟨k.toNat, by omega⟩
            rw [nP_of q1 a7 (by omega), Int.toNat_natCast]
            exact q5 K (by omega)
          · rw [if_neg kr]
            by_cases kb : k ≤ (b : Int)
            · rw [if_pos kb]
              unfold nP
              rw [if_neg (by omega)]
            · rw [if_neg kb]
      · rw [if_neg w0] at x y
        refine Both_i x y ?_ fr
        dsimp only
        by_cases km : k = -1
        · rw [if_pos km, if_pos km]
        · rw [if_neg km, if_neg km]
          by_cases kr : 0 ≤ k ∧ k ≤ (a : Int) - b - 1
          · rw [if_pos (show 0 ≤ k ∧ k < (a : Int) - b by omega), if_pos kr]
            obtain ⟨K, rfl⟩ : ∃ K : Nat, k = K := ⟨k.toNat, by omega⟩
            rw [show ((b : Int) + 1 - 1 + (K : Int)).toNat = b + K by omega, show (b : Int) + (K : Int) = ((b + K : Nat) : Int) by omega, nP_of q1 a7 (by omega)]
            exact q5 _ (by omega)
          · rw [if_neg kr, if_neg (by omega)]
end FLO

