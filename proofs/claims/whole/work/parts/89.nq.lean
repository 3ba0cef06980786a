/-! way, flower: both sides find alike -/
def Lk (n : Nat) (σ τ : oSg) : Prop := n ≤ 7 ∧ σ.1 2 0 = n ∧ τ.2 69 0 = n ∧ nW (σ.2 3) = nW (gW (τ.2 69)) ∧ nM (σ.2 4) = nM (gM (τ.2 69)) ∧ GW n (nW (gW (τ.2 69))) ∧ GM n (nW (gW (τ.2 69))) (nM (gM (τ.2 69)))
theorem Lk_s {n : Nat} {σ τ σ' τ' : oSg} (h1 : σ'.1 2 0 = σ.1 2 0) (h3 : σ'.2 3 = σ.2 3) (h4 : σ'.2 4 = σ.2 4) (h69 : τ'.2 69 = τ.2 69) (H : Lk n σ τ) : Lk n σ' τ' := by
  unfold Lk
  rw [h1, h3, h4, h69]
  exact H
theorem Lk_of {σ : oSg} (HA : IA σ) {n : Nat} (hn : σ.2 69 0 = n) : Lk n σ σ := by
  have h7 := HA.2.1.2
  refine ⟨by omega, by rw [vw_n HA, hn], hn, vw_W HA, vw_M HA, ?_, ?_⟩
  · rw [← hn]; exact HA.2.2.1
  · rw [← hn]; exact HA.2.2.2.1
/-- what a try of the class leaves as it was -/
theorem vSeek_k (σ : oSg) (l p : Int) : (∀ q, ¬ q = 64 → (vSeek σ l p).2.2 q = σ.2 q) ∧ ∀ q j, ¬ q = 63 → (vSeek σ l p).2.1 q j = σ.1 q j := by
  obtain ⟨h1, h2, -⟩ := sDn_s 8 0 0 (oSF (oSF σ 63 0 l) 63 1 p)
  refine ⟨fun q hq => h2 q hq, fun q j hq => ?_⟩
  show (sDn 8 0 0 (oSF (oSF σ 63 0 l) 63 1 p)).2.1 q j = _
  rw [h1, oSF_o _ _ (by omega), oSF_o _ _ (by omega)]
theorem sTry_k : ∀ (t : List (Int × Int)) (σ : oSg), (∀ q, ¬ q = 64 → (sTry t σ).2.2 q = σ.2 q) ∧ ∀ q j, ¬ q = 63 → (sTry t σ).2.1 q j = σ.1 q j
  | [], σ => ⟨fun _ _ => rfl, fun _ _ _ => rfl⟩
  | x :: t, σ => by
    obtain ⟨h1, h2⟩ := vSeek_k σ x.1 x.2
    obtain ⟨i1, i2⟩ := sTry_k t (vSeek σ x.1 x.2).2
    unfold sTry
    split
    · exact ⟨fun q hq => (i1 q hq).trans (h1 q hq), fun q j hq => (i2 q j hq).trans (h2 q j hq)⟩
    · exact ⟨h1, h2⟩
theorem Fr_try (t : List (Int × Int)) (σ : oSg) : Fr σ (sTry t σ).2 := by
  obtain ⟨h1, h2⟩ := sTry_k t σ
  exact ⟨fun q hq => h1 q (by omega), fun k _ => by rw [h1 69 (by decide)], fun q j hq => h2 q j (by omega)⟩
theorem Fr_ytry (t : List Int) (σ : oSg) : Fr σ (yTry t σ).2 := by
  obtain ⟨h1, h2, -⟩ := yTry_s t σ
  exact ⟨fun q hq => h1 q (by omega), fun k _ => by rw [h1 69 (by decide)], fun q j hq => h2 q j (by omega)⟩
theorem Fr_yfl (t : List (Int × Int)) (σ : oSg) : Fr σ (yFl t σ).2 := by
  obtain ⟨h1, h2, -⟩ := yFl_s t σ
  exact ⟨fun q hq => h1 q (by omega), fun k _ => by rw [h1 69 (by decide)], fun q j hq => h2 q j (by omega)⟩
section WAY
variable {n : Nat} {σ τ : oSg}
theorem gd_0 (n : Nat) (W : Int → Int → Int) (M : Int → Int) (P : Nat → Int) : gdP n W M P 0 := ⟨fun j hj => absurd hj (Nat.not_lt_zero j), fun i j _ hj => absurd hj (Nat.not_lt_zero j), fun j hj => absurd hj (Nat.not_lt_zero j)⟩
theorem way_one (H : Lk n σ τ) {l : Nat} (l2 : 2 ≤ l) (l7 : l ≤ 7) : (vSeek σ l (-1)).1 = (vG τ l).1 ∧ (¬ (vG τ l).1 = 0 → (∀ j, j < l → (vSeek σ l (-1)).2.2 64 j = (vG τ l).2.2 74 j) ∧ gdP n (nW (gW (τ.2 69))) (nM (gM (τ.2 69))) ((vG τ l).2.2 74) l ∧ nM (gM (τ.2 69)) ((vG τ l).2.2 74 (l - 1)) = -1) := by
  obtain ⟨n7, h1, h0, hW, hM, gw, gm⟩ := H
  have b := bis (n := n) (L := l) (B := -1) (W := nW (gW (τ.2 69))) (M := nM (gM (τ.2 69))) (F := (oSF τ 68 9 l).1) (g := τ.2 69) (dn := dnG) (en := enG) (my := myG) l7 n7 h0 (fun p => (gm.1 p).1)
    (fun υ t h ht => by
      unfold dnG
      rw [oB_eq0, Decidable.not_not, h, oSF_s]
      omega)
    (fun σ' τ' e1 e2 hG hC hP => by
      unfold vEnds enG
      obtain ⟨c1, c2, c3, c4, c5⟩ := hC
      have e := nP_of c2 l7 (j := l - 1) (by omega)
      rw [show ((l - 1 : Nat) : Int) = (l : Int) - 1 by omega] at e
      rw [c2, c3, if_pos rfl, c5, e2, e, hP _ (by omega)]
      refine oB_congr ?_
      have := (gm.1 (τ'.2 74 (l - 1))).1
      omega)
    (fun τ' t p e1 e2 ht hp hG ho => by
      unfold myG cMay
      rw [e2]
      by_cases c : t = 0
      · rw [if_pos c, if_pos c, oB_eq0, Decidable.not_not]
      · rw [if_neg c, if_neg c, nRem2 (by omega)]
        by_cases r : t % 2 = 1
        · rw [if_pos (by omega), if_pos r, oB_eq0, Decidable.not_not]
        · rw [if_neg (by omega), if_neg r, oB_eq0, Decidable.not_not])
    8 0 0 (oSF (oSF σ 63 0 l) 63 1 (-1)) (oSF τ 68 9 l)
    ⟨by rw [oSF_o _ _ (by omega), oSF_o _ _ (by omega)]; exact h1, by rw [oSF_o _ _ (by omega), oSF_s], oSF_s _ _ _ _, hW, hM⟩ rfl rfl (by omega) (fun j hj => absurd hj (Nat.not_lt_zero j)) (gd_0 _ _ _ _) (fun p hp => by
      rw [Nat.zero_testBit]
      exact ⟨fun z => absurd z (by decide), fun ⟨j, hj, _⟩ => absurd hj (Nat.not_lt_zero j)⟩)
  refine ⟨b.1, fun z => ?_⟩
  obtain ⟨b1, b2, b3⟩ := b.2 z
  refine ⟨b1, b2, ?_⟩
  have e69 : (vG τ l).2.2 69 = τ.2 69 := (vG_s τ l).2 69 (by decide)
  unfold enG at b3
  rw [oB_eq0, Decidable.not_not] at b3
  have b4 : nM (gM ((vG τ l).2.2 69)) ((vG τ l).2.2 74 (l - 1)) = -1 := b3
  rw [e69] at b4
  exact b4
/-- what is found -/
def fdW (n : Nat) (σ τ : oSg) (W : Int → Int → Int) (M : Int → Int) (l : Nat) : Prop := σ.1 63 0 = l ∧ τ.1 68 9 = l ∧ (∀ j, j < l → σ.2 64 j = τ.2 74 j) ∧ gdP n W M (τ.2 74) l ∧ M (τ.2 74 (l - 1)) = -1
theorem way_try : ∀ (ls : List Nat) {σ τ : oSg}, Lk n σ τ → (∀ l ∈ ls, 2 ≤ l ∧ l ≤ 7) → (sTry (ls.map (fun l : Nat => ((l : Int), -1))) σ).1 = (yTry (ls.map (fun l : Nat => (l : Int))) τ).1 ∧ (¬ (yTry (ls.map (fun l : Nat => (l : Int))) τ).1 = 0 → ∃ l ∈ ls, fdW n (sTry (ls.map (fun l : Nat => ((l : Int), -1))) σ).2 (yTry (ls.map (fun l : Nat => (l : Int))) τ).2 (nW (gW (τ.2 69))) (nM (gM (τ.2 69))) l)
  | [], σ, τ, _, _ => ⟨rfl, fun z => absurd rfl z⟩
  | l :: t, σ, τ, H, hl => by
    obtain ⟨l2, l7⟩ := hl l List.mem_cons_self
    obtain ⟨h1, h2⟩ := way_one H l2 l7
    have e1 : sTry ((l :: t).map (fun l : Nat => ((l : Int), -1))) σ = if (vSeek σ l (-1)).1 = 0 then sTry (t.map (fun l : Nat => ((l : Int), -1))) (vSeek σ l (-1)).2 else (1, (vSeek σ l (-1)).2) := rfl
    have e2 : yTry ((l :: t).map (fun l : Nat => (l : Int))) τ = if (vG τ l).1 = 0 then yTry (t.map (fun l : Nat => (l : Int))) (vG τ l).2 else (1, (vG τ l).2) := rfl
    rw [e1, e2, h1]
    obtain ⟨k1, k2⟩ := vSeek_k σ l (-1)
    have k3 := (vG_s τ l).2 69 (by decide)
    by_cases c : (vG τ l).1 = 0
    · rw [if_pos c, if_pos c]
      obtain ⟨i1, i2⟩ := way_try t (σ := (vSeek σ l (-1)).2) (τ := (vG τ l).2) (Lk_s (k2 2 0 (by decide)) (k1 3 (by decide)) (k1 4 (by decide)) k3 H) (fun x hx => hl x (List.mem_cons_of_mem _ hx))
      rw [k3] at i2
      refine ⟨i1, fun z => ?_⟩
      obtain ⟨x, hx, y⟩ := i2 z
      exact ⟨x, List.mem_cons_of_mem _ hx, y⟩
    · rw [if_neg c, if_neg c]
      obtain ⟨a1, a2, a3⟩ := h2 c
      exact ⟨rfl, fun _ => ⟨l, List.mem_cons_self, (vSeek_s σ l (-1)).1, by rw [(vG_s τ l).1, oSF_s], a1, a2, a3⟩⟩
theorem lWay_e : lWay = [2, 4, 6].map (fun l : Nat => ((l : Int), -1)) := rfl
theorem way_246 (H : Lk n σ τ) : (sTry lWay σ).1 = (yTry [2, 4, 6] τ).1 ∧ (¬ (yTry [2, 4, 6] τ).1 = 0 → ∃ l : Nat, (l = 2 ∨ l = 4 ∨ l = 6) ∧ fdW n (sTry lWay σ).2 (yTry [2, 4, 6] τ).2 (nW (gW (τ.2 69))) (nM (gM (τ.2 69))) l) := by
  obtain ⟨h1, h2⟩ := way_try [2, 4, 6] H (fun l hl => by
    simp only [List.mem_cons, List.not_mem_nil, or_false] at hl
    omega)
  refine ⟨h1, fun z => ?_⟩
  obtain ⟨l, hl, y⟩ := h2 z
  simp only [List.mem_cons, List.not_mem_nil, or_false] at hl
  exact ⟨l, hl, y⟩
theorem c_way (H : Inv σ) {d : Nat} (hd : 20 ≤ d) (k : Int) : Both d 65 175 [.inl k] σ := by
  have HA := H.1
  have x := m_X_way (d := d) (σ := σ) (k := k) (vw_0 HA) (vw_7 HA) (by omega)
  have f1 := Fr_try lWay σ
  have H1 := Inv_fr H f1
  have y := m_M_way (d := d) (σ := (sTry lWay σ).2) (k := k) H1.1.2.1.1 H1.1.2.1.2 (by omega)
  obtain ⟨n, hn⟩ : ∃ n : Nat, σ.2 69 0 = n := ⟨(σ.2 69 0).toNat, by have := HA.2.1.1; omega⟩
  have k1 := (sTry_k lWay σ).1 69 (by decide)
  obtain ⟨w1, w2⟩ := way_246 (σ := σ) (τ := (sTry lWay σ).2) (Lk_s rfl rfl rfl k1 (Lk_of HA hn))
  unfold xWay at x
  unfold yWay at y
  have fr := Inv_fr H1 (Fr_ytry [2, 4, 6] (sTry lWay σ).2)
  rw [w1] at x
  by_cases c : (yTry [2, 4, 6] (sTry lWay σ).2).1 = 0
  · rw [if_pos c] at x y
    exact Both_i x y rfl fr
  · rw [if_neg c] at x y
    obtain ⟨l, hl, p1, p2, p3, -, -⟩ := w2 c
    by_cases k0 : k = -1
    · rw [if_pos k0] at x y
      exact Both_i x y (by dsimp only; rw [p1, p2]) fr
    · rw [if_neg k0] at x y
      by_cases kk : 0 ≤ k ∧ k ≤ (yTry [2, 4, 6] (sTry lWay σ).2).2.1 68 9 - 1
      · rw [if_pos kk] at y
        refine Both_i x y ?_ fr
        dsimp only
        rw [p2] at kk
        obtain ⟨K, rfl⟩ : ∃ K : Nat, k = K := ⟨k.toNat, by omega⟩
        rw [nP_of p1 (by omega) (by omega), Int.toNat_natCast]
        exact p3 K (by omega)
      · rw [if_neg kk] at y
        refine Both_i x y ?_ fr
        dsimp only
        rw [p2] at kk
        unfold nP
        rw [p1, if_neg (by omega)]
end WAY

