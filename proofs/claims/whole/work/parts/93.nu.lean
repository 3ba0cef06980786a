/-! parts: over, edge, rest, the barrier -/
theorem rPl_max {F L : Nat → Nat} {l r v : Nat} : ∀ m, v ≤ rPl F L l r v m ∧ (∀ q, l < q → q ≤ l + m → tb (r &&& L l) q → 1 + F (nClr r q) ≤ rPl F L l r v m) ∧ (rPl F L l r v m = v ∨ ∃ q, l < q ∧ q ≤ l + m ∧ tb (r &&& L l) q ∧ rPl F L l r v m = 1 + F (nClr r q))
  | 0 => ⟨Nat.le_refl _, fun q h1 h2 => by omega, Or.inl rfl⟩
  | m + 1 => by
    obtain ⟨i1, i2, i3⟩ := rPl_max (F := F) (L := L) (l := l) (r := r) (v := v) m
    unfold rPl
    by_cases c : (r &&& L l).testBit (l + 1 + m) = true
    · rw [if_pos c]
      refine ⟨by omega, fun q h1 h2 h3 => ?_, ?_⟩
      · by_cases e : q = l + 1 + m
        · rw [e]; omega
        · have := i2 q h1 (by omega) h3
          omega
      · rcases Nat.le_total (rPl F L l r v m) (1 + F (nClr r (l + 1 + m))) with z | z
        · exact Or.inr ⟨l + 1 + m, by omega, by omega, c, by omega⟩
        · rcases i3 with i3 | ⟨q, q1, q2, q3, q4⟩
          · exact Or.inl (by omega)
          · exact Or.inr ⟨q, q1, by omega, q3, by omega⟩
    · rw [if_neg c]
      refine ⟨i1, fun q h1 h2 h3 => ?_, ?_⟩
      · by_cases e : q = l + 1 + m
        · rw [e] at h3
          exact absurd h3 c
        · exact i2 q h1 (by omega) h3
      · rcases i3 with i3 | ⟨q, q1, q2, q3, q4⟩
        · exact Or.inl i3
        · exact Or.inr ⟨q, q1, by omega, q3, q4⟩
theorem nSz_clrx : ∀ b : Fin 128, ∀ q : Fin 7, b.val.testBit q.val = true → nSz (nClr b.val q.val) + 1 = nSz b.val := by decide +kernel
theorem div_chk : ∀ x : Fin 1024, oDiv (x.val : Int) 100 = ((x.val / 100 : Nat) : Int) := by decide +kernel
/-- hundreds of the best value are the most pairs -/
theorem U_P {W : Int → Int → Int} {U : Int → Int} {n : Nat} {L : Nat → Nat} (n7 : n ≤ 7) (H : HV W U 100 n) (hw : ∀ i j, 0 ≤ W i j ∧ W i j ≤ 20) (hL : ∀ l q : Nat, l < 7 → q < 7 → (tb (L l) q ↔ 0 < W l q)) : ∀ k b : Nat, nSz b < k → b < 2 ^ n → 100 * (rP L k b : Int) ≤ U b ∧ U b ≤ 100 * (rP L k b : Int) + 10 * nSz b
  | 0, _, h, _ => absurd h (Nat.not_lt_zero _)
  | k + 1, b, h, hb => by
    have p2 : 2 ^ n ≤ 2 ^ 7 := Nat.pow_le_pow_right (by decide) n7
    have e : rP L (k + 1) b = if b = 0 then 0 else rPl (rP L k) L (nLow b) (nRst b) (rP L k (nRst b)) (6 - nLow b) := rfl
    rw [e]
    by_cases c : b = 0
    · rw [if_pos c, c]
      have z : nSz 0 = 0 := by decide
      rw [z, show U ((0 : Nat) : Int) = 0 from H.1]
      decide
    · rw [if_neg c]
      have b0 : 0 < b := Nat.pos_of_ne_zero c
      have b7 : b < 128 := by omega
      have l6 := nLow_le b0 b7
      have rl := nRst_lt b0 b7
      have s1 := nSz_rst b0 b7
      have ihr := U_P n7 H hw hL k (nRst b) (by omega) (by omega)
      have eU := H.2.2 b b0 hb
      obtain ⟨m1, m2, m3⟩ := nBest_max (W := W) (U := U) (o := 100) (v := U (nRst b)) (l := nLow b) (r := nRst b) (by omega) (6 - nLow b) (by omega)
      obtain ⟨p1, p2', p3⟩ := rPl_max (F := rP L k) (L := L) (l := nLow b) (r := nRst b) (v := rP L k (nRst b)) (6 - nLow b)
      rw [← eU] at m1 m2 m3
      generalize rPl (rP L k) L (nLow b) (nRst b) (rP L k (nRst b)) (6 - nLow b) = X at *
      -- one choice
      have ch : ∀ q, nLow b < q → q ≤ nLow b + (6 - nLow b) → tb (nRst b) q → nSz (nClr (nRst b) q) + 1 = nSz (nRst b) ∧ nClr (nRst b) q < 2 ^ n ∧ (0 < W (nLow b) q → nVw W U 100 (nLow b) q (nRst b) = 100 + W (nLow b) q + U (nClr (nRst b) q : Nat)) ∧ (¬ 0 < W (nLow b) q → nVw W U 100 (nLow b) q (nRst b) = 0) := fun q h1 h2 h3 => by
        have a := nSz_clrx ⟨nRst b, by omega⟩ ⟨q, by omega⟩ h3
        have cl := nClr_le (b := nRst b) (q := q) (by omega) (by omega)
        refine ⟨a, by omega, fun w => ?_, fun w => ?_⟩
        · unfold nVw
          rw [if_pos w, nClr_eq (by omega) (by omega)]
        · unfold nVw
          rw [if_neg w]
      constructor
      · rcases p3 with z | ⟨q, q1, q2, q3, q4⟩
        · rw [z]; omega
        · obtain ⟨t1, t2⟩ := tb_and.mp q3
          obtain ⟨a1, a2, a3, -⟩ := ch q q1 q2 t1
          have w := (hL (nLow b) q (by omega) (by omega)).mp t2
          have v := m2 q q1 q2 t1
          have ih := U_P n7 H hw hL k (nClr (nRst b) q) (by omega) a2
          rw [a3 w] at v
          rw [q4]
          omega
      · rcases m3 with z | ⟨q, q1, q2, q3, q4⟩
        · rw [z]; omega
        · obtain ⟨a1, a2, a3, a4⟩ := ch q q1 q2 q3
          by_cases w : 0 < W (nLow b) q
          · have t2 := (hL (nLow b) q (by omega) (by omega)).mpr w
            have v := p2' q q1 q2 (tb_and.mpr ⟨q3, t2⟩)
            have ih := U_P n7 H hw hL k (nClr (nRst b) q) (by omega) a2
            have w20 := (hw (nLow b) q).2
            rw [q4, a3 w]
            omega
          · rw [q4, a4 w]
            omega
theorem pairs_P {σ : oSg} {a t n : Nat} {L : Nat → Nat} (ha : oKd a = some 3) (ht : oKd t = some 4) (hN : cNet σ t) (hn : σ.1 t 0 = n) (hL : ∀ l q : Nat, l < 7 → q < 7 → (tb (L l) q ↔ 0 < nW (σ.2 (oRf t 1)) l q)) : (sFind σ a t 1).1 a 1 = (rP L 8 (2 ^ n - 1) : Nat) ∧ ∀ b : Nat, b < 2 ^ n → oDiv (fU σ a t 1 b) 100 = (rP L 8 b : Nat) := by
  obtain ⟨H, f1, f2, f3⟩ := find_of ha ht hN hn (r := 1) (Or.inr rfl)
  have n7 : n ≤ 7 := by have := hN.2.1; omega
  have e100 : rO 1 = 100 := rfl
  rw [e100] at H f2
  have p1 : 1 ≤ 2 ^ n := Nat.one_le_two_pow
  have UP := fun b hb => U_P n7 H hN.2.2 hL 8 b (by have := nSz_le b; omega) hb
  constructor
  · have s := nSz_le (2 ^ n - 1)
    obtain ⟨g1, g2, g3, g4, g5⟩ := gE_sc n7 H hN.2.2 n 0 (2 ^ n - 1) (fM σ a) 0 0 (by omega) (by omega) (LI_all n) (by omega) (by omega) (by omega) (by omega)
    have u := UP (2 ^ n - 1) (by omega)
    rw [f2]
    generalize gE (nW (σ.2 (oRf t 1))) (fU σ a t 1) 100 n 0 ((2 ^ n - 1, fM σ a), (0, 0)) = G at *
    omega
  · intro b hb
    have u := UP b hb
    have s := nSz_le b
    have r8 := rP_le L 8 b
    obtain ⟨V, hV⟩ : ∃ V : Nat, fU σ a t 1 b = V := ⟨(fU σ a t 1 b).toNat, by omega⟩
    rw [hV] at u ⊢
    have dv := div_chk ⟨V, by omega⟩
    dsimp only at dv
    rw [dv]
    omega
theorem lk_eq {σ : oSg} (HA : IA σ) {n : Nat} (hn : σ.2 69 0 = n) (j : Nat) : nLk (σ.2 3) n j = mLk (σ.2 69) j := by
  have gw := HA.2.2.1
  refine tb_eq (fun i => ?_)
  unfold tb nLk mLk fLk
  rw [nBits_tb, nBits_tb, vw_W HA, Bool.and_eq_true, Bool.and_eq_true, decide_eq_true_eq, decide_eq_true_eq, decide_eq_true_eq, decide_eq_true_eq]
  have n7 := HA.2.1.2
  constructor
  · rintro ⟨h1, h2⟩
    refine ⟨by omega, fun z => ?_, h2⟩
    rw [z, gw.2.2.1] at h2
    omega
  · rintro ⟨h1, h2, h3⟩
    refine ⟨?_, h3⟩
    rcases Nat.lt_or_ge i n with c | c
    · exact c
    · have := gw.2.2.2 i j (by omega)
      rw [gw.2.1] at this
      omega
theorem mL_tb {σ : oSg} (HA : IA σ) {l q : Nat} (hl : l < 7) (hq : q < 7) : tb (mL σ l) q ↔ 0 < nW (gW (σ.2 69)) l q := by
  have gw := HA.2.2.1
  unfold mL
  rw [if_pos hl]
  unfold tb mLk fLk
  rw [nBits_tb, Bool.and_eq_true, decide_eq_true_eq, decide_eq_true_eq]
  refine ⟨fun z => z.2.2, fun z => ⟨hq, fun w => ?_, z⟩⟩
  rw [w, gw.2.2.1] at z
  omega
theorem rPt_ext {L K : Nat → Nat} (h : ∀ j, j < 7 → L j = K j) (hL : ∀ j, j < 7 → L j < 128) {b p : Nat} (hb : b < 128) (hp : p < 7) : ∀ m, rPt L b p m = rPt K b p m
  | 0 => rfl
  | m + 1 => by
    have ih := rPt_ext h hL hb hp m
    obtain ⟨l1, l2⟩ := rPt_lt hL hb hp m
    unfold rPt
    rw [← ih]
    by_cases c : (rPt L b p m).2 = 0
    · rw [if_pos c, if_pos c]
    · have := nLow_le (Nat.pos_of_ne_zero c) l2
      rw [if_neg c, if_neg c, h _ (by omega)]
theorem rOd_ext {L K : Nat → Nat} (h : ∀ j, j < 7 → L j = K j) (hL : ∀ j, j < 7 → L j < 128) {b : Nat} (hb : b < 128) : ∀ p, p ≤ 7 → rOd L b p = rOd K b p
  | 0, _ => rfl
  | p + 1, hp => by
    have ih := rOd_ext h hL hb p (by omega)
    have l1 := (rOd_bd (L := L) hb p).2
    unfold rOd
    rw [← ih, rPt_ext h hL l1 (by omega) 7]
theorem rBr_of {L : Nat → Nat} {all : Nat} (h7 : all < 128) (hL : ∀ j, j < 7 → L j < 128) (hs : ∀ i j, i < 7 → j < 7 → tb (L i) j → tb (L j) i) : ∀ b, (rBr L all b).1 = rBm (rG L all) b ∧ (rBr L all b).2 = rG L all (rBm (rG L all) b)
  | 0 => by
    refine ⟨rfl, ?_⟩
    have e : nDif all 0 = all := tb_eq (fun i => by rw [tb_dif]; exact ⟨fun z => z.1, fun z => ⟨z, tb_0⟩⟩)
    show ((rOd L all 7).1 : Int) = rG L all 0
    unfold rG
    rw [e, od_eq hL hs h7, show nSz 0 = 0 by decide]
    omega
  | b + 1 => by
    obtain ⟨i1, i2⟩ := rBr_of h7 hL hs b
    have e : ((rOd L (nDif all (b + 1)) 7).1 : Int) - nSz (b + 1) = rG L all (b + 1) := by
      unfold rG
      rw [od_eq hL hs (nDif_lt h7)]
    unfold rBr rBm
    rw [e, i1, i2]
    split
    · exact ⟨rfl, rfl⟩
    · exact ⟨i1, i2⟩
theorem rBr_ext {L K : Nat → Nat} (h : ∀ j, j < 7 → L j = K j) (hL : ∀ j, j < 7 → L j < 128) {all : Nat} (h7 : all < 128) : ∀ b, rBr L all b = rBr K all b
  | 0 => by
    show (0, ((rOd L all 7).1 : Int)) = (0, ((rOd K all 7).1 : Int))
    rw [rOd_ext h hL h7 7 (Nat.le_refl 7)]
  | b + 1 => by
    unfold rBr
    rw [rBr_ext h hL h7 b, rOd_ext h hL (nDif_lt h7) 7 (Nat.le_refl 7)]
theorem nBits_ex {f g : Nat → Bool} : ∀ {n : Nat}, (∀ p, p < n → f p = g p) → nBits n f = nBits n g
  | 0, _ => rfl
  | n + 1, h => by
    show nBits n f + _ = nBits n g + _
    rw [nBits_ex (fun p hp => h p (by omega)), h n (by omega)]
theorem Fr_lks (σ : oSg) : Fr σ (sLks σ 7) := by
  unfold sLks
  exact ⟨fun q hq => oSW_ne _ (by omega) _, fun k _ => by rw [oSW_ne _ (by decide)], fun _ _ _ => rfl⟩
theorem Fr_SF (σ : oSg) {a k : Nat} (v : Int) (h : ¬ (a ≤ 34 ∨ (a = 35 ∧ k = 0) ∨ (a = 68 ∧ (k = 3 ∨ k = 6)))) : Fr σ (oSF σ a k v) := ⟨fun _ _ => rfl, fun _ _ => rfl, fun q j hq => oSF_o _ _ (fun z => h (by obtain ⟨rfl, rfl⟩ := z; exact hq))⟩
theorem Fr_lnk (σ : oSg) (n q : Nat) : Fr σ (sLnk σ n q) := by
  unfold sLnk
  exact ⟨fun q hq => oSW_ne _ (by omega) _, fun k _ => by rw [oSW_ne _ (by decide)], fun _ _ _ => rfl⟩
theorem Fr_br (σ : oSg) (x : Nat × Int) : Fr σ (sBr σ x) := Fr_t (Fr_SF _ _ (by decide)) (Fr_SF _ _ (by decide))
theorem Fr_sort (σ : oSg) (n : Nat) : Fr σ (sSort σ n) := Fr_t (Fr_t (Fr_SF _ _ (by decide)) (Fr_SF _ _ (by decide))) (Fr_SF _ _ (by decide))
theorem mL_69 {σ τ : oSg} (h : τ.2 69 = σ.2 69) {j : Nat} (hj : j < 7) : mL τ j = mL σ j := by
  unfold mL
  rw [if_pos hj, if_pos hj, h]
theorem c_parts {σ : oSg} (H : Inv σ) {d : Nat} (hd : 20 ≤ d) (w : Int) : Both d 84 189 [.inl w] σ := by
  have HA := H.1
  have x := m_X_parts (d := d) (σ := σ) (w := w) (vw_c HA) (by omega)
  unfold xParts at x
  obtain ⟨n, hn⟩ : ∃ n : Nat, σ.2 69 0 = n := ⟨(σ.2 69 0).toNat, by have := HA.2.1.1; omega⟩
  have n7 : n ≤ 7 := by have := HA.2.1.2; omega
  have p1 : 1 ≤ 2 ^ n := Nat.one_le_two_pow
  have p2 : 2 ^ n ≤ 2 ^ 7 := Nat.pow_le_pow_right (by decide) n7
  have h2 : σ.1 2 0 = n := by rw [vw_n HA, hn]
  rw [h2, Int.toNat_natCast] at x
  -- the model's side after a state of the class
  have stp : ∀ τ : oSg, Fr σ τ → oMi d 189 [.inr (.inr (.inl 68)), .inl w] τ (some (.inl (yParts τ w).1)) (yParts τ w).2 := by
    intro τ hf
    have H2 := Inv_fr H hf
    exact m_M_parts (d := d) (σ := τ) (w := w) H2.1.2.1.1 H2.1.2.1.2 (by omega)
  by_cases c : w < 0 ∨ 4 < w
  · rw [if_pos c] at x
    have y := stp σ (Fr_r σ)
    unfold yParts at y
    rw [if_pos c] at y
    exact Both_i x y rfl H
  · rw [if_neg c] at x
    have inv : ∀ τ, Fr σ τ → Inv (sLks τ 7) := fun τ hf => Inv_fr H (Fr_t hf (Fr_lks τ))
    by_cases c3 : 3 ≤ w
    · rw [if_pos c3] at x
      have fr := Fr_t (Fr_lnk σ n 7) (Fr_br (sLnk σ n 7) (rBr (fLnk σ n) (2 ^ n - 1) (2 ^ n - 1)))
      have y := stp _ fr
      have e69 : (sBr (sLnk σ n 7) (rBr (fLnk σ n) (2 ^ n - 1) (2 ^ n - 1))).2 69 = σ.2 69 := rfl
      have HA2 := (Inv_fr H fr).1
      have hL := fun j (hj : j < 7) => mL_lt (sBr (sLnk σ n 7) (rBr (fLnk σ n) (2 ^ n - 1) (2 ^ n - 1))) j
      have ext : ∀ j, j < 7 → fLnk σ n j = mL (sBr (sLnk σ n 7) (rBr (fLnk σ n) (2 ^ n - 1) (2 ^ n - 1))) j := fun j hj => by
        rw [mL_69 e69 hj]
        unfold fLnk mL
        rw [if_pos hj, if_pos hj, lk_eq HA hn]
      have gw := HA2.2.2.1
      have sy : ∀ i j, i < 7 → j < 7 → tb (mL (sBr (sLnk σ n 7) (rBr (fLnk σ n) (2 ^ n - 1) (2 ^ n - 1))) i) j → tb (mL (sBr (sLnk σ n 7) (rBr (fLnk σ n) (2 ^ n - 1) (2 ^ n - 1))) j) i := fun i j hi hj t => by
        rw [mL_tb HA2 hi hj] at t
        rw [mL_tb HA2 hj hi, gw.2.1]
        exact t
      have eb := rBr_ext ext (fun j hj => by rw [ext j hj]; exact mL_lt _ j hj) (all := 2 ^ n - 1) (by omega) (2 ^ n - 1)
      obtain ⟨r1, r2⟩ := rBr_of (L := mL (sBr (sLnk σ n 7) (rBr (fLnk σ n) (2 ^ n - 1) (2 ^ n - 1)))) (all := 2 ^ n - 1) (by omega) (fun j hj => mL_lt _ j hj) sy (2 ^ n - 1)
      rw [← eb] at r1 r2
      unfold yParts at y
      rw [if_neg c, e69, hn, Int.toNat_natCast] at y
      by_cases w3 : w = 3
      · rw [if_pos w3] at x y
        exact Both_i x y (by dsimp only; rw [r1]) (inv _ fr)
      · rw [if_neg w3] at x
        rw [if_neg w3, if_pos (by omega)] at y
        exact Both_i x y (by dsimp only; rw [r2]) (inv _ fr)
    · rw [if_neg c3] at x
      have e1 : (sFind σ 57 2 1).1 2 0 = n := by rw [sFind_o σ 1 0 (by decide), h2]
      rw [e1, Int.toNat_natCast] at x
      have fr := Fr_t (Fr_find σ (a := 57) (t := 2) 1 (Or.inl rfl)) (Fr_sort (sFind σ 57 2 1) n)
      have y := stp _ fr
      have e69 : (sSort (sFind σ 57 2 1) n).2 69 = σ.2 69 := find_69 σ 1
      unfold yParts at y
      rw [if_neg c, e69, hn, Int.toNat_natCast, if_neg (show ¬ w = 3 by omega), if_neg (show ¬ w = 4 by omega)] at y
      have mle : ∀ l : Nat, l < 7 → mL (sSort (sFind σ 57 2 1) n) l = mL σ l := fun l hl => mL_69 e69 hl
      have pp := pairs_P (σ := σ) (a := 57) (t := 2) (n := n) (L := mL (sSort (sFind σ 57 2 1) n)) rfl rfl (vw_c HA) h2 (fun l q hl hq => by
        rw [mle l hl, rf_2_1, vw_W HA]
        exact mL_tb HA hl hq)
      have s59 : fU σ 57 2 1 = nVal ((sFind σ 57 2 1).2 59) := by
        unfold fU
        rw [rf_57_4]
      rw [s59] at pp
      have ov : vOv (sFind σ 57 2 1) n = nBits n (yOver (sSort (sFind σ 57 2 1) n) n) := by
        unfold vOv
        refine nBits_ex (fun p hp => ?_)
        unfold fOv yOver
        have cl := nClr_le (b := 2 ^ n - 1) (q := p) (by omega) (by omega)
        rw [pp.1, pp.2 _ (by omega)]
        exact decide_eq_decide.mpr ⟨fun z => by omega, fun z => by rw [z]⟩
      have ed : vEd (sFind σ 57 2 1) n = nBits n (fun p => !(nBits n (yOver (sSort (sFind σ 57 2 1) n) n)).testBit p && decide (¬ mL (sSort (sFind σ 57 2 1) n) p &&& (nBits n (yOver (sSort (sFind σ 57 2 1) n) n)) = 0)) := by
        unfold vEd
        refine nBits_ex (fun p hp => ?_)
        unfold fEd
        have e3 : (sFind σ 57 2 1).2 3 = σ.2 3 := sFind_r σ 1 (by rw [rf_57_3]; decide) (by rw [rf_57_4]; decide)
        have m7 : mL (sSort (sFind σ 57 2 1) n) p = mLk (σ.2 69) p := by
          unfold mL
          rw [if_pos (by omega), e69]
        rw [ov, e3, lk_eq HA hn, m7]
      have q0 : (sSort (sFind σ 57 2 1) n).1 65 0 = (vOv (sFind σ 57 2 1) n : Nat) := by
        unfold sSort
        rw [oSF_o _ _ (by omega), oSF_o _ _ (by omega), oSF_s]
      have q1 : (sSort (sFind σ 57 2 1) n).1 65 1 = (vEd (sFind σ 57 2 1) n : Nat) := by
        unfold sSort
        rw [oSF_o _ _ (by omega), oSF_s]
      have q2 : (sSort (sFind σ 57 2 1) n).1 65 2 = (nDif (nDif (2 ^ n - 1) (vOv (sFind σ 57 2 1) n)) (vEd (sFind σ 57 2 1) n) : Nat) := by
        unfold sSort
        rw [oSF_s]
      by_cases w0 : w = 0
      · rw [if_pos w0] at x y
        exact Both_i x y (by dsimp only; rw [q0, ov]) (inv _ fr)
      · rw [if_neg w0] at x y
        by_cases w1 : w = 1
        · rw [if_pos w1] at x y
          exact Both_i x y (by dsimp only; rw [q1, ed]) (inv _ fr)
        · rw [if_neg w1] at x y
          exact Both_i x y (by dsimp only; rw [q2, ed, ov]) (inv _ fr)

