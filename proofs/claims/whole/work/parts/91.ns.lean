/-! mend -/
/-- partners after the first m pairs of a path are joined -/
def mJ (P : Nat → Int) (M : Int → Int) : Nat → Int → Int
  | 0, p => M p
  | m + 1, p => if p = P (2 * m + 1) then P (2 * m) else if p = P (2 * m) then P (2 * m + 1) else mJ P M m p
theorem mJ_off {P : Nat → Int} {M : Int → Int} : ∀ {m : Nat} {p : Int}, (∀ k, k < 2 * m → ¬ P k = p) → mJ P M m p = M p
  | 0, _, _ => rfl
  | m + 1, p, h => by
    unfold mJ
    rw [if_neg (fun z => h (2 * m + 1) (by omega) z.symm), if_neg (fun z => h (2 * m) (by omega) z.symm)]
    exact mJ_off (fun k hk => h k (by omega))
theorem mJ_at {P : Nat → Int} {M : Int → Int} : ∀ {m : Nat}, (∀ i j, i < j → j < 2 * m → ¬ P i = P j) → ∀ q, q < m → mJ P M m (P (2 * q)) = P (2 * q + 1) ∧ mJ P M m (P (2 * q + 1)) = P (2 * q)
  | 0, _, q, hq => absurd hq (Nat.not_lt_zero q)
  | m + 1, h, q, hq => by
    unfold mJ
    by_cases c : q = m
    · subst c
      rw [if_neg (h (2 * q) (2 * q + 1) (by omega) (by omega)), if_pos rfl, if_pos rfl]
      exact ⟨rfl, rfl⟩
    · rw [if_neg (h (2 * q) (2 * m + 1) (by omega) (by omega)), if_neg (h (2 * q) (2 * m) (by omega) (by omega)), if_neg (h (2 * q + 1) (2 * m + 1) (by omega) (by omega)), if_neg (h (2 * q + 1) (2 * m) (by omega) (by omega))]
      exact mJ_at (fun i j hi hj => h i j hi (by omega)) q (by omega)
theorem mJ_eq {P : Nat → Int} {M M' : Int → Int} : ∀ {m : Nat} {p : Int}, ((∀ k, k < 2 * m → ¬ P k = p) → M p = M' p) → mJ P M m p = mJ P M' m p
  | 0, _, h => h (fun k hk => absurd hk (by omega))
  | m + 1, p, h => by
    unfold mJ
    by_cases c : p = P (2 * m + 1)
    · rw [if_pos c, if_pos c]
    · rw [if_neg c, if_neg c]
      by_cases d : p = P (2 * m)
      · rw [if_pos d, if_pos d]
      · rw [if_neg d, if_neg d]
        refine mJ_eq (fun z => h (fun k hk => ?_))
        by_cases k1 : k = 2 * m + 1
        · rw [k1]; exact fun z => c z.symm
        · by_cases k2 : k = 2 * m
          · rw [k2]; exact fun z => d z.symm
          · exact z k (by omega)
theorem gd_fwd {n : Nat} {W : Int → Int → Int} {M : Int → Int} {P : Nat → Int} {t : Nat} (hG : gdP n W M P t) {j : Nat} (hj : j + 1 < t) (ho : j % 2 = 1) : M (P j) = P (j + 1) := by
  have c := hG.2.2 (j + 1) hj
  unfold cMay at c
  rw [if_neg (by omega), if_neg (by omega)] at c
  exact c
/-- who is on a path has no partner off it -/
theorem gd_off {n : Nat} {W : Int → Int → Int} {M : Int → Int} {P : Nat → Int} {H : Nat} (hG : gdP n W M P (2 * H)) (he : M (P (2 * H - 1)) = -1) (gm : GM n W M) {k : Nat} (hk : k < 2 * H) : M (P k) = -1 ∨ ∃ j, j < 2 * H ∧ M (P k) = P j := by
  by_cases o : k % 2 = 1
  · by_cases c : k = 2 * H - 1
    · rw [c]; exact Or.inl he
    · exact Or.inr ⟨k + 1, by omega, gd_fwd hG (by omega) o⟩
  · by_cases c : k = 0
    · have h := hG.2.2 0 (by omega)
      unfold cMay at h
      rw [if_pos rfl] at h
      rw [c]
      exact Or.inl h
    · exact Or.inr ⟨k - 1, by omega, gd_back hG gm hk (by omega) c⟩
theorem GM_mend {n : Nat} {W : Int → Int → Int} {M : Int → Int} {P : Nat → Int} {H : Nat} (n7 : n ≤ 7) (hG : gdP n W M P (2 * H)) (he : M (P (2 * H - 1)) = -1) (gw : GW n W) (gm : GM n W M) (ng : ∀ p, p < 0 → M p = -1) : GM n W (mJ P M H) := by
  have at' := mJ_at (M := M) (m := H) hG.2.1
  have cs : ∀ p, (∃ k, k < 2 * H ∧ P k = p) ∨ ∀ k, k < 2 * H → ¬ P k = p := fun p => by
    by_cases c : ∃ k, k < 2 * H ∧ P k = p
    · exact Or.inl c
    · exact Or.inr (fun k hk z => c ⟨k, hk, z⟩)
  -- where one on the path goes
  have on : ∀ k, k < 2 * H → ∃ j, j < 2 * H ∧ mJ P M H (P k) = P j ∧ mJ P M H (P j) = P k ∧ 0 < W (P k) (P j) := fun k hk => by
    have a := at' (k / 2) (by omega)
    have c := hG.2.2 (2 * (k / 2) + 1) (by omega)
    unfold cMay at c
    rw [if_neg (by omega), if_pos (by omega), show 2 * (k / 2) + 1 - 1 = 2 * (k / 2) by omega] at c
    by_cases o : k % 2 = 1
    · have e : 2 * (k / 2) + 1 = k := by omega
      rw [e] at a c
      exact ⟨2 * (k / 2), by omega, a.2, a.1, by rw [gw.2.1]; exact c⟩
    · have e : 2 * (k / 2) = k := by omega
      rw [e] at a c
      exact ⟨k + 1, by omega, a.1, a.2, c⟩
  refine ⟨fun p => ?_, fun p hp => ?_⟩
  · rcases cs p with ⟨k, hk, rfl⟩ | h
    · obtain ⟨j, hj, e, -⟩ := on k hk
      have := hG.1 j hj
      rw [e]
      omega
    · rw [mJ_off h]
      exact gm.1 p
  · rcases cs p with ⟨k, hk, rfl⟩ | h
    · obtain ⟨j, hj, e, e2, w⟩ := on k hk
      have r1 := hG.1 j hj
      have r2 := hG.1 k hk
      rw [e]
      exact ⟨⟨by omega, by omega⟩, e2, w⟩
    · rw [mJ_off h] at hp ⊢
      obtain ⟨m1, m2, m3⟩ := gm.2 p hp
      refine ⟨m1, ?_, m3⟩
      rw [mJ_off (fun k hk z => ?_)]
      · exact m2
      · rw [← z] at m2
        rcases gd_off hG he gm hk with y | ⟨j, hj, y⟩
        · have := ng p
          omega
        · rw [y] at m2
          exact h j hj m2
section MEND
variable {n : Nat} {σ τ : oSg}
theorem sJA_k (σ : oSg) : ∀ m, (sJA σ m).1 = σ.1 ∧ ∀ q, ¬ q = 4 → (sJA σ m).2 q = σ.2 q
  | 0 => ⟨rfl, fun _ _ => rfl⟩
  | m + 1 => by
    obtain ⟨h1, h2⟩ := sJA_k σ m
    refine ⟨sJA_1 σ (m + 1), fun q hq => ?_⟩
    unfold sJA
    rw [sJoin_r _ _ _ hq, h2 q hq]
theorem sJA_M {P : Nat → Int} {L : Nat} (h1 : σ.1 2 0 = n) (n7 : n ≤ 7) (hL : σ.1 63 0 = L) (L7 : L ≤ 7) (hP : ∀ j, j < L → σ.2 64 j = P j) (r : ∀ j, j < L → 0 ≤ P j ∧ P j < n) (ds : ∀ i j, i < j → j < L → ¬ P i = P j) : ∀ m, 2 * m ≤ L → ∀ p, nM ((sJA σ m).2 4) p = mJ P (nM (σ.2 4)) m p
  | 0, _, _ => rfl
  | m + 1, hm, p => by
    obtain ⟨k1, k2⟩ := sJA_k σ m
    have e : ∀ j, j < L → nP (sJA σ m) (j : Int) = P j := fun j hj => by
      rw [nP_of (by rw [k1]; exact hL) L7 hj, k2 64 (by decide), hP j hj]
    have r1 := r (2 * m) (by omega)
    have r2 := r (2 * m + 1) (by omega)
    have d := ds (2 * m) (2 * m + 1) (by omega) (by omega)
    unfold sJA
    rw [show (((2 * m : Nat) : Int) + 1) = ((2 * m + 1 : Nat) : Int) by omega, e (2 * m) (by omega), e (2 * m + 1) (by omega), sJoin_M _ (by rw [k1, h1]; exact ⟨⟨by omega, by omega, by omega⟩, ⟨by omega, by omega, by omega⟩, d⟩), sJA_M h1 n7 hL L7 hP r ds m (by omega) p]
    rfl
/-- the model's freeing leaves them off the path alone -/
theorem sMf_M {P : Nat → Int} {H : Nat} (n7 : n ≤ 7) (gm : GM n (nW (gW (τ.2 69))) (nM (gM (τ.2 69)))) (hG : gdP n (nW (gW (τ.2 69))) (nM (gM (τ.2 69))) P (2 * H)) : ∀ m, m + 1 ≤ H → (∀ p, nM (gM ((sMf P τ m).2 69)) p = nM (gM (τ.2 69)) p ∨ nM (gM ((sMf P τ m).2 69)) p = -1) ∧ (∀ p, (∀ k, k < 2 * H → ¬ P k = p) → nM (gM ((sMf P τ m).2 69)) p = nM (gM (τ.2 69)) p) ∧ ∀ k, k < 50 ∨ 57 ≤ k → (sMf P τ m).2 69 k = τ.2 69 k
  | 0, _ => ⟨fun _ => Or.inl rfl, fun _ _ => rfl, fun _ _ => rfl⟩
  | m + 1, hm => by
    obtain ⟨i1, i2, i3⟩ := sMf_M n7 gm hG m (by omega)
    have r := hG.1 (2 * m + 1) (by omega)
    have bd : ∀ p, -1 ≤ nM (gM ((sMf P τ m).2 69)) p ∧ nM (gM ((sMf P τ m).2 69)) p < 7 := fun p => by
      have := gm.1 p
      rcases i1 p with z | z <;> omega
    have e := sFr_M (sMf P τ m) (i := P (2 * m + 1)) r.1 (by omega) bd
    have f := gd_fwd hG (j := 2 * m + 1) (by omega) (by omega)
    refine ⟨fun p => ?_, fun p hp => ?_, fun k hk => ?_⟩
    · show nM (gM ((sFr (sMf P τ m) (P (2 * m + 1))).2 69)) p = _ ∨ nM (gM ((sFr (sMf P τ m) (P (2 * m + 1))).2 69)) p = _
      rw [e]
      split
      · exact Or.inr rfl
      · exact i1 p
    · show nM (gM ((sFr (sMf P τ m) (P (2 * m + 1))).2 69)) p = _
      rw [e, if_neg, i2 p hp]
      rintro (z | ⟨z1, z2⟩)
      · exact hp (2 * m + 1) (by omega) z.symm
      · rcases i1 (P (2 * m + 1)) with y | y
        · rw [y, f] at z2
          exact hp (2 * m + 1 + 1) (by omega) z2.symm
        · omega
    · show (sFr (sMf P τ m) (P (2 * m + 1))).2 69 k = _
      rw [sFr_k _ r.1 (by omega) (bd _) hk, i3 k hk]
theorem sMj_M {P : Nat → Int} {υ : oSg} {L : Nat} (r : ∀ j, j < L → 0 ≤ P j ∧ P j < 7) : ∀ m, 2 * m ≤ L → (∀ p, nM (gM ((sMj P υ m).2 69)) p = mJ P (nM (gM (υ.2 69))) m p) ∧ ∀ k, k < 50 ∨ 57 ≤ k → (sMj P υ m).2 69 k = υ.2 69 k
  | 0, _ => ⟨fun _ => rfl, fun _ _ => rfl⟩
  | m + 1, hm => by
    obtain ⟨i1, i2⟩ := sMj_M (υ := υ) r m (by omega)
    have r1 := r (2 * m) (by omega)
    have r2 := r (2 * m + 1) (by omega)
    refine ⟨fun p => ?_, fun k hk => ?_⟩
    · show nM (gM ((sJn (sMj P υ m) (P (2 * m)) (P (2 * m + 1))).2 69)) p = _
      rw [sJn_M _ r1.1 r1.2 r2.1 r2.2, i1]
      rfl
    · show (sJn (sMj P υ m) (P (2 * m)) (P (2 * m + 1))).2 69 k = _
      rw [sJn_k _ r1.1 r1.2 r2.1 r2.2 hk, i2 k hk]
/-- what one round of mending leaves alone on the model's side -/
def kM (τ υ : oSg) : Prop := (∀ q, ¬ q = 69 → ¬ q = 74 → υ.2 q = τ.2 q) ∧ (∀ k, k < 50 ∨ 57 ≤ k → υ.2 69 k = τ.2 69 k) ∧ ∀ q j, ¬ (q = 68 ∧ j = 9) → υ.1 q j = τ.1 q j
theorem kM_t {τ υ φ : oSg} (h : kM τ υ) (g : kM υ φ) : kM τ φ := ⟨fun q a b => (g.1 q a b).trans (h.1 q a b), fun k a => (g.2.1 k a).trans (h.2.1 k a), fun q j a => (g.2.2 q j a).trans (h.2.2 q j a)⟩
def kC (σ υ : oSg) : Prop := (∀ q, ¬ q = 4 → ¬ q = 64 → υ.2 q = σ.2 q) ∧ ∀ q j, ¬ q = 63 → υ.1 q j = σ.1 q j
theorem kC_t {τ υ φ : oSg} (h : kC τ υ) (g : kC υ φ) : kC τ φ := ⟨fun q a b => (g.1 q a b).trans (h.1 q a b), fun q j a => (g.2 q j a).trans (h.2 q j a)⟩
theorem kC_try (σ : oSg) (t : List (Int × Int)) : kC σ (sTry t σ).2 := ⟨fun q _ h => (sTry_k t σ).1 q h, (sTry_k t σ).2⟩
theorem kM_try (σ : oSg) (t : List Int) : kM σ (yTry t σ).2 := ⟨fun q _ h => (yTry_s t σ).1 q h, fun k _ => by rw [(yTry_s t σ).1 69 (by decide)], (yTry_s t σ).2.1⟩
theorem md_one (H : Lk n σ τ) {h : Nat} (h1 : 1 ≤ h) (h3 : h ≤ 3) (f : fdW n σ τ (nW (gW (τ.2 69))) (nM (gM (τ.2 69))) (2 * h)) : Lk n (sJA σ h) (sMd τ) ∧ kC σ (sJA σ h) ∧ kM τ (sMd τ) := by
  obtain ⟨n7, a1, a0, hW, hM, gw, gm⟩ := id H
  obtain ⟨p1, p2, p3, hG, he⟩ := f
  have e9 : sMd τ = sMj (τ.2 74) (sMf (τ.2 74) τ (h - 1)) h := by
    unfold sMd
    rw [p2, Int.toNat_natCast, show 2 * h / 2 = h from by omega]
  obtain ⟨f1, f2, f3⟩ := sMf_M n7 gm hG (h - 1) (by omega)
  obtain ⟨j1, j2⟩ := sMj_M (P := τ.2 74) (υ := sMf (τ.2 74) τ (h - 1)) (L := 2 * h) (fun j hj => by have := hG.1 j hj; omega) h (Nat.le_refl _)
  have c1 := sJA_M a1 n7 p1 (by omega) p3 hG.1 hG.2.1 h (Nat.le_refl _)
  obtain ⟨k1, k2⟩ := sJA_k σ h
  have hP : ∀ j, j < 2 * h → 0 ≤ τ.2 74 j ∧ τ.2 74 j < 7 := fun j hj => by have := hG.1 j hj; omega
  have mo : mOk τ := ⟨by omega, by omega, gm.1⟩
  obtain ⟨z1, z2⟩ := sMf_k (P := τ.2 74) mo (h - 1) (fun j hj => hP j (by omega))
  obtain ⟨z3, z4⟩ := sMj_k (P := τ.2 74) z1 h hP
  have k3 : ∀ k, k < 50 ∨ 57 ≤ k → (sMd τ).2 69 k = τ.2 69 k := fun k hk => by rw [e9, j2 k hk, f3 k hk]
  have eW : nW (gW ((sMd τ).2 69)) = nW (gW (τ.2 69)) := gW_fr (fun k a b => k3 k (by omega))
  have eM : nM (gM ((sMd τ).2 69)) = mJ (τ.2 74) (nM (gM (τ.2 69))) h := by
    funext p
    rw [e9, j1]
    exact mJ_eq (fun z => f2 p z)
  refine ⟨⟨n7, by rw [k1]; exact a1, by rw [k3 0 (by omega)]; exact a0, by rw [k2 3 (by decide), eW]; exact hW, ?_, by rw [eW]; exact gw, ?_⟩, ⟨fun q q4 _ => k2 q q4, fun q j _ => by rw [k1]⟩, ⟨fun q q1 _ => ?_, k3, fun q j _ => ?_⟩⟩
  · funext p
    rw [c1, eM, hM]
  · rw [eW, eM]
    exact GM_mend n7 hG he gw gm (fun p hp => if_neg (by omega))
  · rw [e9, z4.2 q q1, z2.2 q q1]
  · rw [e9, z4.1, z2.1]
theorem md_all : ∀ (m k : Nat) {σ τ : oSg}, Lk n σ τ → (xMd m k σ).1 = (yMd m k τ).1 ∧ Lk n (xMd m k σ).2 (yMd m k τ).2 ∧ kC σ (xMd m k σ).2 ∧ kM τ (yMd m k τ).2
  | 0, k, σ, τ, H => ⟨rfl, H, ⟨fun _ _ _ => rfl, fun _ _ _ => rfl⟩, ⟨fun _ _ _ => rfl, fun _ _ => rfl, fun _ _ _ => rfl⟩⟩
  | m + 1, k, σ, τ, H => by
    have e1 : xMd (m + 1) k σ = if (sTry lWay σ).1 = 0 then ((k : Int), (sTry lWay σ).2) else xMd m (k + 1) (sJA (sTry lWay σ).2 (((sTry lWay σ).2.1 63 0).toNat / 2)) := rfl
    have e2 : yMd (m + 1) k τ = if (yTry [2, 4, 6] τ).1 = 0 then ((k : Int), (yTry [2, 4, 6] τ).2) else yMd m (k + 1) (sMd (yTry [2, 4, 6] τ).2) := rfl
    obtain ⟨w1, w2⟩ := way_246 H
    obtain ⟨s1, s2⟩ := sTry_k lWay σ
    have s3 := (yTry_s [2, 4, 6] τ).1 69 (by decide)
    have H1 : Lk n (sTry lWay σ).2 (yTry [2, 4, 6] τ).2 := Lk_s (s2 2 0 (by decide)) (s1 3 (by decide)) (s1 4 (by decide)) s3 H
    have c1 := kC_try σ lWay
    have c2 := kM_try τ [2, 4, 6]
    rw [e1, e2, w1]
    by_cases c : (yTry [2, 4, 6] τ).1 = 0
    · rw [if_pos c, if_pos c]
      exact ⟨rfl, H1, c1, c2⟩
    · rw [if_neg c, if_neg c]
      obtain ⟨l, hl, fd⟩ := w2 c
      obtain ⟨h, rfl, h1, h3⟩ : ∃ h, l = 2 * h ∧ 1 ≤ h ∧ h ≤ 3 := ⟨l / 2, by omega, by omega, by omega⟩
      rw [← s3] at fd
      have e0 : ((sTry lWay σ).2.1 63 0).toNat / 2 = h := by rw [fd.1, Int.toNat_natCast]; omega
      rw [e0]
      obtain ⟨o1, o2, o3⟩ := md_one H1 h1 h3 fd
      obtain ⟨r1, r2, r3, r4⟩ := md_all m (k + 1) o1
      exact ⟨r1, r2, kC_t c1 (kC_t o2 r3), kM_t c2 (kM_t o3 r4)⟩
theorem c_mend (H : Inv σ) {d : Nat} (hd : 20 ≤ d) (w : Int) : Both d 42 161 [.inl w] σ := by
  have HA := H.1
  have x := m_X_mend (d := d) (σ := σ) (n := w) (vw_0 HA) (vw_7 HA) (by omega)
  unfold xMend at x
  by_cases c : w < 0 ∨ 9 < w
  · rw [if_pos c] at x
    have y := m_M_mend (d := d) (σ := σ) (n := w) (vw_O HA) (by omega)
    unfold yMend at y
    rw [if_pos (by omega)] at y
    exact Both_i x y rfl H
  · rw [if_neg c] at x
    obtain ⟨n, hn⟩ : ∃ n : Nat, σ.2 69 0 = n := ⟨(σ.2 69 0).toNat, by have := HA.2.1.1; omega⟩
    obtain ⟨-, -, c1, -⟩ := md_all w.toNat 0 (Lk_of HA hn)
    have LK : Lk n σ (xMd w.toNat 0 σ).2 := Lk_s rfl rfl rfl (c1.1 69 (by decide) (by decide)) (Lk_of HA hn)
    obtain ⟨r1, r2, -, m1⟩ := md_all w.toNat 0 LK
    generalize (xMd w.toNat 0 σ) = X at *
    have mo : mOk X.2 := by
      unfold mOk
      rw [c1.1 69 (by decide) (by decide)]
      exact vw_O HA
    have y := m_M_mend (d := d) (σ := X.2) (n := w) mo (by omega)
    unfold yMend at y
    rw [if_neg (not_not_intro (by omega))] at y
    generalize (yMd w.toNat 0 X.2) = Y at *
    have e : ∀ k, k < 50 ∨ 57 ≤ k → Y.2.2 69 k = σ.2 69 k := fun k hk => by rw [m1.2.1 k hk, c1.1 69 (by decide) (by decide)]
    have r : ∀ q, ¬ q = 69 → ¬ q = 74 → ¬ q = 4 → ¬ q = 64 → Y.2.2 q = σ.2 q := fun q a b c d => by rw [m1.1 q a b, c1.1 q c d]
    have f : ∀ q j, ¬ (q = 68 ∧ j = 9) → ¬ q = 63 → Y.2.1 q j = σ.1 q j := fun q j a b => by rw [m1.2.2 q j a, c1.2 q j b]
    have fh : Fh σ Y.2 := ⟨fun q hq => r q (by omega) (by omega) (by omega) (by omega), fun q j hq => f q j (by omega) (by omega)⟩
    obtain ⟨n7, -, b0, bW, bM, bw, bm⟩ := r2
    refine Both_i x y r1 (Inv_h H fh ?_)
    refine IA_of (PN_fr (f 2 0 (by decide) (by decide)) (e 0 (by omega)) (IA_n HA)) (PW_fr (r 3 (by decide) (by decide) (by decide) (by decide)) (e 0 (by omega)) (fun k h1 h2 => e k (by omega)) (IA_w HA)) (PM_of ?_ ?_) (PH_fr (r 5 (by decide) (by decide) (by decide) (by decide)) (fun k h1 h2 => e k (by omega)) (IA_h HA)) (PO_fr (f 6 0 (by decide) (by decide)) (r 7 (by decide) (by decide) (by decide) (by decide)) (r 8 (by decide) (by decide) (by decide) (by decide)) (fun k h1 h2 => e k (by omega)) (IA_o HA)) (PS_fr (f 9 0 (by decide) (by decide)) (r 10 (by decide) (by decide) (by decide) (by decide)) (r 11 (by decide) (by decide) (by decide) (by decide)) (fun k h1 h2 => e k (by omega)) (IA_s HA)) (PE_fr (f 12 0 (by decide) (by decide)) (r 13 (by decide) (by decide) (by decide) (by decide)) (r 14 (by decide) (by decide) (by decide) (by decide)) (fun k h1 h2 => e k (by omega)) (IA_e HA)) (PB_fr (f 15 0 (by decide) (by decide)) (r 16 (by decide) (by decide) (by decide) (by decide)) (r 17 (by decide) (by decide) (by decide) (by decide)) (fun k h1 h2 => e k (by omega)) (IA_b HA))
    · rw [m1.1 4 (by decide) (by decide)]
      exact bM
    · rw [b0]
      exact bm
end MEND

