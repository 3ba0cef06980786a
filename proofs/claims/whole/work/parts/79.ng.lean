/-! calls: the proof, the mean -/
/-- a run of the class's looks beside one of the model's -/
theorem runs_eq {f : Nat → Int × oSg} {h : Nat → Int × Int} {σ : oSg} {A : oSg → Int} : ∀ (m q : Nat), (∀ x, q ≤ x → x < q + m → (f x).1 = (h x).1 ∧ (¬ (h x).1 = 0 → A (f x).2 = (h x).2)) → (nRun f σ m q).1 = (qRun h m q).1 ∧ (¬ (qRun h m q).1 = 0 → A (nRun f σ m q).2 = (qRun h m q).2)
  | 0, q, _ => ⟨rfl, fun z => absurd rfl z⟩
  | m + 1, q, e => by
    obtain ⟨e1, e2⟩ := e q (Nat.le_refl _) (by omega)
    have ih := runs_eq (σ := σ) (A := A) m (q + 1) (fun x h1 h2 => e x (by omega) (by omega))
    have a1 : nRun f σ (m + 1) q = if (f q).1 = 0 then nRun f σ m (q + 1) else f q := rfl
    have a2 : qRun h (m + 1) q = if (h q).1 = 0 then qRun h m (q + 1) else h q := rfl
    rw [a1, a2, e1]
    by_cases c : (h q).1 = 0
    · rw [if_pos c, if_pos c]
      exact ih
    · rw [if_neg c, if_neg c]
      exact ⟨e1, e2⟩
def fA (k : Int) (τ : oSg) : Int := if k = 0 then τ.1 67 0 else if k = 1 then τ.1 67 1 else τ.1 67 2
theorem fA_F (σ : oSg) (k a b c : Int) : fA k (sFault σ a b c) = qAns k a b c := by
  unfold fA qAns sFault
  rw [oSF_o _ _ (by omega), oSF_o _ _ (by omega), oSF_s, oSF_o _ _ (by omega), oSF_s, oSF_s]
theorem sFault_fr (σ : oSg) (a b c : Int) : Fr σ (sFault σ a b c) := ⟨fun _ _ => rfl, fun _ _ => rfl, fun q j h => by
  unfold sFault
  rw [oSF_o _ _ (by omega), oSF_o _ _ (by omega), oSF_o _ _ (by omega)]⟩
theorem nRun_fr {f : Nat → Int × oSg} {σ : oSg} (h : ∀ x, Fr σ (f x).2) : ∀ m q, Fr σ (nRun f σ m q).2
  | 0, _ => Fr_r σ
  | m + 1, q => by
    unfold nRun
    split
    · exact nRun_fr h m (q + 1)
    · exact h q
theorem proof_fr (σ : oSg) : Fr σ (sProof σ).2 := by
  have h1 : ∀ i x, Fr σ (fH1 σ i x).2 := fun i x => by
    unfold fH1
    split
    · exact sFault_fr _ _ _ _
    · exact Fr_r σ
  have h2 : ∀ i, Fr σ (fH σ (σ.1 2 0).toNat i).2 := fun i => nRun_fr (h1 i) _ _
  have h3 : ∀ x, Fr σ (fP1 σ x).2 := fun x => by
    unfold fP1
    split
    · exact sFault_fr _ _ _ _
    · exact Fr_r σ
  have h4 : ∀ x, Fr σ (fF1 σ x).2 := fun x => by
    unfold fF1
    split
    · exact sFault_fr _ _ _ _
    · exact Fr_r σ
  have h5 : ∀ x, Fr σ (fL1 σ x).2 := fun x => by
    unfold fL1
    split
    · exact sFault_fr _ _ _ _
    · exact Fr_r σ
  unfold sProof
  split
  · split
    · split
      · exact nRun_fr h5 _ _
      · exact nRun_fr h4 _ _
    · exact nRun_fr h3 _ _
  · exact nRun_fr h2 _ _
theorem proof_eq {σ : oSg} (HA : IA σ) {n c : Nat} (hnn : σ.2 69 0 = n) (hcc : σ.2 69 64 = c) (k : Int) : mProof (σ.2 69) n c k = if (sProof σ).1 = 0 then -5 else fA k (sProof σ).2 := by
  have n7 : n ≤ 7 := by have := HA.2.1.2; omega
  obtain ⟨⟨s1, s2⟩, s3, s4, s5⟩ := IA_o HA
  have hn1 : (σ.1 2 0).toNat = n := by rw [vw_n HA, hnn, Int.toNat_natCast]
  have hc1 : (σ.1 6 0).toNat = c := by rw [s1, hcc, Int.toNat_natCast]
  have gm := (IA_m HA).2
  have r1 : (nRun (fH σ n) σ n 0).1 = (qRun (qH (σ.2 69) k n) n 0).1 ∧ (¬ (qRun (qH (σ.2 69) k n) n 0).1 = 0 → fA k (nRun (fH σ n) σ n 0).2 = (qRun (qH (σ.2 69) k n) n 0).2) := by
    refine runs_eq n 0 (fun i _ hi => ?_)
    refine runs_eq (n - (i + 1)) (i + 1) (fun j h1 h2 => ?_)
    have e := ex_eq HA (i := (i : Int)) (j := (j : Int)) ⟨by omega, by omega, by omega⟩ ⟨by omega, by omega, by omega⟩
    unfold fH1 qH1
    rw [e, vw_W HA]
    by_cases z : 0 < nW (gW (σ.2 69)) i j ∧ mHave (σ.2 69) i j < 2 * nW (gW (σ.2 69)) i j
    · rw [if_pos z, if_pos ⟨z.1, by omega⟩]
      refine ⟨rfl, fun _ => ?_⟩
      rw [fA_F]
      congr 1
      omega
    · rw [if_neg z, if_neg (fun y => z ⟨y.1, by omega⟩)]
      exact ⟨rfl, fun y => absurd rfl y⟩
  have r2 : (nRun (fP1 σ) σ c 0).1 = (qRun (qP1 (σ.2 69) k n) c 0).1 ∧ (¬ (qRun (qP1 (σ.2 69) k n) c 0).1 = 0 → fA k (nRun (fP1 σ) σ c 0).2 = (qRun (qP1 (σ.2 69) k n) c 0).2) := by
    refine runs_eq c 0 (fun i _ hi => ?_)
    have hk2 : (i : Int) < σ.2 69 64 := by omega
    obtain ⟨v1, v2⟩ := vw_o HA hk2
    obtain ⟨⟨o1, o2, o3⟩, o4, o5⟩ := s5 i hk2
    unfold fP1 qP1
    rw [v1, hn1]
    obtain ⟨x, hx⟩ : ∃ x : Nat, σ.2 69 (65 + i) = x := ⟨(σ.2 69 (65 + i)).toNat, by omega⟩
    rw [hx] at o1 o2 o3 ⊢
    rw [Int.toNat_natCast] at o3 ⊢
    rw [nBc_sz (by omega), nDivO (nSz_le x) o3]
    have eb : nCnt n (bPair σ (x : Int)) = nCnt n (mbP (σ.2 69) (x : Int)) := nCnt_ext (fun p hp => by
      unfold bPair mbP
      rw [vw_M HA]
      by_cases y : (p : Int) < nM (gM (σ.2 69)) p
      · have g := (gm.2 p (by omega)).1
        obtain ⟨q, hq⟩ : ∃ q : Nat, nM (gM (σ.2 69)) p = q := ⟨(nM (gM (σ.2 69)) p).toNat, by omega⟩
        rw [hq] at g ⊢
        have i1 := nIs_m (i := p) (b := x) (by omega) (by omega)
        have i2 := nIs_m (i := q) (b := x) (by omega) (by omega)
        congr 1
        congr 1
        · exact decide_eq_decide.mpr i1
        · exact decide_eq_decide.mpr i2
      · rw [decide_eq_false y, Bool.false_and, Bool.false_and])
    rw [eb]
    by_cases z : ((nCnt n (mbP (σ.2 69) (x : Int)) : Nat) : Int) < oDiv (nSz x : Nat) 2
    · rw [if_pos z, if_pos z]
      exact ⟨rfl, fun _ => fA_F _ _ _ _ _⟩
    · rw [if_neg z, if_neg z]
      exact ⟨rfl, fun y => absurd rfl y⟩
  have r3 : (nRun (fF1 σ) σ n 0).1 = (qRun (qF1 (σ.2 69) k) n 0).1 ∧ (¬ (qRun (qF1 (σ.2 69) k) n 0).1 = 0 → fA k (nRun (fF1 σ) σ n 0).2 = (qRun (qF1 (σ.2 69) k) n 0).2) := by
    refine runs_eq n 0 (fun p _ hp => ?_)
    have m := vw_m HA p
    have hh := vw_h HA (p : Int)
    rw [if_pos ⟨by omega, by omega, by omega⟩, Int.toNat_natCast] at hh
    unfold fF1 qF1
    rw [hh, vw_M HA]
    by_cases z : nM (gM (σ.2 69)) p = -1 ∧ 0 < gH (σ.2 69) p
    · rw [if_pos z, if_pos (by omega)]
      exact ⟨rfl, fun _ => fA_F _ _ _ _ _⟩
    · rw [if_neg z, if_neg (by omega)]
      exact ⟨rfl, fun y => absurd rfl y⟩
  have r4 : (nRun (fL1 σ) σ n 0).1 = (qRun (qL1 (σ.2 69) k) n 0).1 ∧ (¬ (qRun (qL1 (σ.2 69) k) n 0).1 = 0 → fA k (nRun (fL1 σ) σ n 0).2 = (qRun (qL1 (σ.2 69) k) n 0).2) := by
    refine runs_eq n 0 (fun p _ hp => ?_)
    unfold fL1 qL1
    rw [vw_M HA]
    by_cases y : (p : Int) < nM (gM (σ.2 69)) p
    · have g := (gm.2 p (by omega)).1
      have e := ex_eq HA (i := (p : Int)) (j := nM (gM (σ.2 69)) p) ⟨by omega, by omega, by omega⟩ ⟨by omega, by omega, by have := vw_m HA p; omega⟩
      rw [e]
      by_cases z : mHave (σ.2 69) p (nM (gM (σ.2 69)) p) = 2 * nW (gW (σ.2 69)) p (nM (gM (σ.2 69)) p)
      · rw [if_neg (by omega), if_neg (by omega)]
        exact ⟨rfl, fun y => absurd rfl y⟩
      · rw [if_pos (by omega), if_pos (by omega)]
        exact ⟨rfl, fun _ => fA_F _ _ _ _ _⟩
    · rw [if_neg (by omega), if_neg (by omega)]
      exact ⟨rfl, fun y => absurd rfl y⟩
  unfold mProof sProof
  rw [hn1, hc1, r1.1, r2.1, r3.1]
  by_cases a1 : (qRun (qH (σ.2 69) k n) n 0).1 = 0
  · rw [if_pos a1, if_pos a1]
    by_cases a2 : (qRun (qP1 (σ.2 69) k n) c 0).1 = 0
    · rw [if_pos a2, if_pos a2]
      by_cases a3 : (qRun (qF1 (σ.2 69) k) n 0).1 = 0
      · rw [if_pos a3, if_pos a3, r4.1]
        by_cases a4 : (qRun (qL1 (σ.2 69) k) n 0).1 = 0
        · rw [if_pos a4, if_pos a4]
        · rw [if_neg a4, if_neg a4, r4.2 a4]
      · rw [if_neg a3, if_neg a3, r3.1, if_neg a3, r3.2 a3]
    · rw [if_neg a2, if_neg a2, r2.1, if_neg a2, r2.2 a2]
  · rw [if_neg a1, if_neg a1, r1.1, if_neg a1, r1.2 a1]
theorem nRun_69 {f : Nat → Int × oSg} {σ : oSg} (h : ∀ x, (f x).2.2 = σ.2) : ∀ m q, (nRun f σ m q).2.2 = σ.2
  | 0, _ => rfl
  | m + 1, q => by
    unfold nRun
    split
    · exact nRun_69 h m (q + 1)
    · exact h q
theorem sProof_69 (σ : oSg) : (sProof σ).2.2 69 = σ.2 69 := by
  have h1 : ∀ i x, (fH1 σ i x).2.2 = σ.2 := fun i x => by
    unfold fH1
    split <;> rfl
  have h2 : ∀ i, (fH σ (σ.1 2 0).toNat i).2.2 = σ.2 := fun i => nRun_69 (h1 i) _ _
  have h3 : ∀ x, (fP1 σ x).2.2 = σ.2 := fun x => by
    unfold fP1
    split <;> rfl
  have h4 : ∀ x, (fF1 σ x).2.2 = σ.2 := fun x => by
    unfold fF1
    split <;> rfl
  have h5 : ∀ x, (fL1 σ x).2.2 = σ.2 := fun x => by
    unfold fL1
    split <;> rfl
  have : (sProof σ).2.2 = σ.2 := by
    unfold sProof
    split
    · split
      · split
        · exact nRun_69 h5 _ _
        · exact nRun_69 h4 _ _
      · exact nRun_69 h3 _ _
    · exact nRun_69 h2 _ _
  rw [this]
theorem c_proof {σ : oSg} (H : Inv σ) {d : Nat} (hd : 20 ≤ d) (k : Int) : Both d 97 199 [.inl k] σ := by
  have HA := H.1
  have x := m_X_proof (d := d) (σ := σ) (k := k) (vw_c HA) (vw_hc HA) (by rw [vw_M HA]; exact fun p => (vw_m HA p).2) (by omega)
  unfold xProof at x
  have y0 := m_M_proof (d := d) (σ := σ) (k := k) (vw_N HA) (vw_H HA) (vw_m HA) (by omega)
  unfold yProof at y0
  by_cases k0 : k < 0
  · rw [if_pos k0] at x y0
    exact Both_i x y0 rfl H
  · rw [if_neg k0] at x y0
    by_cases k2 : 2 < k
    · rw [if_pos k2] at x y0
      exact Both_i x y0 rfl H
    · rw [if_neg k2] at x
      have b0 := HA.2.1.1
      have s3 := (IA_o HA).2.1
      obtain ⟨n, hn⟩ : ∃ n : Nat, σ.2 69 0 = n := ⟨(σ.2 69 0).toNat, by omega⟩
      obtain ⟨c, hc⟩ : ∃ c : Nat, σ.2 69 64 = c := ⟨(σ.2 69 64).toNat, by omega⟩
      have pf := proof_fr σ
      have H2 := Inv_fr H pf
      have HA2 := H2.1
      have y := m_M_proof (d := d) (σ := (sProof σ).2) (k := k) (vw_N HA2) (vw_H HA2) (vw_m HA2) (by omega)
      have e69 : (sProof σ).2.2 69 = σ.2 69 := sProof_69 σ
      unfold yProof at y
      rw [if_neg k0, if_neg k2, e69, hn, hc, Int.toNat_natCast, Int.toNat_natCast, proof_eq HA hn hc] at y
      by_cases z : (sProof σ).1 = 0
      · rw [if_pos z] at x y
        exact Both_i x y rfl H2
      · rw [if_neg z] at x y
        unfold fA at y
        by_cases kz : k = 0
        · rw [if_pos kz] at x y
          exact Both_i x y rfl H2
        · rw [if_neg kz] at x y
          by_cases k1 : k = 1
          · rw [if_pos k1] at x y
            exact Both_i x y rfl H2
          · rw [if_neg k1] at x y
            exact Both_i x y rfl H2
theorem low_chk : ∀ a : Fin 141, ∀ b : Fin 8, 0 < b.val → xCd (a.val : Int) (b.val : Int) b.val = (rGc 16 a.val b.val : Nat) := by decide +kernel
theorem low_ten : ∀ a : Fin 11, xCd (a.val : Int) 10 10 = (rGc 16 a.val 10 : Nat) := by decide +kernel
theorem c_mean {σ : oSg} (H : Inv σ) {d : Nat} (hd : 20 ≤ d) (p : Int) : Both d 111 208 [.inl p] σ := by
  have HA := H.1
  have b0 := HA.2.1.1
  have b7 := HA.2.1.2
  have x := m_X_mean (d := d) (σ := σ) (p := p) (vw_c HA) (by omega)
  have y := m_M_mean (d := d) (σ := σ) (p := p) (vw_N HA) (vw_m HA) (by omega)
  refine Both_j x y ?_ H
  have ef : nSum (σ.1 2 0).toNat (fW σ) = nSum (σ.2 69 0).toNat (mfW (σ.2 69)) := by
    rw [vw_n HA]
    refine nSum_ext (fun k _ => ?_)
    unfold fW mfW
    rw [vw_M HA, vw_W HA]
  rw [ef, pairs_eq HA]
  unfold yMean
  have hc := nCnt_le (bMp (gM (σ.2 69))) (σ.2 69 0).toNat
  have hs := nSum_bd (f := mfW (σ.2 69)) (σ.2 69 0).toNat (fun p _ => mfW_bd (IA_w HA).2.1 p)
  obtain ⟨C, hC⟩ : ∃ C, nCnt (σ.2 69 0).toNat (bMp (gM (σ.2 69))) = C := ⟨_, rfl⟩
  obtain ⟨S, hS⟩ : ∃ S : Nat, nSum (σ.2 69 0).toNat (mfW (σ.2 69)) = S := ⟨(nSum (σ.2 69 0).toNat (mfW (σ.2 69))).toNat, by omega⟩
  rw [hC, hS, Int.toNat_natCast]
  unfold xLow
  by_cases c : ¬ (0 ≤ p ∧ p ≤ 1) ∨ C = 0
  · rw [if_pos c, if_pos (by omega)]
  · rw [if_neg c, if_neg (by omega), Int.toNat_natCast]
    have e := low_chk ⟨S, by omega⟩ ⟨C, by omega⟩ (by show 0 < C; omega)
    dsimp only at e
    unfold yLow
    rw [e]
    by_cases p0 : p = 0
    · rw [if_pos p0, if_pos p0]
    · rw [if_neg p0, if_neg p0]

