/-! calls: sums, tight ones, the proof -/
theorem nSum_ext {f g : Nat → Int} : ∀ {n : Nat}, (∀ k, k < n → f k = g k) → nSum n f = nSum n g
  | 0, _ => rfl
  | n + 1, h => by
    show nSum n f + f n = nSum n g + g n
    rw [nSum_ext (fun k hk => h k (by omega)), h n (by omega)]
theorem nIs_m {i b : Nat} (hi : i < 7) (hb : b < 128) : nIs (i : Int) (b : Int) ↔ mIs (i : Int) (b : Int) := by
  have h1 := nIn hi hb
  have h2 := nBit1 hi hb
  unfold mIs
  rw [h2]
  by_cases c : b.testBit i = true
  · rw [if_pos c]
    exact ⟨fun _ => rfl, fun _ => h1.mpr c⟩
  · rw [if_neg c]
    exact ⟨fun z => absurd (h1.mp z) c, fun z => absurd z (by decide)⟩
theorem nDivO_chk : ∀ x : Fin 8, x.val % 2 = 1 → oDiv ((x.val : Int) - 1) 2 = oDiv (x.val : Int) 2 := by decide +kernel
theorem nDivO {x : Nat} (h : x ≤ 7) (o : x % 2 = 1) : oDiv ((x : Int) - 1) 2 = oDiv (x : Int) 2 := nDivO_chk ⟨x, by omega⟩ o
/-- an odd set's numbers, as either side has them -/
theorem vw_o {σ : oSg} (HA : IA σ) {k : Nat} (hk : (k : Int) < σ.2 69 64) : nAt (σ.2 7) 3 k = σ.2 69 (65 + k) ∧ nAt (σ.2 8) 3 k = σ.2 69 (68 + k) := by
  obtain ⟨⟨s1, s2⟩, s3, s4, s5⟩ := IA_o HA
  obtain ⟨e1, e2⟩ := s2 k hk
  unfold nAt
  rw [if_pos (by omega), if_pos (by omega), Int.toNat_natCast]
  exact ⟨e1, e2⟩
theorem sum_eq {σ : oSg} (HA : IA σ) : nSum (σ.1 2 0).toNat (fun p => nH σ p) + nSum (σ.1 6 0).toNat (fS σ) = mSum (σ.2 69) := by
  obtain ⟨⟨s1, s2⟩, s3, s4, s5⟩ := IA_o HA
  unfold mSum
  rw [vw_n HA, s1]
  have b0 := HA.2.1.1
  have b7 := HA.2.1.2
  have e1 : nSum (σ.2 69 0).toNat (fun p => nH σ p) = nSum (σ.2 69 0).toNat (gH (σ.2 69)) := nSum_ext (fun k hk => by
    rw [vw_h HA, if_pos ⟨by omega, by omega, by omega⟩, Int.toNat_natCast])
  have e2 : nSum (σ.2 69 64).toNat (fS σ) = nSum (σ.2 69 64).toNat (mfS (σ.2 69)) := nSum_ext (fun k hk => by
    have hk2 : (k : Int) < σ.2 69 64 := by omega
    obtain ⟨v1, v2⟩ := vw_o HA hk2
    obtain ⟨⟨o1, o2, o3⟩, o4, o5⟩ := s5 k hk2
    unfold fS mfS
    rw [v1, v2]
    obtain ⟨x, hx⟩ : ∃ x : Nat, σ.2 69 (65 + k) = x := ⟨(σ.2 69 (65 + k)).toNat, by omega⟩
    rw [hx] at o1 o2 o3 ⊢
    rw [Int.toNat_natCast] at o3 ⊢
    rw [nBc_sz (by omega), nDivO (nSz_le x) o3])
  rw [e1, e2]
theorem fO_eq {σ : oSg} (HA : IA σ) {i j k : Nat} (hi : i < 7) (hj : j < 7) (hk : (k : Int) < σ.2 69 64) : fO σ i j k = mfO (σ.2 69) i j k := by
  obtain ⟨⟨s1, s2⟩, s3, s4, s5⟩ := IA_o HA
  obtain ⟨v1, v2⟩ := vw_o HA hk
  obtain ⟨⟨o1, o2, o3⟩, o4, o5⟩ := s5 k hk
  unfold fO mfO
  rw [v1, v2]
  obtain ⟨x, hx⟩ : ∃ x : Nat, σ.2 69 (65 + k) = x := ⟨(σ.2 69 (65 + k)).toNat, by omega⟩
  rw [hx] at o1 o2 ⊢
  have h1 := nIs_m (i := i) (b := x) hi (by omega)
  have h2 := nIs_m (i := j) (b := x) hj (by omega)
  by_cases c : mIs (i : Int) (x : Int) ∧ mIs (j : Int) (x : Int)
  · rw [if_pos c, if_pos ⟨h1.mpr c.1, h2.mpr c.2⟩]
  · rw [if_neg c, if_neg (fun z => c ⟨h1.mp z.1, h2.mp z.2⟩)]
theorem ex_eq {σ : oSg} (HA : IA σ) {i j : Int} (hi : nHas (σ.2 69 0) i) (hj : nHas (σ.2 69 0) j) : nEx σ i j = mHave (σ.2 69) i j - 2 * nW (gW (σ.2 69)) i j := by
  obtain ⟨i0, i1, i7⟩ := id hi
  obtain ⟨j0, j1, j7⟩ := id hj
  obtain ⟨x, rfl⟩ : ∃ x : Nat, i = x := ⟨i.toNat, by omega⟩
  obtain ⟨y, rfl⟩ : ∃ y : Nat, j = y := ⟨j.toNat, by omega⟩
  unfold nEx mHave
  rw [vw_h HA, vw_h HA, if_pos hi, if_pos hj, vw_W HA, (IA_o HA).1.1]
  rw [nSum_ext (f := fO σ (x : Int) (y : Int)) (g := mfO (σ.2 69) (x : Int) (y : Int)) (fun k hk => fO_eq HA (by omega) (by omega) (by omega))]
theorem c_bear {σ : oSg} (H : Inv σ) {d : Nat} (hd : 20 ≤ d) : Both d 95 198 [] σ := by
  have HA := H.1
  have hn := vw_n HA
  have b0 := HA.2.1.1
  have b7 := HA.2.1.2
  have hw := (IA_w HA).2
  obtain ⟨n, hnn⟩ : ∃ n : Nat, σ.2 69 0 = n := ⟨(σ.2 69 0).toNat, by omega⟩
  have n7 : n ≤ 7 := by omega
  have x := m_X_bear (d := d) (σ := σ) (vw_c HA) (by omega)
  unfold xBear at x
  rw [hn, hnn, Int.toNat_natCast] at x
  have q69 : (sBear σ n n).2 69 = σ.2 69 := oSW_ne _ (by decide) _
  have y := m_M_bear (d := d) (σ := sBear σ n n) (by unfold mNet; rw [q69]; exact vw_N HA) (by rw [q69]; exact (IA_h HA).2) (by omega)
  unfold yBear at y
  rw [q69, hnn, Int.toNat_natCast] at y
  generalize hυ : oSA (sBe (sBear σ n n) n n) 69 64 0 = υ at y
  have e : ∀ k, ¬ k = 64 → ¬ (57 ≤ k ∧ k < 57 + n) → υ.2 69 k = σ.2 69 k := fun k h1 h2 => by rw [← hυ, oSA_i _ _ h1, sBe_at, if_neg h2, q69]
  have e5 : ∀ k, 57 ≤ k → k < 57 + n → υ.2 69 k = mMx (σ.2 69) (k - 57) n := fun k h1 h2 => by rw [← hυ, oSA_i _ _ (by omega), sBe_at, if_pos ⟨h1, h2⟩, q69]
  have r : ∀ q, ¬ q = 69 → ¬ q = 5 → υ.2 q = σ.2 q := fun q h1 h2 => by
    rw [← hυ, oSA_ne _ _ _ h1]
    unfold sBe sBear
    rw [oSW_ne _ h1, oSW_ne _ h2, oSF_2]
  have r5 : υ.2 5 = (sBear σ n n).2 5 := by
    rw [← hυ, oSA_ne _ _ _ (by decide)]
    unfold sBe
    rw [oSW_ne _ (by decide)]
  have f : ∀ q j, ¬ q = 6 → υ.1 q j = σ.1 q j := fun q j h => by
    rw [← hυ]
    exact oSF_o _ _ (fun z => h z.1)
  have f6 : υ.1 6 0 = 0 := by
    rw [← hυ]
    exact oSF_s σ 6 0 0
  have mx : ∀ p m : Nat, nMx m (fun k => nW (σ.2 3) p k) = mMx (σ.2 69) p m ∧ 0 ≤ mMx (σ.2 69) p m ∧ mMx (σ.2 69) p m ≤ 20 := by
    intro p m
    refine ⟨?_, mMx_bd hw.1 p m⟩
    induction m with
    | zero => rfl
    | succ m ih =>
      have bd := mMx_bd hw.1 p m
      show (if nMx m _ < nW (σ.2 3) p m then nW (σ.2 3) p m else nMx m _) = if p = m then mMx (σ.2 69) p m else if mMx (σ.2 69) p m < nW (gW (σ.2 69)) p m then nW (gW (σ.2 69)) p m else mMx (σ.2 69) p m
      rw [ih, vw_W HA]
      by_cases c : p = m
      · rw [if_pos c, c, hw.2.2.1, if_neg (by rw [c] at bd; omega)]
      · rw [if_neg c]
  have b5 : ∀ p, p < 7 → (sBear σ n n).2 5 p = if p < n then mMx (σ.2 69) p n else σ.2 5 p := by
    intro p _
    unfold sBear
    rw [oSW_at]
    split
    · exact (mx p n).1
    · rfl
  have hA : IA υ := by
    refine IA_of (PN_fr (f 2 0 (by decide)) (e 0 (by omega) (by omega)) (IA_n HA)) (PW_fr (r 3 (by decide) (by decide)) (e 0 (by omega) (by omega)) (fun k h1 h2 => e k (by omega) (by omega)) (IA_w HA)) (PM_fr (r 4 (by decide) (by decide)) (e 0 (by omega) (by omega)) (fun k h1 h2 => e k (by omega) (by omega)) (IA_m HA)) ⟨fun p hp => ?_, fun p hp => ?_⟩ ?_ (PS_fr (f 9 0 (by decide)) (r 10 (by decide) (by decide)) (r 11 (by decide) (by decide)) (fun k h1 h2 => e k (by omega) (by omega)) (IA_s HA)) (PE_fr (f 12 0 (by decide)) (r 13 (by decide) (by decide)) (r 14 (by decide) (by decide)) (fun k h1 h2 => e k (by omega) (by omega)) (IA_e HA)) (PB_fr (f 15 0 (by decide)) (r 16 (by decide) (by decide)) (r 17 (by decide) (by decide)) (fun k h1 h2 => e k (by omega) (by omega)) (IA_b HA))
    · rw [r5, b5 p hp]
      by_cases c : p < n
      · rw [if_pos c, e5 _ (by omega) (by omega), show 57 + p - 57 = p from by omega]
      · rw [if_neg c, e _ (by omega) (by omega)]
        exact (IA_h HA).1 p hp
    · by_cases c : p < n
      · rw [e5 _ (by omega) (by omega), show 57 + p - 57 = p from by omega]
        have := (mx p n).2
        omega
      · rw [e _ (by omega) (by omega)]
        exact (IA_h HA).2 p hp
    · have z : υ.2 69 64 = 0 := by rw [← hυ]; exact oSA_s _ _ _ _
      unfold PO GO
      rw [z]
      exact ⟨⟨f6, fun k hk => by omega⟩, by decide, by decide, fun k hk => by omega⟩
  refine Both_i x y ?_ (Inv_h H ?_ hA)
  · have s := sum_eq hA
    rw [← s, f6]
    have e1 : υ.1 2 0 = n := by rw [f 2 0 (by decide), hn, hnn]
    rw [e1]
    have e2 : (fun p : Nat => nH υ p) = fun p : Nat => nH (sBear σ n n) p := by
      funext p
      unfold nH
      have z : (sBear σ n n).1 2 0 = n := by
        show (oSF σ 6 0 0).1 2 0 = n
        rw [oSF_o _ _ (by omega), hn, hnn]
      rw [r5, e1, z]
    rw [e2]
    rfl
  · rw [← hυ]
    exact Fh_t (Fh_t (Fh_t (Fh_SF σ 0 (by decide)) (Fh_SW _ _ (by decide))) (Fh_SW _ _ (by decide))) (Fh_SA _ _ (by decide))
theorem tight_eq {σ : oSg} (HA : IA σ) {n : Nat} (hn : σ.2 69 0 = n) : ∀ i, i ≤ n → tT σ n i = mtT (σ.2 69) 1 n i
  | 0, _ => rfl
  | i + 1, hi => by
    have n7 := HA.2.1.2
    show tT σ n i + cT σ i (n - (i + 1)) = mtT (σ.2 69) 1 n i + mcT (σ.2 69) 1 i (n - (i + 1))
    rw [tight_eq HA hn i (by omega)]
    congr 1
    refine nCnt_ext (fun k hk => ?_)
    have e := ex_eq HA (i := (i : Int)) (j := ((i + 1 + k : Nat) : Int)) ⟨by omega, by omega, by omega⟩ ⟨by omega, by omega, by omega⟩
    unfold bT mbT
    rw [e, vw_W HA]
    congr 1
    by_cases c : mHave (σ.2 69) i ((i + 1 + k : Nat) : Int) = 2 * nW (gW (σ.2 69)) i ((i + 1 + k : Nat) : Int)
    · rw [decide_eq_true (by omega), decide_eq_true c, Bool.or_true]
    · rw [decide_eq_false (by omega), decide_eq_false c]
      rfl
/-! linked twos -/
def sS (L : Nat → Nat → Bool) (n : Nat) : Nat → Nat
  | 0 => 0
  | m + 1 => sS L n m + nCnt n (L m)
def tS (L : Nat → Nat → Bool) (n : Nat) : Nat → Nat
  | 0 => 0
  | m + 1 => tS L n m + nCnt (n - (m + 1)) (fun q => L m (m + 1 + q))
theorem nCnt_s (n : Nat) (f : Nat → Bool) : nCnt (n + 1) f = nCnt n f + if f n = true then 1 else 0 := rfl
theorem sS_a (L : Nat → Nat → Bool) (n : Nat) : ∀ m, sS L (n + 1) m = sS L n m + nCnt m (fun p => L p n)
  | 0 => rfl
  | m + 1 => by
    show sS L (n + 1) m + nCnt (n + 1) (L m) = (sS L n m + nCnt n (L m)) + nCnt (m + 1) (fun p => L p n)
    rw [sS_a L n m, nCnt_s, nCnt_s]
    omega
theorem tS_b (L : Nat → Nat → Bool) (n : Nat) : ∀ m, m ≤ n → tS L (n + 1) m = tS L n m + nCnt m (fun p => L p n)
  | 0, _ => rfl
  | m + 1, h => by
    show tS L (n + 1) m + nCnt (n + 1 - (m + 1)) (fun q => L m (m + 1 + q)) = (tS L n m + nCnt (n - (m + 1)) (fun q => L m (m + 1 + q))) + nCnt (m + 1) (fun p => L p n)
    rw [tS_b L n m (by omega), show n + 1 - (m + 1) = (n - (m + 1)) + 1 from by omega, nCnt_s, nCnt_s, show m + 1 + (n - (m + 1)) = n from by omega]
    omega
theorem sS_t {L : Nat → Nat → Bool} (hs : ∀ i j, L i j = L j i) (hd : ∀ i, L i i = false) : ∀ n, sS L n n = 2 * tS L n n
  | 0 => rfl
  | n + 1 => by
    show sS L (n + 1) n + nCnt (n + 1) (L n) = 2 * (tS L (n + 1) n + nCnt (n + 1 - (n + 1)) (fun q => L n (n + 1 + q)))
    rw [sS_a, tS_b L n n (Nat.le_refl _), sS_t hs hd n, nCnt_s, hd, Nat.sub_self]
    have e : nCnt n (L n) = nCnt n (fun p => L p n) := nCnt_ext (fun k _ => hs n k)
    rw [e]
    show _ + _ + (_ + (if false = true then 1 else 0)) = 2 * (_ + _ + 0)
    rw [if_neg (by decide)]
    omega
theorem nBits_tb (f : Nat → Bool) : ∀ n q, (nBits n f).testBit q = (decide (q < n) && f q)
  | 0, q => by
    show (0 : Nat).testBit q = _
    rw [Nat.zero_testBit, decide_eq_false (by omega)]
    rfl
  | n + 1, q => by
    have ih := nBits_tb f n
    have lt := nBits_lt f n
    by_cases c : f n = true
    · rw [nBits_t c]
      by_cases e : q = n
      · rw [e, decide_eq_true (by omega), c, Nat.add_comm, Nat.testBit_two_pow_add_eq, ih, decide_eq_false (by omega)]
        rfl
      · by_cases l : q < n
        · rw [Nat.add_comm, Nat.testBit_two_pow_add_gt (by omega), ih, decide_eq_true l, decide_eq_true (by omega)]
        · rw [decide_eq_false (by omega), Bool.false_and]
          refine Nat.testBit_lt_two_pow ?_
          have : 2 ^ (n + 1) ≤ 2 ^ q := Nat.pow_le_pow_right (by decide) (by omega)
          rw [Nat.pow_succ] at this
          omega
    · have c' : f n = false := by
        cases h : f n with
        | false => rfl
        | true => exact absurd h c
      rw [nBits_f c', ih]
      by_cases e : q = n
      · rw [e, c', Bool.and_false, Bool.and_false]
      · by_cases l : q < n
        · rw [decide_eq_true l, decide_eq_true (by omega)]
        · rw [decide_eq_false l, decide_eq_false (by omega)]
theorem nCnt_cut (f : Nat → Bool) {n : Nat} : ∀ m, nCnt (n + m) (fun q => decide (q < n) && f q) = nCnt n f
  | 0 => nCnt_ext (fun k hk => by rw [decide_eq_true (by omega)]; rfl)
  | m + 1 => by
    show nCnt (n + m) (fun q => decide (q < n) && f q) + (if (decide (n + m < n) && f (n + m)) = true then 1 else 0) = _
    rw [nCnt_cut f m, decide_eq_false (by omega), Bool.false_and, if_neg (by decide), Nat.add_zero]
theorem nSz_bits {f : Nat → Bool} {n : Nat} (h : n ≤ 7) : nSz (nBits n f) = nCnt n f := by
  unfold nSz
  have := nCnt_cut f (n := n) (7 - n)
  rw [show n + (7 - n) = 7 from by omega] at this
  rw [← this]
  exact nCnt_ext (fun k _ => nBits_tb f n k)
theorem nDivE_chk : ∀ x : Fin 25, oDiv ((2 * x.val : Nat) : Int) 2 = (x.val : Int) := by decide +kernel
theorem linked_eq {σ : oSg} (HA : IA σ) : oDiv (nSum (σ.1 2 0).toNat (fun p => nBc (nLk (σ.2 3) (σ.1 2 0).toNat p))) 2 = (mtT (σ.2 69) 0 (σ.2 69 0).toNat (σ.2 69 0).toNat : Nat) := by
  rw [vw_n HA]
  have hw := (IA_w HA).2
  have b0 := HA.2.1.1
  have b7 := HA.2.1.2
  obtain ⟨n, hn⟩ : ∃ n : Nat, σ.2 69 0 = n := ⟨(σ.2 69 0).toNat, by omega⟩
  rw [hn, Int.toNat_natCast]
  obtain ⟨L, hL⟩ : ∃ L : Nat → Nat → Bool, (fun (p q : Nat) => decide (0 < nW (gW (σ.2 69)) p q)) = L := ⟨_, rfl⟩
  have hl : ∀ p q : Nat, L p q = decide (0 < nW (gW (σ.2 69)) p q) := fun p q => by rw [← hL]
  have e1 : ∀ m, m ≤ n → nSum m (fun p => nBc (nLk (σ.2 3) n p)) = (sS L n m : Nat) := by
    intro m hm
    induction m with
    | zero => rfl
    | succ m ih =>
      show nSum m _ + nBc (nLk (σ.2 3) n m) = ((sS L n m + nCnt n (L m) : Nat) : Int)
      rw [ih (by omega), nBc_sz (nLk_lt (by omega))]
      have : nSz (nLk (σ.2 3) n m) = nCnt n (L m) := by
        unfold nLk
        rw [nSz_bits (by omega), vw_W HA]
        exact nCnt_ext (fun k _ => (hl m k).symm)
      rw [this]
      omega
  have e2 : ∀ m, mtT (σ.2 69) 0 n m = tS L n m := by
    intro m
    induction m with
    | zero => rfl
    | succ m ih =>
      show mtT (σ.2 69) 0 n m + mcT (σ.2 69) 0 m (n - (m + 1)) = tS L n m + nCnt (n - (m + 1)) (fun q => L m (m + 1 + q))
      rw [ih]
      congr 1
      refine nCnt_ext (fun k _ => ?_)
      unfold mbT
      rw [hl, decide_eq_true (show (0 : Int) = 0 from rfl), Bool.true_or, Bool.and_true]
  have st := sS_t (L := L) (fun i j => by rw [hl, hl, hw.2.1]) (fun i => by rw [hl, hw.2.2.1]; rfl) n
  have lt := mtT_le (σ.2 69) 0 n n
  have lt2 : n * n ≤ 7 * 7 := Nat.mul_le_mul (by omega) (by omega)
  rw [e1 n (Nat.le_refl _), st, e2 n]
  rw [e2] at lt
  have bd : tS L n n ≤ 24 := by
    have h1 : ∀ m, m ≤ n → sS L n m ≤ n * m := by
      intro m hm
      induction m with
      | zero => exact Nat.le_refl _
      | succ m ih =>
        show sS L n m + nCnt n (L m) ≤ n * (m + 1)
        have := ih (by omega)
        have := nCnt_le (L m) n
        rw [Nat.mul_succ]
        omega
    have := h1 n (Nat.le_refl _)
    omega
  exact nDivE_chk ⟨tS L n n, by omega⟩

