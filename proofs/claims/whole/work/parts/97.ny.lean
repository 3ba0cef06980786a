/-! call: shrunk -/
theorem c_shrunk {σ : oSg} (H : Inv σ) {d : Nat} (hd : 20 ≤ d) : Both d 70 180 [] σ := by
  have HA := H.1
  have x := m_X_shrunk (d := d) (σ := σ) (vw_c HA) (by omega)
  unfold xShrunk at x
  obtain ⟨n, hn⟩ : ∃ n : Nat, σ.2 69 0 = n := ⟨(σ.2 69 0).toNat, by have := HA.2.1.1; omega⟩
  have h2 : σ.1 2 0 = n := by rw [vw_n HA, hn]
  have f1 := Fr_try lFlo σ
  have HX := Inv_fr H f1
  obtain ⟨k1, k2⟩ := sTry_k lFlo σ
  have k69 := k1 69 (by decide)
  -- the model's side after a state of the class
  have stp : ∀ τ : oSg, Fr σ τ → τ.2 69 = σ.2 69 → oMi d 180 [.inr (.inr (.inl 68))] τ (some (.inl (yShrunk τ).1)) (yShrunk τ).2 ∧ Lk n σ τ ∧ Inv τ := by
    intro τ hf h69
    have H2 := Inv_fr H hf
    exact ⟨m_M_shrunk (d := d) (σ := τ) H2.1.2.1.1 H2.1.2.1.2 (by omega), Lk_s rfl rfl rfl h69 (Lk_of HA hn), H2⟩
  obtain ⟨y0, L0, I0⟩ := stp (sTry lFlo σ).2 f1 k69
  obtain ⟨w1, -⟩ := flo_all L0
  by_cases c : (sTry lFlo σ).1 = 0
  · rw [if_pos c] at x
    unfold yShrunk at y0
    rw [k69, hn, if_pos (by rw [← w1]; exact c)] at y0
    exact Both_i x y0 rfl (Inv_fr I0 (Fr_yfl _ _))
  · rw [if_neg c, h2, Int.toNat_natCast] at x
    -- what the class finds
    obtain ⟨a, b, ⟨an, a7, ao, be, ba⟩, q1, q2, -⟩ := (flo_all L0).2 (by rw [← w1]; exact c)
    rw [q1, q2, Int.toNat_natCast, Int.toNat_natCast] at x
    have fS := Fr_shr (sTry lFlo σ).2 b n (a - b - 1)
    have fF := Fr_find (sShr (sTry lFlo σ).2 b n (a - b - 1)) (a := 57) (t := 55) 1 (Or.inl rfl)
    have fr := Fr_t f1 (Fr_t fS fF)
    have e69 : (sFind (sShr (sTry lFlo σ).2 b n (a - b - 1)) 57 55 1).2 69 = σ.2 69 := by
      rw [sFind_r _ 1 (by rw [rf_57_3]; decide) (by rw [rf_57_4]; decide), shr_69, k69]
    obtain ⟨y, LT, IT'⟩ := stp _ fr e69
    obtain ⟨v1, v2⟩ := flo_all LT
    obtain ⟨a', b', ⟨-, a7', ao', be', ba'⟩, p1, p2, p3, p4, p5, p6⟩ := v2 (by rw [← v1]; exact c)
    have ea : a' = a := by rw [q1] at p1; omega
    have eb : b' = b := by rw [q2] at p2; omega
    rw [eb] at p3
    rw [ea, eb] at p4
    rw [ea] at p5 p6
    unfold yShrunk at y
    rw [e69, hn, if_neg (by rw [← v1]; exact c), Int.toNat_natCast, p3, p4] at y
    have z1 : ((b : Int) + 1).toNat = b + 1 := by omega
    have z2 : ((a : Int) - b).toNat = a - b := by omega
    rw [z1, z2] at y
    have n7 : n ≤ 7 := L0.1
    have hNX := vw_c HX.1
    have hnX : (sTry lFlo σ).2.1 2 0 = n := by rw [k2 2 0 (by decide), h2]
    obtain ⟨s1, s2, s3⟩ := sShr_N hNX b n (a - b - 1)
    have hW3 : nW ((sTry lFlo σ).2.2 3) = nW (gW (σ.2 69)) := by rw [k1 3 (by decide), vw_W HA]
    have gw := L0.2.2.2.2.2.1
    rw [k69] at gw
    rw [e69] at p6
    obtain ⟨-, -, sh⟩ := shr_w (σ := (sTry lFlo σ).2) (a := a) (b := b) hNX hnX n7 hW3 gw q1 a7 p5 p6.1 p6.2.1 (by omega) (a - b - 1) (by omega)
    have pp := (pairs_P (σ := sShr (sTry lFlo σ).2 b n (a - b - 1)) (a := 57) (t := 55) (n := n) (L := fun j => nBits 7 (fun q => decide (0 < nW ((sShr (sTry lFlo σ).2 b n (a - b - 1)).2 56) j q))) rfl rfl s1 (by rw [s2, oSF_s, hnX]) (fun l q hl hq => by
      rw [rf_55_1]
      unfold tb
      rw [nBits_tb, Bool.and_eq_true, decide_eq_true_eq, decide_eq_true_eq]
      exact ⟨fun z => z.2, fun z => ⟨hq, z⟩⟩)).1
    have Y69 : (yFl (lF n) (sFind (sShr (sTry lFlo σ).2 b n (a - b - 1)) 57 55 1)).2.2 69 = σ.2 69 := by
      rw [(yFl_s _ _).1 69 (by decide), e69]
    have fin := Fr_t (Fr_yfl (lF n) (sFind (sShr (sTry lFlo σ).2 b n (a - b - 1)) 57 55 1)) (Fr_shm (yFl (lF n) (sFind (sShr (sTry lFlo σ).2 b n (a - b - 1)) 57 55 1)).2 ((yFl (lF n) (sFind (sShr (sTry lFlo σ).2 b n (a - b - 1)) 57 55 1)).2.2 74) (b + 1) (a - b))
    refine Both_i x y ?_ (Inv_fr IT' fin)
    rw [pp]
    refine congrArg (fun z : Nat => (z : Int)) ?_
    exact shr_P n7 a7 (by omega) gw p6.1 p6.2.1 sh (fun l q hl => by
      unfold tb
      rw [nBits_tb, Bool.and_eq_true, decide_eq_true_eq, decide_eq_true_eq]) (fun l q hl hq => by
      rw [mL_69 Y69 hl]
      exact mL_tb HA hl hq)

