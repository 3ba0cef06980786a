theorem xDig_o (σ : oSg) {q j : Nat} (h : ¬ (q = 35 ∧ j = 2)) : (xDig σ).2.1 q j = σ.1 q j := by
  unfold xDig
  split
  · exact oSF_o _ _ h
  · rfl
theorem xNum_o (σ : oSg) {q j : Nat} (h : ¬ (q = 35 ∧ j = 2)) : (xNum σ).2.1 q j = σ.1 q j := by
  unfold xNum
  split
  · exact xDig_o σ h
  · split
    · show (xDig (xDig σ).2).2.1 q j = _
      rw [xDig_o _ h, xDig_o _ h]
    · show (xDig (xDig σ).2).2.1 q j = _
      rw [xDig_o _ h, xDig_o _ h]
theorem xCla_o (σ : oSg) {c q j : Nat} (h : ¬ (q = 35 ∧ j = 2)) (hc : ¬ q = c) : (xCla σ c).2.1 q j = σ.1 q j := by
  have t1 : (xCl1 σ c).1 q j = σ.1 q j := by
    unfold xCl1
    rw [oSF_o _ _ (fun z => hc z.1), oSF_o _ _ h]
  have t2 : (xCl2 σ c).1 q j = σ.1 q j := by
    unfold xCl2
    rw [oSF_o _ _ (fun z => hc z.1), xDig_o _ h, t1]
  have t3 : (xCl3 (xCl2 σ c) c).1 q j = σ.1 q j := by
    unfold xCl3
    rw [oSF_o _ _ (fun z => hc z.1), xDig_o _ h, t2]
  have t4 : ∀ τ : oSg, (xCl4 τ c).1 q j = τ.1 q j := by
    intro τ
    unfold xCl4
    rw [oSF_o _ _ (fun z => hc z.1), xNum_o _ h]
  unfold xCla
  repeat' split
  · rfl
  · exact t1
  · exact t2
  · exact (t4 _).trans t2
  · exact t3
  · exact t3
  · exact (t4 _).trans t3
theorem xFl_o : ∀ (m k : Nat) (τ : oSg), k + m = 12 → 0 ≤ τ.1 35 2 → τ.1 35 2 ≤ 6 * k → 0 ≤ τ.1 35 1 → τ.1 35 1 ≤ 12 → (xFl m k τ).2.1 2 0 = τ.1 2 0 ∧ 0 ≤ (xFl m k τ).2.1 35 1 ∧ (xFl m k τ).2.1 35 1 ≤ 12 ∧ -1 ≤ (xFl m k τ).1 ∧ (xFl m k τ).1 ≤ 100 := by
  intro m
  induction m with
  | zero =>
    intro k τ hk a0 a6 c0 c12
    exact ⟨rfl, c0, c12, by show -1 ≤ τ.1 35 2; omega, by show τ.1 35 2 ≤ 100; omega⟩
  | succ m ih =>
    intro k τ hk a0 a6 c0 c12
    have b1 := xCla_at τ (c := 39 + k) (by omega)
    have b2 := xCla_o τ (c := 39 + k) (q := 2) (j := 0) (by omega) (by omega)
    have b3 := xCla_o τ (c := 39 + k) (q := 35) (j := 1) (by omega) (by omega)
    have w1 : (oSF (xCla τ (39 + k)).2 35 1 ((k : Int) + 1)).1 2 0 = τ.1 2 0 := by rw [oSF_o _ _ (by omega), b2]
    have w2 : (oSF (xCla τ (39 + k)).2 35 1 ((k : Int) + 1)).1 35 1 = (k : Int) + 1 := oSF_s _ _ _ _
    unfold xFl
    split
    · exact ⟨b2, by dsimp only; omega, by dsimp only; omega, by dsimp only; omega, by dsimp only; omega⟩
    · split
      · exact ⟨w1, by dsimp only; omega, by dsimp only; omega, by dsimp only; omega, by dsimp only; omega⟩
      · split
        · exact ⟨w1, by dsimp only; omega, by dsimp only; omega, by dsimp only; omega, by dsimp only; omega⟩
        · have u1 : (oSF (oSF (xCla τ (39 + k)).2 35 1 ((k : Int) + 1)) 35 2 ((xCla τ (39 + k)).2.1 35 2 + 1)).1 35 2 = (xCla τ (39 + k)).2.1 35 2 + 1 := oSF_s _ _ _ _
          have u2 : (oSF (oSF (xCla τ (39 + k)).2 35 1 ((k : Int) + 1)) 35 2 ((xCla τ (39 + k)).2.1 35 2 + 1)).1 35 1 = (k : Int) + 1 := by rw [oSF_o _ _ (by omega), w2]
          have u3 : (oSF (oSF (xCla τ (39 + k)).2 35 1 ((k : Int) + 1)) 35 2 ((xCla τ (39 + k)).2.1 35 2 + 1)).1 2 0 = τ.1 2 0 := by rw [oSF_o _ _ (by omega), w1]
          have r := ih (k + 1) (oSF (oSF (xCla τ (39 + k)).2 35 1 ((k : Int) + 1)) 35 2 ((xCla τ (39 + k)).2.1 35 2 + 1)) (by omega) (by omega) (by omega) (by omega) (by omega)
          rw [u3] at r
          exact r
def xRead (σ : oSg) : Int × oSg := if (xFl 12 0 (oSF (oSF σ 35 2 0) 35 1 0)).1 < 0 then xDs ((oSF (xFl 12 0 (oSF (oSF σ 35 2 0) 35 1 0)).2 35 0 0).1 35 1).toNat 0 0 (oSF (xFl 12 0 (oSF (oSF σ 35 2 0) 35 1 0)).2 35 0 0) else (-10 - (xFl 12 0 (oSF (oSF σ 35 2 0) 35 1 0)).1, oSF (xFl 12 0 (oSF (oSF σ 35 2 0) 35 1 0)).2 35 0 0)
theorem m_X_read {d : Nat} {σ : oSg}  (h0 : 0 ≤ σ.1 2 0) (h7 : σ.1 2 0 ≤ 7) (hd : 7 ≤ d) : oMi d 53 [.inr (.inr (.inl (0)))] σ (some (.inl ((xRead σ).1))) ((xRead σ).2) := by
  refine oMi_all (k := 7) (by decide) (fun d hd => ?_) hd
  refine pMeth (Le := [.inr (.inr (.inl (0))), .inr (.inr (.inr 2))]) (mk_53 _) nl_53 (show (1 : Nat) ≤ 2 by decide) rfl ?_
  obtain ⟨v, hv⟩ : ∃ v, xRead σ = v := ⟨_, rfl⟩
  rw [hv]
  unfold xRead at hv
  have q1 : (oSF (oSF σ 35 2 0) 35 1 0).1 35 2 = 0 := by rw [oSF_o _ _ (by omega), oSF_s]
  have q2 : (oSF (oSF σ 35 2 0) 35 1 0).1 35 1 = 0 := oSF_s _ _ _ _
  have q3 : (oSF (oSF σ 35 2 0) 35 1 0).1 2 0 = σ.1 2 0 := by rw [oSF_o _ _ (by omega), oSF_o _ _ (by omega)]
  have r := xFl_o 12 0 (oSF (oSF σ 35 2 0) 35 1 0) (by omega) (by omega) (by omega) (by omega) (by omega)
  simp (disch := first | assumption | omega | exact oC1i | exact oC1r | exact oC1j | exact oSm0 | exact oSm1 | exact oSm2 | exact oSm3 | exact oSm4 | exact oB_01 _ | (simp only [rf_0_0, rf_0_1, rf_0_3, rf_0_4, rf_0_5, rf_0_6, rf_0_7, rf_0_8, rf_0_9, rf_0_10, rf_1_0, rf_1_1, rf_1_2, rf_1_3, rf_1_4, rf_1_5, rf_1_6, rf_2_1, ln_3, ln_4, ln_5, rf_6_1, rf_6_2, ln_7, ln_8, rf_9_1, rf_9_2, ln_10, ln_11, rf_12_1, rf_12_2, ln_13, ln_14, rf_15_1, rf_15_2, ln_16, ln_17, rf_18_0, rf_18_1, rf_18_2, rf_18_3, rf_18_4, rf_18_5, rf_18_6, rf_19_1, ln_20, ln_21, ln_22, rf_23_1, rf_23_2, ln_24, ln_25, rf_26_1, rf_26_2, ln_27, ln_28, rf_29_1, rf_29_2, ln_30, ln_31, rf_32_1, rf_32_2, ln_33, ln_34, rf_35_3, rf_35_4, rf_35_5, ln_36, ln_37, rf_51_0, rf_51_1, rf_51_2, ln_52, ln_53, ln_54, rf_55_1, ln_56, rf_57_3, rf_57_4, ln_58, ln_59, rf_60_3, rf_60_4, ln_61, ln_62, rf_63_2, ln_64, rf_65_5, ln_66, rf_68_0, rf_68_1, rf_68_2, rf_68_4, rf_68_5, rf_68_8, rf_68_12, rf_68_13, rf_68_18, rf_68_19, rf_68_20, rf_68_21, rf_68_22, rf_68_23, ln_69, ln_70, ln_71, ln_72, ln_73, ln_74, ln_75, ln_76, ln_77, ln_78, ln_79, ln_80, ln_81, ln_82, ln_83, ln_84, ln_85, ln_86, ln_87, ln_88, kd_0, kd_1, kd_2, ak_3, ak_4, ak_5, kd_6, ak_7, ak_8, kd_9, ak_10, ak_11, kd_12, ak_13, ak_14, kd_15, ak_16, ak_17, kd_18, kd_19, ak_20, ak_21, ak_22, kd_23, ak_24, ak_25, kd_26, ak_27, ak_28, kd_29, ak_30, ak_31, kd_32, ak_33, ak_34, kd_35, ak_36, ak_37, kd_38, kd_39, kd_40, kd_41, kd_42, kd_43, kd_44, kd_45, kd_46, kd_47, kd_48, kd_49, kd_50, kd_51, ak_52, ak_53, ak_54, kd_55, ak_56, kd_57, ak_58, ak_59, kd_60, ak_61, ak_62, kd_63, ak_64, kd_65, ak_66, kd_67, kd_68, ak_69, ak_70, ak_71, ak_72, ak_73, ak_74, ak_75, ak_76, ak_77, ak_78, ak_79, ak_80, ak_81, ak_82, ak_83, ak_84, ak_85, ak_86, ak_87, ak_88]; done) | (simp only [rf_0_0, rf_0_1, rf_0_3, rf_0_4, rf_0_5, rf_0_6, rf_0_7, rf_0_8, rf_0_9, rf_0_10, rf_1_0, rf_1_1, rf_1_2, rf_1_3, rf_1_4, rf_1_5, rf_1_6, rf_2_1, ln_3, ln_4, ln_5, rf_6_1, rf_6_2, ln_7, ln_8, rf_9_1, rf_9_2, ln_10, ln_11, rf_12_1, rf_12_2, ln_13, ln_14, rf_15_1, rf_15_2, ln_16, ln_17, rf_18_0, rf_18_1, rf_18_2, rf_18_3, rf_18_4, rf_18_5, rf_18_6, rf_19_1, ln_20, ln_21, ln_22, rf_23_1, rf_23_2, ln_24, ln_25, rf_26_1, rf_26_2, ln_27, ln_28, rf_29_1, rf_29_2, ln_30, ln_31, rf_32_1, rf_32_2, ln_33, ln_34, rf_35_3, rf_35_4, rf_35_5, ln_36, ln_37, rf_51_0, rf_51_1, rf_51_2, ln_52, ln_53, ln_54, rf_55_1, ln_56, rf_57_3, rf_57_4, ln_58, ln_59, rf_60_3, rf_60_4, ln_61, ln_62, rf_63_2, ln_64, rf_65_5, ln_66, rf_68_0, rf_68_1, rf_68_2, rf_68_4, rf_68_5, rf_68_8, rf_68_12, rf_68_13, rf_68_18, rf_68_19, rf_68_20, rf_68_21, rf_68_22, rf_68_23, ln_69, ln_70, ln_71, ln_72, ln_73, ln_74, ln_75, ln_76, ln_77, ln_78, ln_79, ln_80, ln_81, ln_82, ln_83, ln_84, ln_85, ln_86, ln_87, ln_88]; omega)) only [↓s_53_0, ↓s_53_1, ↓r_53_4, ↓s_53_7, nAdd, nSub, nMul, oTL_some, oTL_none, rf_0_0, rf_0_1, rf_0_3, rf_0_4, rf_0_5, rf_0_6, rf_0_7, rf_0_8, rf_0_9, rf_0_10, rf_1_0, rf_1_1, rf_1_2, rf_1_3, rf_1_4, rf_1_5, rf_1_6, rf_2_1, rf_6_1, rf_6_2, rf_9_1, rf_9_2, rf_12_1, rf_12_2, rf_15_1, rf_15_2, rf_18_0, rf_18_1, rf_18_2, rf_18_3, rf_18_4, rf_18_5, rf_18_6, rf_19_1, rf_23_1, rf_23_2, rf_26_1, rf_26_2, rf_29_1, rf_29_2, rf_32_1, rf_32_2, rf_35_3, rf_35_4, rf_35_5, rf_51_0, rf_51_1, rf_51_2, rf_55_1, rf_57_3, rf_57_4, rf_60_3, rf_60_4, rf_63_2, rf_65_5, rf_68_0, rf_68_1, rf_68_2, rf_68_4, rf_68_5, rf_68_8, rf_68_12, rf_68_13, rf_68_18, rf_68_19, rf_68_20, rf_68_21, rf_68_22, rf_68_23]
  generalize xFl 12 0 (oSF (oSF σ 35 2 0) 35 1 0) = x at *
  obtain ⟨r1, r2, r3, r4, r5⟩ := r
  have g1 : (oSF x.2 35 0 0).1 2 0 = x.2.1 2 0 := oSF_o _ _ (by omega)
  have g2 : (oSF x.2 35 0 0).1 35 1 = x.2.1 35 1 := oSF_o _ _ (by omega)
  have k0 : 0 ≤ (oSF x.2 35 0 0).1 2 0 := by omega
  have k7 : (oSF x.2 35 0 0).1 2 0 ≤ 7 := by omega
  have c0 : 0 ≤ (oSF x.2 35 0 0).1 35 1 := by omega
  have c12 : (oSF x.2 35 0 0).1 35 1 ≤ 12 := by omega
  simp (disch := first | assumption | omega | exact oC1i | exact oC1r | exact oC1j | exact oSm0 | exact oSm1 | exact oSm2 | exact oSm3 | exact oSm4 | exact oB_01 _ | (simp only [rf_0_0, rf_0_1, rf_0_3, rf_0_4, rf_0_5, rf_0_6, rf_0_7, rf_0_8, rf_0_9, rf_0_10, rf_1_0, rf_1_1, rf_1_2, rf_1_3, rf_1_4, rf_1_5, rf_1_6, rf_2_1, ln_3, ln_4, ln_5, rf_6_1, rf_6_2, ln_7, ln_8, rf_9_1, rf_9_2, ln_10, ln_11, rf_12_1, rf_12_2, ln_13, ln_14, rf_15_1, rf_15_2, ln_16, ln_17, rf_18_0, rf_18_1, rf_18_2, rf_18_3, rf_18_4, rf_18_5, rf_18_6, rf_19_1, ln_20, ln_21, ln_22, rf_23_1, rf_23_2, ln_24, ln_25, rf_26_1, rf_26_2, ln_27, ln_28, rf_29_1, rf_29_2, ln_30, ln_31, rf_32_1, rf_32_2, ln_33, ln_34, rf_35_3, rf_35_4, rf_35_5, ln_36, ln_37, rf_51_0, rf_51_1, rf_51_2, ln_52, ln_53, ln_54, rf_55_1, ln_56, rf_57_3, rf_57_4, ln_58, ln_59, rf_60_3, rf_60_4, ln_61, ln_62, rf_63_2, ln_64, rf_65_5, ln_66, rf_68_0, rf_68_1, rf_68_2, rf_68_4, rf_68_5, rf_68_8, rf_68_12, rf_68_13, rf_68_18, rf_68_19, rf_68_20, rf_68_21, rf_68_22, rf_68_23, ln_69, ln_70, ln_71, ln_72, ln_73, ln_74, ln_75, ln_76, ln_77, ln_78, ln_79, ln_80, ln_81, ln_82, ln_83, ln_84, ln_85, ln_86, ln_87, ln_88, kd_0, kd_1, kd_2, ak_3, ak_4, ak_5, kd_6, ak_7, ak_8, kd_9, ak_10, ak_11, kd_12, ak_13, ak_14, kd_15, ak_16, ak_17, kd_18, kd_19, ak_20, ak_21, ak_22, kd_23, ak_24, ak_25, kd_26, ak_27, ak_28, kd_29, ak_30, ak_31, kd_32, ak_33, ak_34, kd_35, ak_36, ak_37, kd_38, kd_39, kd_40, kd_41, kd_42, kd_43, kd_44, kd_45, kd_46, kd_47, kd_48, kd_49, kd_50, kd_51, ak_52, ak_53, ak_54, kd_55, ak_56, kd_57, ak_58, ak_59, kd_60, ak_61, ak_62, kd_63, ak_64, kd_65, ak_66, kd_67, kd_68, ak_69, ak_70, ak_71, ak_72, ak_73, ak_74, ak_75, ak_76, ak_77, ak_78, ak_79, ak_80, ak_81, ak_82, ak_83, ak_84, ak_85, ak_86, ak_87, ak_88]; done) | (simp only [rf_0_0, rf_0_1, rf_0_3, rf_0_4, rf_0_5, rf_0_6, rf_0_7, rf_0_8, rf_0_9, rf_0_10, rf_1_0, rf_1_1, rf_1_2, rf_1_3, rf_1_4, rf_1_5, rf_1_6, rf_2_1, ln_3, ln_4, ln_5, rf_6_1, rf_6_2, ln_7, ln_8, rf_9_1, rf_9_2, ln_10, ln_11, rf_12_1, rf_12_2, ln_13, ln_14, rf_15_1, rf_15_2, ln_16, ln_17, rf_18_0, rf_18_1, rf_18_2, rf_18_3, rf_18_4, rf_18_5, rf_18_6, rf_19_1, ln_20, ln_21, ln_22, rf_23_1, rf_23_2, ln_24, ln_25, rf_26_1, rf_26_2, ln_27, ln_28, rf_29_1, rf_29_2, ln_30, ln_31, rf_32_1, rf_32_2, ln_33, ln_34, rf_35_3, rf_35_4, rf_35_5, ln_36, ln_37, rf_51_0, rf_51_1, rf_51_2, ln_52, ln_53, ln_54, rf_55_1, ln_56, rf_57_3, rf_57_4, ln_58, ln_59, rf_60_3, rf_60_4, ln_61, ln_62, rf_63_2, ln_64, rf_65_5, ln_66, rf_68_0, rf_68_1, rf_68_2, rf_68_4, rf_68_5, rf_68_8, rf_68_12, rf_68_13, rf_68_18, rf_68_19, rf_68_20, rf_68_21, rf_68_22, rf_68_23, ln_69, ln_70, ln_71, ln_72, ln_73, ln_74, ln_75, ln_76, ln_77, ln_78, ln_79, ln_80, ln_81, ln_82, ln_83, ln_84, ln_85, ln_86, ln_87, ln_88]; omega)) only [↓s_53_0, ↓s_53_1, ↓r_53_4, ↓s_53_7, ↓s_53_8, ↓s_53_9, ↓s_53_12, ↓s_53_13, ↓s_53_16, ↓s_53_17, ↓s_53_20, ↓r_53_21, ↓s_53_24, ↓s_53_27, ↓s_53_29, ↓s_53_30, ↓s_53_31, nAdd, nSub, nMul, oTL_some, oTL_none, rf_0_0, rf_0_1, rf_0_3, rf_0_4, rf_0_5, rf_0_6, rf_0_7, rf_0_8, rf_0_9, rf_0_10, rf_1_0, rf_1_1, rf_1_2, rf_1_3, rf_1_4, rf_1_5, rf_1_6, rf_2_1, rf_6_1, rf_6_2, rf_9_1, rf_9_2, rf_12_1, rf_12_2, rf_15_1, rf_15_2, rf_18_0, rf_18_1, rf_18_2, rf_18_3, rf_18_4, rf_18_5, rf_18_6, rf_19_1, rf_23_1, rf_23_2, rf_26_1, rf_26_2, rf_29_1, rf_29_2, rf_32_1, rf_32_2, rf_35_3, rf_35_4, rf_35_5, rf_51_0, rf_51_1, rf_51_2, rf_55_1, rf_57_3, rf_57_4, rf_60_3, rf_60_4, rf_63_2, rf_65_5, rf_68_0, rf_68_1, rf_68_2, rf_68_4, rf_68_5, rf_68_8, rf_68_12, rf_68_13, rf_68_18, rf_68_19, rf_68_20, rf_68_21, rf_68_22, rf_68_23]
  by_cases g : x.1 < 0
  · rw [if_pos g] at hv
    rw [if_neg (by omega)]
    exact oEnd_is (by rw [hv]) (by rw [hv])
  · rw [if_neg g] at hv
    rw [if_pos (by omega)]
    exact oEnd_is (by rw [← hv]) (by rw [← hv])

