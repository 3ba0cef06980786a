/-! Matching.fillValues -/
theorem mn_chk : ((List.range 89).all fun a => (List.range 89).all fun t => match oKd a, oKd t with
  | some 3, some 4 => decide (¬ oRf t 1 = oRf a 3 ∧ ¬ oRf t 1 = oRf a 4)
  | _, _ => true) = true := by decide +kernel
theorem mn_ne {a t : Nat} (h : oKd a = some 3) (g : oKd t = some 4) : ¬ oRf t 1 = oRf a 3 ∧ ¬ oRf t 1 = oRf a 4 := by
  have h1 := List.all_eq_true.mp (List.all_eq_true.mp mn_chk a (List.mem_range.mpr (oKd_lt h))) t (List.mem_range.mpr (oKd_lt g))
  rw [h, g] at h1
  exact of_decide_eq_true h1
/-- the best value of l with those behind it, m of them looked at -/
def nBest (W : Int → Int → Int) (V : Int → Int) (o : Int) (l r : Nat) (v : Int) : Nat → Int
  | 0 => v
  | m + 1 => if nIs ((l + 1 + m : Nat) : Int) r then (if nBest W V o l r v m < nVw W V o l ((l + 1 + m : Nat) : Int) r then nVw W V o l ((l + 1 + m : Nat) : Int) r else nBest W V o l r v m) else nBest W V o l r v m
/-- the row of values, filled up to b -/
def rV (W : Int → Int → Int) (o : Int) (g : Nat → Int) : Nat → Nat → Int
  | 0 => fun x => if x = 0 then 0 else g x
  | b + 1 => fun x => if x = b + 1 then nBest W (nVal (rV W o g b)) o (nLow (b + 1)) (nRst (b + 1)) (nVal (rV W o g b) (nRst (b + 1))) (6 - nLow (b + 1)) else rV W o g b x
theorem nVal_n (g : Nat → Int) {b : Nat} (h : b < 128) : nVal g (b : Int) = g b := by
  unfold nVal
  rw [if_pos (by omega), Int.toNat_natCast]
theorem nBest_bd {W : Int → Int → Int} {V : Int → Int} {o v : Int} {l r : Nat} {B : Int} (hr : r < 128) (hl : l ≤ 6) (hw : ∀ i j, 0 ≤ W i j ∧ W i j ≤ 20) (ho : 0 ≤ o ∧ o ≤ 100) (hv : 0 ≤ v ∧ v ≤ B) (hV : ∀ c : Nat, c ≤ r → 0 ≤ V c ∧ V c + 120 ≤ B) : ∀ m, m ≤ 6 - l → 0 ≤ nBest W V o l r v m ∧ nBest W V o l r v m ≤ B := by
  intro m
  induction m with
  | zero => intro _; exact hv
  | succ m ih =>
    intro hm
    have h1 := ih (by omega)
    have h2 : 0 ≤ nVw W V o l ((l + 1 + m : Nat) : Int) r ∧ nVw W V o l ((l + 1 + m : Nat) : Int) r ≤ B := by
      unfold nVw
      split
      · have h3 := hw l ((l + 1 + m : Nat) : Int)
        rw [nClr_eq hr (by omega)]
        have h4 := hV _ (nClr_le (q := l + 1 + m) hr (by omega))
        omega
      · omega
    unfold nBest
    repeat' split
    all_goals assumption
theorem rV_bd {W : Int → Int → Int} {o : Int} {g : Nat → Int} (hw : ∀ i j, 0 ≤ W i j ∧ W i j ≤ 20) (ho : 0 ≤ o ∧ o ≤ 100) : ∀ b : Nat, b < 128 → ∀ x : Nat, x ≤ b → 0 ≤ rV W o g b x ∧ rV W o g b x ≤ 120 * x := by
  intro b
  induction b with
  | zero =>
    intro _ x hx
    have : x = 0 := by omega
    subst this
    exact ⟨by show (0 : Int) ≤ if 0 = 0 then 0 else g 0; rw [if_pos rfl]; decide, by show (if 0 = 0 then (0 : Int) else g 0) ≤ _; rw [if_pos rfl]; decide⟩
  | succ b ih =>
    intro hb x hx
    have ih' := ih (by omega)
    show 0 ≤ (if x = b + 1 then _ else _) ∧ (if x = b + 1 then _ else _) ≤ _
    by_cases h : x = b + 1
    · subst h
      rw [if_pos rfl]
      have h1 := nRst_lt (b := b + 1) (by omega) hb
      have h2 := nLow_le (b := b + 1) (by omega) hb
      refine nBest_bd (by omega) h2 hw ho ?_ ?_ _ (Nat.le_refl _)
      · rw [nVal_n _ (by omega)]
        have := ih' (nRst (b + 1)) (by omega)
        omega
      · intro c hc
        rw [nVal_n _ (by omega)]
        have := ih' c (by omega)
        omega
    · rw [if_neg h]
      exact ih' x (by omega)
theorem oSA_oSW (σ : oSg) (v i : Nat) (g : Nat → Int) (x : Int) : oSA (oSW σ v g) v i x = oSW σ v (fun j => if j = i then x else g j) := by
  unfold oSA oSW
  refine Prod.ext rfl ?_
  funext q j
  dsimp only
  by_cases h1 : q = v
  · subst h1
    by_cases h2 : j = i
    · rw [if_pos ⟨rfl, h2⟩, if_pos rfl, if_pos h2]
    · rw [if_neg (fun z => h2 z.2), if_pos rfl, if_pos rfl, if_neg h2]
  · rw [if_neg (fun z => h1 z.1), if_neg h1, if_neg h1]
theorem oSA_W (σ : oSg) (v i : Nat) (x : Int) : oSA σ v i x = oSW σ v (fun j => if j = i then x else σ.2 v j) := by
  unfold oSA oSW
  refine Prod.ext rfl ?_
  funext q j
  dsimp only
  by_cases h1 : q = v
  · subst h1
    by_cases h2 : j = i
    · rw [if_pos ⟨rfl, h2⟩, if_pos rfl, if_pos h2]
    · rw [if_neg (fun z => h2 z.2), if_pos rfl, if_neg h2]
  · rw [if_neg (fun z => h1 z.1), if_neg h1]
theorem oSW_at (σ : oSg) (v : Nat) (g : Nat → Int) : (oSW σ v g).2 v = g := by
  funext j
  exact if_pos rfl
theorem oSW_ne (σ : oSg) {v w : Nat} (h : ¬ w = v) (g : Nat → Int) : (oSW σ v g).2 w = σ.2 w := by
  funext j
  exact if_neg h
theorem oLoopV {γ : Type} {I : γ → Prop} {E : Nat → γ → Prop} {n : Nat} {X : Prop} (hend : ∀ g, I g → E n g = X) (hstep : ∀ q g, q < n → I g → ∃ g', I g' ∧ E q g = E (q + 1) g') : ∀ q g, q ≤ n → I g → E q g = X := by
  intro q g hq hg
  obtain ⟨m, hm⟩ : ∃ m, q + m = n := ⟨n - q, by omega⟩
  induction m generalizing q g with
  | zero =>
    have : q = n := by omega
    subst this
    exact hend g hg
  | succ m ih =>
    obtain ⟨g', hg', h⟩ := hstep q g (by omega) hg
    rw [h]
    exact ih (q + 1) g' (by omega) hg' (by omega)
theorem oLoopG4 {d z head : Nat} {Ls : Nat → oV → oV → oV → oV → List oV} {τ : Nat → oSg} {Q : Option oV → (Nat → oC) → Prop} {n : Nat} {X : Prop} (hend : ∀ a b c e, oCat a = 1 → oCat b = 1 → oCat c = 1 → oCat e = 1 → oE d z head (Ls n a b c e) [] (τ n) Q = X) (hstep : ∀ q a b c e, q < n → oCat a = 1 → oCat b = 1 → oCat c = 1 → oCat e = 1 → ∃ a' b' c' e', oCat a' = 1 ∧ oCat b' = 1 ∧ oCat c' = 1 ∧ oCat e' = 1 ∧ oE d z head (Ls q a b c e) [] (τ q) Q = oE d z head (Ls (q + 1) a' b' c' e') [] (τ (q + 1)) Q) : ∀ q a b c e, q ≤ n → oCat a = 1 → oCat b = 1 → oCat c = 1 → oCat e = 1 → oE d z head (Ls q a b c e) [] (τ q) Q = X := by
  intro q a b c e hq h1 h2 h3 h4
  refine oLoopV (γ := oV × oV × oV × oV) (I := fun g => oCat g.1 = 1 ∧ oCat g.2.1 = 1 ∧ oCat g.2.2.1 = 1 ∧ oCat g.2.2.2 = 1) (E := fun q g => oE d z head (Ls q g.1 g.2.1 g.2.2.1 g.2.2.2) [] (τ q) Q) (n := n) ?_ ?_ q (a, b, c, e) hq ⟨h1, h2, h3, h4⟩
  · intro g hg
    exact hend _ _ _ _ hg.1 hg.2.1 hg.2.2.1 hg.2.2.2
  · intro q g hq hg
    obtain ⟨a', b', c', e', k1, k2, k3, k4, h⟩ := hstep q _ _ _ _ hq hg.1 hg.2.1 hg.2.2.1 hg.2.2.2
    exact ⟨(a', b', c', e'), ⟨k1, k2, k3, k4⟩, h⟩
theorem l_fillI {d : Nat} {σ : oSg} {a t b : Nat} {last : Int} (hd : 3 ≤ d) (hk : oKd a = some 3) (ht : oKd t = some 4) (hN : cNet σ t) (ho : 0 ≤ σ.1 a 2 ∧ σ.1 a 2 ≤ 100) (hb : b + 1 < 128) (hV : ∀ c : Nat, c ≤ b → 0 ≤ nVal (σ.2 (oRf a 4)) c ∧ nVal (σ.2 (oRf a 4)) c ≤ 120 * c) {Q : Option oV → (Nat → oC) → Prop} : oE d 34 56 [.inr (.inr (.inl a)), .inr (.inr (.inl t)), .inl last, .inl ((b + 1 : Nat) : Int), .inl (nRst (b + 1) : Nat), .inl (nLow (b + 1) : Nat), .inl (nVal (σ.2 (oRf a 4)) (nRst (b + 1) : Nat)), .inl ((nLow (b + 1) + 1 : Nat) : Int)] [] σ Q = oE d 34 19 [.inr (.inr (.inl a)), .inr (.inr (.inl t)), .inl last, .inl ((b + 1 + 1 : Nat) : Int), .inl (nRst (b + 1) : Nat), .inl (nLow (b + 1) : Nat), .inl (nBest (nW (σ.2 (oRf t 1))) (nVal (σ.2 (oRf a 4))) (σ.1 a 2) (nLow (b + 1)) (nRst (b + 1)) (nVal (σ.2 (oRf a 4)) (nRst (b + 1) : Nat)) (6 - nLow (b + 1))), .inl 7] [] (oSA σ (oRf a 4) (b + 1) (nBest (nW (σ.2 (oRf t 1))) (nVal (σ.2 (oRf a 4))) (σ.1 a 2) (nLow (b + 1)) (nRst (b + 1)) (nVal (σ.2 (oRf a 4)) (nRst (b + 1) : Nat)) (6 - nLow (b + 1)))) Q := by
  obtain ⟨h1, h2, h3, h4, h5⟩ := mat_ok hk
  have r1 := nRst_lt (b := b + 1) (by omega) hb
  have r2 := nLow_le (b := b + 1) (by omega) hb
  generalize hlow : nLow (b + 1) = low at *
  generalize hrst : nRst (b + 1) = rst at *
  refine oLoop (z := 34) (head := 56) (n := 6 - low) (τ := fun _ => σ) (Ls := fun m => [.inr (.inr (.inl a)), .inr (.inr (.inl t)), .inl last, .inl ((b + 1 : Nat) : Int), .inl (rst : Nat), .inl (low : Nat), .inl (nBest (nW (σ.2 (oRf t 1))) (nVal (σ.2 (oRf a 4))) (σ.1 a 2) low rst (nVal (σ.2 (oRf a 4)) (rst : Nat)) m), .inl ((low + 1 + m : Nat) : Int)]) ?_ ?_ 0 (by omega)
  · have e : low + 1 + (6 - low) = 7 := by omega
    rw [e, s_34_56]
    simp (disch := first | assumption | omega | exact oC1i | exact oC1r | exact oC1j | exact oSm0 | exact oSm1 | exact oSm2 | exact oSm3 | exact oSm4 | exact oB_01 _ | (simp only [rf_0_0, rf_0_1, rf_0_3, rf_0_4, rf_0_5, rf_0_6, rf_0_7, rf_0_8, rf_0_9, rf_0_10, rf_1_0, rf_1_1, rf_1_2, rf_1_3, rf_1_4, rf_1_5, rf_1_6, rf_2_1, ln_3, ln_4, ln_5, rf_6_1, rf_6_2, ln_7, ln_8, rf_9_1, rf_9_2, ln_10, ln_11, rf_12_1, rf_12_2, ln_13, ln_14, rf_15_1, rf_15_2, ln_16, ln_17, rf_18_0, rf_18_1, rf_18_2, rf_18_3, rf_18_4, rf_18_5, rf_18_6, rf_19_1, ln_20, ln_21, ln_22, rf_23_1, rf_23_2, ln_24, ln_25, rf_26_1, rf_26_2, ln_27, ln_28, rf_29_1, rf_29_2, ln_30, ln_31, rf_32_1, rf_32_2, ln_33, ln_34, rf_35_3, rf_35_4, rf_35_5, ln_36, ln_37, rf_51_0, rf_51_1, rf_51_2, ln_52, ln_53, ln_54, rf_55_1, ln_56, rf_57_3, rf_57_4, ln_58, ln_59, rf_60_3, rf_60_4, ln_61, ln_62, rf_63_2, ln_64, rf_65_5, ln_66, rf_68_0, rf_68_1, rf_68_2, rf_68_4, rf_68_5, rf_68_8, rf_68_12, rf_68_13, rf_68_18, rf_68_19, rf_68_20, rf_68_21, rf_68_22, rf_68_23, ln_69, ln_70, ln_71, ln_72, ln_73, ln_74, ln_75, ln_76, ln_77, ln_78, ln_79, ln_80, ln_81, ln_82, ln_83, ln_84, ln_85, ln_86, ln_87, ln_88, kd_0, kd_1, kd_2, ak_3, ak_4, ak_5, kd_6, ak_7, ak_8, kd_9, ak_10, ak_11, kd_12, ak_13, ak_14, kd_15, ak_16, ak_17, kd_18, kd_19, ak_20, ak_21, ak_22, kd_23, ak_24, ak_25, kd_26, ak_27, ak_28, kd_29, ak_30, ak_31, kd_32, ak_33, ak_34, kd_35, ak_36, ak_37, kd_38, kd_39, kd_40, kd_41, kd_42, kd_43, kd_44, kd_45, kd_46, kd_47, kd_48, kd_49, kd_50, kd_51, ak_52, ak_53, ak_54, kd_55, ak_56, kd_57, ak_58, ak_59, kd_60, ak_61, ak_62, kd_63, ak_64, kd_65, ak_66, kd_67, kd_68, ak_69, ak_70, ak_71, ak_72, ak_73, ak_74, ak_75, ak_76, ak_77, ak_78, ak_79, ak_80, ak_81, ak_82, ak_83, ak_84, ak_85, ak_86, ak_87, ak_88]; done) | (simp only [rf_0_0, rf_0_1, rf_0_3, rf_0_4, rf_0_5, rf_0_6, rf_0_7, rf_0_8, rf_0_9, rf_0_10, rf_1_0, rf_1_1, rf_1_2, rf_1_3, rf_1_4, rf_1_5, rf_1_6, rf_2_1, ln_3, ln_4, ln_5, rf_6_1, rf_6_2, ln_7, ln_8, rf_9_1, rf_9_2, ln_10, ln_11, rf_12_1, rf_12_2, ln_13, ln_14, rf_15_1, rf_15_2, ln_16, ln_17, rf_18_0, rf_18_1, rf_18_2, rf_18_3, rf_18_4, rf_18_5, rf_18_6, rf_19_1, ln_20, ln_21, ln_22, rf_23_1, rf_23_2, ln_24, ln_25, rf_26_1, rf_26_2, ln_27, ln_28, rf_29_1, rf_29_2, ln_30, ln_31, rf_32_1, rf_32_2, ln_33, ln_34, rf_35_3, rf_35_4, rf_35_5, ln_36, ln_37, rf_51_0, rf_51_1, rf_51_2, ln_52, ln_53, ln_54, rf_55_1, ln_56, rf_57_3, rf_57_4, ln_58, ln_59, rf_60_3, rf_60_4, ln_61, ln_62, rf_63_2, ln_64, rf_65_5, ln_66, rf_68_0, rf_68_1, rf_68_2, rf_68_4, rf_68_5, rf_68_8, rf_68_12, rf_68_13, rf_68_18, rf_68_19, rf_68_20, rf_68_21, rf_68_22, rf_68_23, ln_69, ln_70, ln_71, ln_72, ln_73, ln_74, ln_75, ln_76, ln_77, ln_78, ln_79, ln_80, ln_81, ln_82, ln_83, ln_84, ln_85, ln_86, ln_87, ln_88]; omega)) only [↓s_34_0, ↓r_34_1, ↓s_34_4, ↓s_34_6, ↓s_34_9, ↓s_34_10, ↓s_34_11, ↓s_34_14, ↓s_34_15, ↓s_34_16, ↓s_34_17, ↓s_34_18, ↓s_34_24, ↓s_34_25, ↓s_34_26, ↓s_34_27, ↓s_34_28, ↓s_34_29, ↓s_34_31, ↓s_34_32, ↓s_34_34, ↓s_34_35, ↓s_34_36, ↓r_34_37, ↓s_34_40, ↓s_34_42, ↓s_34_43, ↓r_34_45, ↓s_34_48, ↓s_34_50, ↓s_34_52, ↓s_34_53, ↓s_34_54, ↓s_34_58, ↓s_34_60, ↓s_34_63, ↓s_34_65, ↓r_34_67, ↓s_34_70, ↓s_34_73, ↓s_34_75, ↓s_34_76, ↓s_34_77, ↓s_34_79, ↓s_34_81, ↓r_34_83, ↓s_34_86, ↓s_34_89, ↓s_34_91, ↓s_34_94, ↓s_34_97, ↓s_34_98, ↓s_34_101, ↓s_34_102, ↓s_34_104, ↓s_34_105, ↓s_34_108, ↓s_34_111, nAdd, nSub, nMul, oTL_some, oTL_none, rf_0_0, rf_0_1, rf_0_3, rf_0_4, rf_0_5, rf_0_6, rf_0_7, rf_0_8, rf_0_9, rf_0_10, rf_1_0, rf_1_1, rf_1_2, rf_1_3, rf_1_4, rf_1_5, rf_1_6, rf_2_1, rf_6_1, rf_6_2, rf_9_1, rf_9_2, rf_12_1, rf_12_2, rf_15_1, rf_15_2, rf_18_0, rf_18_1, rf_18_2, rf_18_3, rf_18_4, rf_18_5, rf_18_6, rf_19_1, rf_23_1, rf_23_2, rf_26_1, rf_26_2, rf_29_1, rf_29_2, rf_32_1, rf_32_2, rf_35_3, rf_35_4, rf_35_5, rf_51_0, rf_51_1, rf_51_2, rf_55_1, rf_57_3, rf_57_4, rf_60_3, rf_60_4, rf_63_2, rf_65_5, rf_68_0, rf_68_1, rf_68_2, rf_68_4, rf_68_5, rf_68_8, rf_68_12, rf_68_13, rf_68_18, rf_68_19, rf_68_20, rf_68_21, rf_68_22, rf_68_23]
    rfl
  · intro q hq
    have hv : 0 ≤ nVal (σ.2 (oRf a 4)) (oAnd (rst : Int) (oXor (oShl 1 ((low + 1 + q : Nat) : Int)) (-1))) ∧ nVal (σ.2 (oRf a 4)) (oAnd (rst : Int) (oXor (oShl 1 ((low + 1 + q : Nat) : Int)) (-1))) ≤ 20000 := by
      rw [nClr_eq (by omega) (by omega)]
      have h6 := nClr_le (b := rst) (q := low + 1 + q) (by omega) (by omega)
      have h7 := hV (nClr rst (low + 1 + q)) (by omega)
      omega
    have e : nBest (nW (σ.2 (oRf t 1))) (nVal (σ.2 (oRf a 4))) (σ.1 a 2) low rst (nVal (σ.2 (oRf a 4)) (rst : Nat)) (q + 1) = if nIs ((low + 1 + q : Nat) : Int) rst then (if nBest (nW (σ.2 (oRf t 1))) (nVal (σ.2 (oRf a 4))) (σ.1 a 2) low rst (nVal (σ.2 (oRf a 4)) (rst : Nat)) q < nVw (nW (σ.2 (oRf t 1))) (nVal (σ.2 (oRf a 4))) (σ.1 a 2) low ((low + 1 + q : Nat) : Int) rst then nVw (nW (σ.2 (oRf t 1))) (nVal (σ.2 (oRf a 4))) (σ.1 a 2) low ((low + 1 + q : Nat) : Int) rst else nBest (nW (σ.2 (oRf t 1))) (nVal (σ.2 (oRf a 4))) (σ.1 a 2) low rst (nVal (σ.2 (oRf a 4)) (rst : Nat)) q) else nBest (nW (σ.2 (oRf t 1))) (nVal (σ.2 (oRf a 4))) (σ.1 a 2) low rst (nVal (σ.2 (oRf a 4)) (rst : Nat)) q := rfl
    rw [e, s_34_56]
    simp (disch := first | assumption | omega | exact oC1i | exact oC1r | exact oC1j | exact oSm0 | exact oSm1 | exact oSm2 | exact oSm3 | exact oSm4 | exact oB_01 _ | (simp only [rf_0_0, rf_0_1, rf_0_3, rf_0_4, rf_0_5, rf_0_6, rf_0_7, rf_0_8, rf_0_9, rf_0_10, rf_1_0, rf_1_1, rf_1_2, rf_1_3, rf_1_4, rf_1_5, rf_1_6, rf_2_1, ln_3, ln_4, ln_5, rf_6_1, rf_6_2, ln_7, ln_8, rf_9_1, rf_9_2, ln_10, ln_11, rf_12_1, rf_12_2, ln_13, ln_14, rf_15_1, rf_15_2, ln_16, ln_17, rf_18_0, rf_18_1, rf_18_2, rf_18_3, rf_18_4, rf_18_5, rf_18_6, rf_19_1, ln_20, ln_21, ln_22, rf_23_1, rf_23_2, ln_24, ln_25, rf_26_1, rf_26_2, ln_27, ln_28, rf_29_1, rf_29_2, ln_30, ln_31, rf_32_1, rf_32_2, ln_33, ln_34, rf_35_3, rf_35_4, rf_35_5, ln_36, ln_37, rf_51_0, rf_51_1, rf_51_2, ln_52, ln_53, ln_54, rf_55_1, ln_56, rf_57_3, rf_57_4, ln_58, ln_59, rf_60_3, rf_60_4, ln_61, ln_62, rf_63_2, ln_64, rf_65_5, ln_66, rf_68_0, rf_68_1, rf_68_2, rf_68_4, rf_68_5, rf_68_8, rf_68_12, rf_68_13, rf_68_18, rf_68_19, rf_68_20, rf_68_21, rf_68_22, rf_68_23, ln_69, ln_70, ln_71, ln_72, ln_73, ln_74, ln_75, ln_76, ln_77, ln_78, ln_79, ln_80, ln_81, ln_82, ln_83, ln_84, ln_85, ln_86, ln_87, ln_88, kd_0, kd_1, kd_2, ak_3, ak_4, ak_5, kd_6, ak_7, ak_8, kd_9, ak_10, ak_11, kd_12, ak_13, ak_14, kd_15, ak_16, ak_17, kd_18, kd_19, ak_20, ak_21, ak_22, kd_23, ak_24, ak_25, kd_26, ak_27, ak_28, kd_29, ak_30, ak_31, kd_32, ak_33, ak_34, kd_35, ak_36, ak_37, kd_38, kd_39, kd_40, kd_41, kd_42, kd_43, kd_44, kd_45, kd_46, kd_47, kd_48, kd_49, kd_50, kd_51, ak_52, ak_53, ak_54, kd_55, ak_56, kd_57, ak_58, ak_59, kd_60, ak_61, ak_62, kd_63, ak_64, kd_65, ak_66, kd_67, kd_68, ak_69, ak_70, ak_71, ak_72, ak_73, ak_74, ak_75, ak_76, ak_77, ak_78, ak_79, ak_80, ak_81, ak_82, ak_83, ak_84, ak_85, ak_86, ak_87, ak_88]; done) | (simp only [rf_0_0, rf_0_1, rf_0_3, rf_0_4, rf_0_5, rf_0_6, rf_0_7, rf_0_8, rf_0_9, rf_0_10, rf_1_0, rf_1_1, rf_1_2, rf_1_3, rf_1_4, rf_1_5, rf_1_6, rf_2_1, ln_3, ln_4, ln_5, rf_6_1, rf_6_2, ln_7, ln_8, rf_9_1, rf_9_2, ln_10, ln_11, rf_12_1, rf_12_2, ln_13, ln_14, rf_15_1, rf_15_2, ln_16, ln_17, rf_18_0, rf_18_1, rf_18_2, rf_18_3, rf_18_4, rf_18_5, rf_18_6, rf_19_1, ln_20, ln_21, ln_22, rf_23_1, rf_23_2, ln_24, ln_25, rf_26_1, rf_26_2, ln_27, ln_28, rf_29_1, rf_29_2, ln_30, ln_31, rf_32_1, rf_32_2, ln_33, ln_34, rf_35_3, rf_35_4, rf_35_5, ln_36, ln_37, rf_51_0, rf_51_1, rf_51_2, ln_52, ln_53, ln_54, rf_55_1, ln_56, rf_57_3, rf_57_4, ln_58, ln_59, rf_60_3, rf_60_4, ln_61, ln_62, rf_63_2, ln_64, rf_65_5, ln_66, rf_68_0, rf_68_1, rf_68_2, rf_68_4, rf_68_5, rf_68_8, rf_68_12, rf_68_13, rf_68_18, rf_68_19, rf_68_20, rf_68_21, rf_68_22, rf_68_23, ln_69, ln_70, ln_71, ln_72, ln_73, ln_74, ln_75, ln_76, ln_77, ln_78, ln_79, ln_80, ln_81, ln_82, ln_83, ln_84, ln_85, ln_86, ln_87, ln_88]; omega)) only [↓s_34_0, ↓r_34_1, ↓s_34_4, ↓s_34_6, ↓s_34_9, ↓s_34_10, ↓s_34_11, ↓s_34_14, ↓s_34_15, ↓s_34_16, ↓s_34_17, ↓s_34_18, ↓s_34_24, ↓s_34_25, ↓s_34_26, ↓s_34_27, ↓s_34_28, ↓s_34_29, ↓s_34_31, ↓s_34_32, ↓s_34_34, ↓s_34_35, ↓s_34_36, ↓r_34_37, ↓s_34_40, ↓s_34_42, ↓s_34_43, ↓r_34_45, ↓s_34_48, ↓s_34_50, ↓s_34_52, ↓s_34_53, ↓s_34_54, ↓s_34_58, ↓s_34_60, ↓s_34_63, ↓s_34_65, ↓r_34_67, ↓s_34_70, ↓s_34_73, ↓s_34_75, ↓s_34_76, ↓s_34_77, ↓s_34_79, ↓s_34_81, ↓r_34_83, ↓s_34_86, ↓s_34_89, ↓s_34_91, ↓s_34_94, ↓s_34_97, ↓s_34_98, ↓s_34_101, ↓s_34_102, ↓s_34_104, ↓s_34_105, ↓s_34_108, ↓s_34_111, nAdd, nSub, nMul, oTL_some, oTL_none, rf_0_0, rf_0_1, rf_0_3, rf_0_4, rf_0_5, rf_0_6, rf_0_7, rf_0_8, rf_0_9, rf_0_10, rf_1_0, rf_1_1, rf_1_2, rf_1_3, rf_1_4, rf_1_5, rf_1_6, rf_2_1, rf_6_1, rf_6_2, rf_9_1, rf_9_2, rf_12_1, rf_12_2, rf_15_1, rf_15_2, rf_18_0, rf_18_1, rf_18_2, rf_18_3, rf_18_4, rf_18_5, rf_18_6, rf_19_1, rf_23_1, rf_23_2, rf_26_1, rf_26_2, rf_29_1, rf_29_2, rf_32_1, rf_32_2, rf_35_3, rf_35_4, rf_35_5, rf_51_0, rf_51_1, rf_51_2, rf_55_1, rf_57_3, rf_57_4, rf_60_3, rf_60_4, rf_63_2, rf_65_5, rf_68_0, rf_68_1, rf_68_2, rf_68_4, rf_68_5, rf_68_8, rf_68_12, rf_68_13, rf_68_18, rf_68_19, rf_68_20, rf_68_21, rf_68_22, rf_68_23, oB_eq0]
    rw [if_neg (by omega)]
    by_cases g1 : nIs ((low + 1 + q : Nat) : Int) rst
    · rw [if_neg (not_not_intro g1), if_pos g1]
      rfl
    · rw [if_pos g1, if_neg g1]
      rfl
theorem m_Matching_fillValues {d : Nat} {σ : oSg} {a t : Nat} (hk : oKd a = some 3) (ht : oKd t = some 4) (hN : cNet σ t) (ho : 0 ≤ σ.1 a 2 ∧ σ.1 a 2 ≤ 100) (hd : 4 ≤ d) : oMi d 34 [.inr (.inr (.inl (a))), .inr (.inr (.inl (t)))] σ none (oSW σ (oRf a 4) (rV (nW (σ.2 (oRf t 1))) (σ.1 a 2) (σ.2 (oRf a 4)) (2 ^ (σ.1 t 0).toNat - 1))) := by
  refine oMi_all (k := 4) (by decide) (fun d hd => ?_) hd
  refine pMeth (Le := [.inr (.inr (.inl (a))), .inr (.inr (.inl (t))), .inr (.inr (.inr 2)), .inr (.inr (.inr 2)), .inr (.inr (.inr 2)), .inr (.inr (.inr 2)), .inr (.inr (.inr 2)), .inr (.inr (.inr 2))]) (mk_34 _) nl_34 (show (2 : Nat) ≤ 8 by decide) rfl ?_
  obtain ⟨n0, n7, nw⟩ := id hN
  obtain ⟨h1, h2, h3, h4, h5⟩ := mat_ok hk
  obtain ⟨e1, e2⟩ := mn_ne hk ht
  obtain ⟨n, hn⟩ : ∃ n : Nat, σ.1 t 0 = n := ⟨(σ.1 t 0).toNat, by omega⟩
  have p1 : 1 ≤ 2 ^ n := Nat.one_le_two_pow
  have p2 : 2 ^ n ≤ 2 ^ 7 := Nat.pow_le_pow_right (by decide) (by omega)
  obtain ⟨L, hL⟩ : ∃ L : Nat, 2 ^ n - 1 = L := ⟨_, rfl⟩
  have key := oLoopG4 (d := d) (z := 34) (head := 19) (n := L) (τ := fun q => oSW σ (oRf a 4) (rV (nW (σ.2 (oRf t 1))) (σ.1 a 2) (σ.2 (oRf a 4)) q)) (Q := oEnd none (oSW σ (oRf a 4) (rV (nW (σ.2 (oRf t 1))) (σ.1 a 2) (σ.2 (oRf a 4)) L))) (X := True) (Ls := fun q g1 g2 g3 g4 => [.inr (.inr (.inl a)), .inr (.inr (.inl t)), .inl (L : Int), .inl ((q + 1 : Nat) : Int), g1, g2, g3, g4]) ?_ ?_ 0 (.inr (.inr (.inr 2))) (.inr (.inr (.inr 2))) (.inr (.inr (.inr 2))) (.inr (.inr (.inr 2))) (by omega) rfl rfl rfl rfl
  · rw [hn, Int.toNat_natCast, hL]
    simp (disch := first | assumption | omega | exact oC1i | exact oC1r | exact oC1j | exact oSm0 | exact oSm1 | exact oSm2 | exact oSm3 | exact oSm4 | exact oB_01 _ | (simp only [rf_0_0, rf_0_1, rf_0_3, rf_0_4, rf_0_5, rf_0_6, rf_0_7, rf_0_8, rf_0_9, rf_0_10, rf_1_0, rf_1_1, rf_1_2, rf_1_3, rf_1_4, rf_1_5, rf_1_6, rf_2_1, ln_3, ln_4, ln_5, rf_6_1, rf_6_2, ln_7, ln_8, rf_9_1, rf_9_2, ln_10, ln_11, rf_12_1, rf_12_2, ln_13, ln_14, rf_15_1, rf_15_2, ln_16, ln_17, rf_18_0, rf_18_1, rf_18_2, rf_18_3, rf_18_4, rf_18_5, rf_18_6, rf_19_1, ln_20, ln_21, ln_22, rf_23_1, rf_23_2, ln_24, ln_25, rf_26_1, rf_26_2, ln_27, ln_28, rf_29_1, rf_29_2, ln_30, ln_31, rf_32_1, rf_32_2, ln_33, ln_34, rf_35_3, rf_35_4, rf_35_5, ln_36, ln_37, rf_51_0, rf_51_1, rf_51_2, ln_52, ln_53, ln_54, rf_55_1, ln_56, rf_57_3, rf_57_4, ln_58, ln_59, rf_60_3, rf_60_4, ln_61, ln_62, rf_63_2, ln_64, rf_65_5, ln_66, rf_68_0, rf_68_1, rf_68_2, rf_68_4, rf_68_5, rf_68_8, rf_68_12, rf_68_13, rf_68_18, rf_68_19, rf_68_20, rf_68_21, rf_68_22, rf_68_23, ln_69, ln_70, ln_71, ln_72, ln_73, ln_74, ln_75, ln_76, ln_77, ln_78, ln_79, ln_80, ln_81, ln_82, ln_83, ln_84, ln_85, ln_86, ln_87, ln_88, kd_0, kd_1, kd_2, ak_3, ak_4, ak_5, kd_6, ak_7, ak_8, kd_9, ak_10, ak_11, kd_12, ak_13, ak_14, kd_15, ak_16, ak_17, kd_18, kd_19, ak_20, ak_21, ak_22, kd_23, ak_24, ak_25, kd_26, ak_27, ak_28, kd_29, ak_30, ak_31, kd_32, ak_33, ak_34, kd_35, ak_36, ak_37, kd_38, kd_39, kd_40, kd_41, kd_42, kd_43, kd_44, kd_45, kd_46, kd_47, kd_48, kd_49, kd_50, kd_51, ak_52, ak_53, ak_54, kd_55, ak_56, kd_57, ak_58, ak_59, kd_60, ak_61, ak_62, kd_63, ak_64, kd_65, ak_66, kd_67, kd_68, ak_69, ak_70, ak_71, ak_72, ak_73, ak_74, ak_75, ak_76, ak_77, ak_78, ak_79, ak_80, ak_81, ak_82, ak_83, ak_84, ak_85, ak_86, ak_87, ak_88]; done) | (simp only [rf_0_0, rf_0_1, rf_0_3, rf_0_4, rf_0_5, rf_0_6, rf_0_7, rf_0_8, rf_0_9, rf_0_10, rf_1_0, rf_1_1, rf_1_2, rf_1_3, rf_1_4, rf_1_5, rf_1_6, rf_2_1, ln_3, ln_4, ln_5, rf_6_1, rf_6_2, ln_7, ln_8, rf_9_1, rf_9_2, ln_10, ln_11, rf_12_1, rf_12_2, ln_13, ln_14, rf_15_1, rf_15_2, ln_16, ln_17, rf_18_0, rf_18_1, rf_18_2, rf_18_3, rf_18_4, rf_18_5, rf_18_6, rf_19_1, ln_20, ln_21, ln_22, rf_23_1, rf_23_2, ln_24, ln_25, rf_26_1, rf_26_2, ln_27, ln_28, rf_29_1, rf_29_2, ln_30, ln_31, rf_32_1, rf_32_2, ln_33, ln_34, rf_35_3, rf_35_4, rf_35_5, ln_36, ln_37, rf_51_0, rf_51_1, rf_51_2, ln_52, ln_53, ln_54, rf_55_1, ln_56, rf_57_3, rf_57_4, ln_58, ln_59, rf_60_3, rf_60_4, ln_61, ln_62, rf_63_2, ln_64, rf_65_5, ln_66, rf_68_0, rf_68_1, rf_68_2, rf_68_4, rf_68_5, rf_68_8, rf_68_12, rf_68_13, rf_68_18, rf_68_19, rf_68_20, rf_68_21, rf_68_22, rf_68_23, ln_69, ln_70, ln_71, ln_72, ln_73, ln_74, ln_75, ln_76, ln_77, ln_78, ln_79, ln_80, ln_81, ln_82, ln_83, ln_84, ln_85, ln_86, ln_87, ln_88]; omega)) only [↓s_34_0, ↓r_34_1, ↓s_34_4, ↓s_34_6, ↓s_34_9, ↓s_34_10, ↓s_34_11, ↓s_34_14, ↓s_34_15, ↓s_34_16, ↓s_34_17, ↓s_34_18, ↓s_34_24, ↓s_34_25, ↓s_34_26, ↓s_34_27, ↓s_34_28, ↓s_34_29, ↓s_34_31, ↓s_34_32, ↓s_34_34, ↓s_34_35, ↓s_34_36, ↓r_34_37, ↓s_34_40, ↓s_34_42, ↓s_34_43, ↓r_34_45, ↓s_34_48, ↓s_34_50, ↓s_34_52, ↓s_34_53, ↓s_34_54, ↓s_34_56, ↓s_34_58, ↓s_34_60, ↓s_34_63, ↓s_34_65, ↓r_34_67, ↓s_34_70, ↓s_34_73, ↓s_34_75, ↓s_34_76, ↓s_34_77, ↓s_34_79, ↓s_34_81, ↓r_34_83, ↓s_34_86, ↓s_34_89, ↓s_34_91, ↓s_34_94, ↓s_34_97, ↓s_34_98, ↓s_34_101, ↓s_34_102, ↓s_34_104, ↓s_34_105, ↓s_34_108, ↓s_34_111, nAdd, nSub, nMul, oTL_some, oTL_none, rf_0_0, rf_0_1, rf_0_3, rf_0_4, rf_0_5, rf_0_6, rf_0_7, rf_0_8, rf_0_9, rf_0_10, rf_1_0, rf_1_1, rf_1_2, rf_1_3, rf_1_4, rf_1_5, rf_1_6, rf_2_1, rf_6_1, rf_6_2, rf_9_1, rf_9_2, rf_12_1, rf_12_2, rf_15_1, rf_15_2, rf_18_0, rf_18_1, rf_18_2, rf_18_3, rf_18_4, rf_18_5, rf_18_6, rf_19_1, rf_23_1, rf_23_2, rf_26_1, rf_26_2, rf_29_1, rf_29_2, rf_32_1, rf_32_2, rf_35_3, rf_35_4, rf_35_5, rf_51_0, rf_51_1, rf_51_2, rf_55_1, rf_57_3, rf_57_4, rf_60_3, rf_60_4, rf_63_2, rf_65_5, rf_68_0, rf_68_1, rf_68_2, rf_68_4, rf_68_5, rf_68_8, rf_68_12, rf_68_13, rf_68_18, rf_68_19, rf_68_20, rf_68_21, rf_68_22, rf_68_23, hn, Int.toNat_natCast, hL]
    rw [if_neg (by omega)]
    refine Eq.mpr ?_ (key.mpr trivial)
    rw [oSA_W]
    rfl
  · intro g1 g2 g3 g4 k1 k2 k3 k4
    rw [s_34_19]
    simp (disch := first | assumption | omega | exact oC1i | exact oC1r | exact oC1j | exact oSm0 | exact oSm1 | exact oSm2 | exact oSm3 | exact oSm4 | exact oB_01 _ | (simp only [rf_0_0, rf_0_1, rf_0_3, rf_0_4, rf_0_5, rf_0_6, rf_0_7, rf_0_8, rf_0_9, rf_0_10, rf_1_0, rf_1_1, rf_1_2, rf_1_3, rf_1_4, rf_1_5, rf_1_6, rf_2_1, ln_3, ln_4, ln_5, rf_6_1, rf_6_2, ln_7, ln_8, rf_9_1, rf_9_2, ln_10, ln_11, rf_12_1, rf_12_2, ln_13, ln_14, rf_15_1, rf_15_2, ln_16, ln_17, rf_18_0, rf_18_1, rf_18_2, rf_18_3, rf_18_4, rf_18_5, rf_18_6, rf_19_1, ln_20, ln_21, ln_22, rf_23_1, rf_23_2, ln_24, ln_25, rf_26_1, rf_26_2, ln_27, ln_28, rf_29_1, rf_29_2, ln_30, ln_31, rf_32_1, rf_32_2, ln_33, ln_34, rf_35_3, rf_35_4, rf_35_5, ln_36, ln_37, rf_51_0, rf_51_1, rf_51_2, ln_52, ln_53, ln_54, rf_55_1, ln_56, rf_57_3, rf_57_4, ln_58, ln_59, rf_60_3, rf_60_4, ln_61, ln_62, rf_63_2, ln_64, rf_65_5, ln_66, rf_68_0, rf_68_1, rf_68_2, rf_68_4, rf_68_5, rf_68_8, rf_68_12, rf_68_13, rf_68_18, rf_68_19, rf_68_20, rf_68_21, rf_68_22, rf_68_23, ln_69, ln_70, ln_71, ln_72, ln_73, ln_74, ln_75, ln_76, ln_77, ln_78, ln_79, ln_80, ln_81, ln_82, ln_83, ln_84, ln_85, ln_86, ln_87, ln_88, kd_0, kd_1, kd_2, ak_3, ak_4, ak_5, kd_6, ak_7, ak_8, kd_9, ak_10, ak_11, kd_12, ak_13, ak_14, kd_15, ak_16, ak_17, kd_18, kd_19, ak_20, ak_21, ak_22, kd_23, ak_24, ak_25, kd_26, ak_27, ak_28, kd_29, ak_30, ak_31, kd_32, ak_33, ak_34, kd_35, ak_36, ak_37, kd_38, kd_39, kd_40, kd_41, kd_42, kd_43, kd_44, kd_45, kd_46, kd_47, kd_48, kd_49, kd_50, kd_51, ak_52, ak_53, ak_54, kd_55, ak_56, kd_57, ak_58, ak_59, kd_60, ak_61, ak_62, kd_63, ak_64, kd_65, ak_66, kd_67, kd_68, ak_69, ak_70, ak_71, ak_72, ak_73, ak_74, ak_75, ak_76, ak_77, ak_78, ak_79, ak_80, ak_81, ak_82, ak_83, ak_84, ak_85, ak_86, ak_87, ak_88]; done) | (simp only [rf_0_0, rf_0_1, rf_0_3, rf_0_4, rf_0_5, rf_0_6, rf_0_7, rf_0_8, rf_0_9, rf_0_10, rf_1_0, rf_1_1, rf_1_2, rf_1_3, rf_1_4, rf_1_5, rf_1_6, rf_2_1, ln_3, ln_4, ln_5, rf_6_1, rf_6_2, ln_7, ln_8, rf_9_1, rf_9_2, ln_10, ln_11, rf_12_1, rf_12_2, ln_13, ln_14, rf_15_1, rf_15_2, ln_16, ln_17, rf_18_0, rf_18_1, rf_18_2, rf_18_3, rf_18_4, rf_18_5, rf_18_6, rf_19_1, ln_20, ln_21, ln_22, rf_23_1, rf_23_2, ln_24, ln_25, rf_26_1, rf_26_2, ln_27, ln_28, rf_29_1, rf_29_2, ln_30, ln_31, rf_32_1, rf_32_2, ln_33, ln_34, rf_35_3, rf_35_4, rf_35_5, ln_36, ln_37, rf_51_0, rf_51_1, rf_51_2, ln_52, ln_53, ln_54, rf_55_1, ln_56, rf_57_3, rf_57_4, ln_58, ln_59, rf_60_3, rf_60_4, ln_61, ln_62, rf_63_2, ln_64, rf_65_5, ln_66, rf_68_0, rf_68_1, rf_68_2, rf_68_4, rf_68_5, rf_68_8, rf_68_12, rf_68_13, rf_68_18, rf_68_19, rf_68_20, rf_68_21, rf_68_22, rf_68_23, ln_69, ln_70, ln_71, ln_72, ln_73, ln_74, ln_75, ln_76, ln_77, ln_78, ln_79, ln_80, ln_81, ln_82, ln_83, ln_84, ln_85, ln_86, ln_87, ln_88]; omega)) only [↓s_34_0, ↓r_34_1, ↓s_34_4, ↓s_34_6, ↓s_34_9, ↓s_34_10, ↓s_34_11, ↓s_34_14, ↓s_34_15, ↓s_34_16, ↓s_34_17, ↓s_34_18, ↓s_34_20, ↓s_34_21, ↓s_34_24, ↓s_34_25, ↓s_34_26, ↓s_34_27, ↓s_34_28, ↓s_34_29, ↓s_34_31, ↓s_34_32, ↓s_34_34, ↓s_34_35, ↓s_34_36, ↓r_34_37, ↓s_34_40, ↓s_34_42, ↓s_34_43, ↓r_34_45, ↓s_34_48, ↓s_34_50, ↓s_34_52, ↓s_34_53, ↓s_34_54, ↓s_34_58, ↓s_34_60, ↓s_34_63, ↓s_34_65, ↓r_34_67, ↓s_34_70, ↓s_34_73, ↓s_34_75, ↓s_34_76, ↓s_34_77, ↓s_34_79, ↓s_34_81, ↓r_34_83, ↓s_34_86, ↓s_34_89, ↓s_34_91, ↓s_34_94, ↓s_34_97, ↓s_34_98, ↓s_34_101, ↓s_34_102, ↓s_34_104, ↓s_34_105, ↓s_34_108, ↓s_34_111, nAdd, nSub, nMul, oTL_some, oTL_none, rf_0_0, rf_0_1, rf_0_3, rf_0_4, rf_0_5, rf_0_6, rf_0_7, rf_0_8, rf_0_9, rf_0_10, rf_1_0, rf_1_1, rf_1_2, rf_1_3, rf_1_4, rf_1_5, rf_1_6, rf_2_1, rf_6_1, rf_6_2, rf_9_1, rf_9_2, rf_12_1, rf_12_2, rf_15_1, rf_15_2, rf_18_0, rf_18_1, rf_18_2, rf_18_3, rf_18_4, rf_18_5, rf_18_6, rf_19_1, rf_23_1, rf_23_2, rf_26_1, rf_26_2, rf_29_1, rf_29_2, rf_32_1, rf_32_2, rf_35_3, rf_35_4, rf_35_5, rf_51_0, rf_51_1, rf_51_2, rf_55_1, rf_57_3, rf_57_4, rf_60_3, rf_60_4, rf_63_2, rf_65_5, rf_68_0, rf_68_1, rf_68_2, rf_68_4, rf_68_5, rf_68_8, rf_68_12, rf_68_13, rf_68_18, rf_68_19, rf_68_20, rf_68_21, rf_68_22, rf_68_23]
    rw [if_pos (by omega)]
    exact eq_true ⟨rfl, rfl⟩
  · intro q g1 g2 g3 g4 hq k1 k2 k3 k4
    have bd := rV_bd (g := σ.2 (oRf a 4)) (W := nW (σ.2 (oRf t 1))) (o := σ.1 a 2) nw ho q (by omega)
    have a1 := oSW_at σ (oRf a 4) (rV (nW (σ.2 (oRf t 1))) (σ.1 a 2) (σ.2 (oRf a 4)) q)
    have a2 := oSW_ne σ e2 (rV (nW (σ.2 (oRf t 1))) (σ.1 a 2) (σ.2 (oRf a 4)) q)
    have hN2 : cNet (oSW σ (oRf a 4) (rV (nW (σ.2 (oRf t 1))) (σ.1 a 2) (σ.2 (oRf a 4)) q)) t := ⟨n0, n7, by rw [a2]; exact nw⟩
    have key2 := l_fillI (d := d) (σ := oSW σ (oRf a 4) (rV (nW (σ.2 (oRf t 1))) (σ.1 a 2) (σ.2 (oRf a 4)) q)) (b := q) (last := (L : Int)) (Q := oEnd none (oSW σ (oRf a 4) (rV (nW (σ.2 (oRf t 1))) (σ.1 a 2) (σ.2 (oRf a 4)) L))) (by omega) hk ht hN2 ho (by omega) (by
      intro c hc
      rw [a1, nVal_n _ (by omega)]
      exact bd c hc)
    have f1 : oAnd ((q + 1 : Nat) : Int) (((q + 1 : Nat) : Int) - 1) = (nRst (q + 1) : Nat) := by
      rw [← nSub (by omega) (by omega)]
      exact nRst_eq (b := q + 1) (by omega) (by omega)
    have f2 := nLow_eq (b := q + 1) (by omega) (by omega)
    have f3 := nLow_le (b := q + 1) (by omega) (by omega)
    refine ⟨.inl (nRst (q + 1) : Nat), .inl (nLow (q + 1) : Nat), .inl (nBest (nW ((oSW σ (oRf a 4) (rV (nW (σ.2 (oRf t 1))) (σ.1 a 2) (σ.2 (oRf a 4)) q)).2 (oRf t 1))) (nVal ((oSW σ (oRf a 4) (rV (nW (σ.2 (oRf t 1))) (σ.1 a 2) (σ.2 (oRf a 4)) q)).2 (oRf a 4))) (σ.1 a 2) (nLow (q + 1)) (nRst (q + 1)) (nVal ((oSW σ (oRf a 4) (rV (nW (σ.2 (oRf t 1))) (σ.1 a 2) (σ.2 (oRf a 4)) q)).2 (oRf a 4)) (nRst (q + 1) : Nat)) (6 - nLow (q + 1))), .inl 7, rfl, rfl, rfl, rfl, ?_⟩
    rw [s_34_19]
    simp (disch := first | assumption | omega | exact oC1i | exact oC1r | exact oC1j | exact oSm0 | exact oSm1 | exact oSm2 | exact oSm3 | exact oSm4 | exact oB_01 _ | (simp only [rf_0_0, rf_0_1, rf_0_3, rf_0_4, rf_0_5, rf_0_6, rf_0_7, rf_0_8, rf_0_9, rf_0_10, rf_1_0, rf_1_1, rf_1_2, rf_1_3, rf_1_4, rf_1_5, rf_1_6, rf_2_1, ln_3, ln_4, ln_5, rf_6_1, rf_6_2, ln_7, ln_8, rf_9_1, rf_9_2, ln_10, ln_11, rf_12_1, rf_12_2, ln_13, ln_14, rf_15_1, rf_15_2, ln_16, ln_17, rf_18_0, rf_18_1, rf_18_2, rf_18_3, rf_18_4, rf_18_5, rf_18_6, rf_19_1, ln_20, ln_21, ln_22, rf_23_1, rf_23_2, ln_24, ln_25, rf_26_1, rf_26_2, ln_27, ln_28, rf_29_1, rf_29_2, ln_30, ln_31, rf_32_1, rf_32_2, ln_33, ln_34, rf_35_3, rf_35_4, rf_35_5, ln_36, ln_37, rf_51_0, rf_51_1, rf_51_2, ln_52, ln_53, ln_54, rf_55_1, ln_56, rf_57_3, rf_57_4, ln_58, ln_59, rf_60_3, rf_60_4, ln_61, ln_62, rf_63_2, ln_64, rf_65_5, ln_66, rf_68_0, rf_68_1, rf_68_2, rf_68_4, rf_68_5, rf_68_8, rf_68_12, rf_68_13, rf_68_18, rf_68_19, rf_68_20, rf_68_21, rf_68_22, rf_68_23, ln_69, ln_70, ln_71, ln_72, ln_73, ln_74, ln_75, ln_76, ln_77, ln_78, ln_79, ln_80, ln_81, ln_82, ln_83, ln_84, ln_85, ln_86, ln_87, ln_88, kd_0, kd_1, kd_2, ak_3, ak_4, ak_5, kd_6, ak_7, ak_8, kd_9, ak_10, ak_11, kd_12, ak_13, ak_14, kd_15, ak_16, ak_17, kd_18, kd_19, ak_20, ak_21, ak_22, kd_23, ak_24, ak_25, kd_26, ak_27, ak_28, kd_29, ak_30, ak_31, kd_32, ak_33, ak_34, kd_35, ak_36, ak_37, kd_38, kd_39, kd_40, kd_41, kd_42, kd_43, kd_44, kd_45, kd_46, kd_47, kd_48, kd_49, kd_50, kd_51, ak_52, ak_53, ak_54, kd_55, ak_56, kd_57, ak_58, ak_59, kd_60, ak_61, ak_62, kd_63, ak_64, kd_65, ak_66, kd_67, kd_68, ak_69, ak_70, ak_71, ak_72, ak_73, ak_74, ak_75, ak_76, ak_77, ak_78, ak_79, ak_80, ak_81, ak_82, ak_83, ak_84, ak_85, ak_86, ak_87, ak_88]; done) | (simp only [rf_0_0, rf_0_1, rf_0_3, rf_0_4, rf_0_5, rf_0_6, rf_0_7, rf_0_8, rf_0_9, rf_0_10, rf_1_0, rf_1_1, rf_1_2, rf_1_3, rf_1_4, rf_1_5, rf_1_6, rf_2_1, ln_3, ln_4, ln_5, rf_6_1, rf_6_2, ln_7, ln_8, rf_9_1, rf_9_2, ln_10, ln_11, rf_12_1, rf_12_2, ln_13, ln_14, rf_15_1, rf_15_2, ln_16, ln_17, rf_18_0, rf_18_1, rf_18_2, rf_18_3, rf_18_4, rf_18_5, rf_18_6, rf_19_1, ln_20, ln_21, ln_22, rf_23_1, rf_23_2, ln_24, ln_25, rf_26_1, rf_26_2, ln_27, ln_28, rf_29_1, rf_29_2, ln_30, ln_31, rf_32_1, rf_32_2, ln_33, ln_34, rf_35_3, rf_35_4, rf_35_5, ln_36, ln_37, rf_51_0, rf_51_1, rf_51_2, ln_52, ln_53, ln_54, rf_55_1, ln_56, rf_57_3, rf_57_4, ln_58, ln_59, rf_60_3, rf_60_4, ln_61, ln_62, rf_63_2, ln_64, rf_65_5, ln_66, rf_68_0, rf_68_1, rf_68_2, rf_68_4, rf_68_5, rf_68_8, rf_68_12, rf_68_13, rf_68_18, rf_68_19, rf_68_20, rf_68_21, rf_68_22, rf_68_23, ln_69, ln_70, ln_71, ln_72, ln_73, ln_74, ln_75, ln_76, ln_77, ln_78, ln_79, ln_80, ln_81, ln_82, ln_83, ln_84, ln_85, ln_86, ln_87, ln_88]; omega)) only [↓s_34_0, ↓r_34_1, ↓s_34_4, ↓s_34_6, ↓s_34_9, ↓s_34_10, ↓s_34_11, ↓s_34_14, ↓s_34_15, ↓s_34_16, ↓s_34_17, ↓s_34_18, ↓s_34_20, ↓s_34_21, ↓s_34_24, ↓s_34_25, ↓s_34_26, ↓s_34_27, ↓s_34_28, ↓s_34_29, ↓s_34_31, ↓s_34_32, ↓s_34_34, ↓s_34_35, ↓s_34_36, ↓r_34_37, ↓s_34_40, ↓s_34_42, ↓s_34_43, ↓r_34_45, ↓s_34_48, ↓s_34_50, ↓s_34_52, ↓s_34_53, ↓s_34_54, ↓s_34_58, ↓s_34_60, ↓s_34_63, ↓s_34_65, ↓r_34_67, ↓s_34_70, ↓s_34_73, ↓s_34_75, ↓s_34_76, ↓s_34_77, ↓s_34_79, ↓s_34_81, ↓r_34_83, ↓s_34_86, ↓s_34_89, ↓s_34_91, ↓s_34_94, ↓s_34_97, ↓s_34_98, ↓s_34_101, ↓s_34_102, ↓s_34_104, ↓s_34_105, ↓s_34_108, ↓s_34_111, nAdd, nSub, nMul, oTL_some, oTL_none, rf_0_0, rf_0_1, rf_0_3, rf_0_4, rf_0_5, rf_0_6, rf_0_7, rf_0_8, rf_0_9, rf_0_10, rf_1_0, rf_1_1, rf_1_2, rf_1_3, rf_1_4, rf_1_5, rf_1_6, rf_2_1, rf_6_1, rf_6_2, rf_9_1, rf_9_2, rf_12_1, rf_12_2, rf_15_1, rf_15_2, rf_18_0, rf_18_1, rf_18_2, rf_18_3, rf_18_4, rf_18_5, rf_18_6, rf_19_1, rf_23_1, rf_23_2, rf_26_1, rf_26_2, rf_29_1, rf_29_2, rf_32_1, rf_32_2, rf_35_3, rf_35_4, rf_35_5, rf_51_0, rf_51_1, rf_51_2, rf_55_1, rf_57_3, rf_57_4, rf_60_3, rf_60_4, rf_63_2, rf_65_5, rf_68_0, rf_68_1, rf_68_2, rf_68_4, rf_68_5, rf_68_8, rf_68_12, rf_68_13, rf_68_18, rf_68_19, rf_68_20, rf_68_21, rf_68_22, rf_68_23, f1, f2]
    rw [if_neg (by omega)]
    refine Eq.trans key2 ?_
    rw [a1, a2, oSA_oSW]
    rfl
theorem r_33_17 {d : Nat} {σ : oSg} {l0 l1 l2 : oV} {S : List oV} {Q : Option oV → (Nat → oC) → Prop} {a t : Nat} (hk : oKd a = some 3) (ht : oKd t = some 4) (hN : cNet σ t) (ho : 0 ≤ σ.1 a 2 ∧ σ.1 a 2 ≤ 100) (hkd : oKd (a) = some 3) (hsm : oSmall S = true) (hd : 4 ≤ d) : oE d 33 17 [l0, l1, l2] (.inr (.inr (.inl (t))) :: .inr (.inr (.inl (a))) :: S) σ Q = oE d 33 20 [l0, l1, l2] (S) (oSW σ (oRf a 4) (rV (nW (σ.2 (oRf t 1))) (σ.1 a 2) (σ.2 (oRf a 4)) (2 ^ (σ.1 t 0).toNat - 1))) Q := c_33_17 (m_Matching_fillValues (a := a) (t := t) hk ht hN ho hd) hkd hsm

