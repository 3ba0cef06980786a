/-! steps, by program -/
theorem ow_63 : (oMt 63).2.2.2.2.1 = 1 := by decide +kernel
theorem rt_63 : (oMt 63).2.2.2.1 = some .int := by decide +kernel
theorem nl_63 : (oMt 63).2.2.1 = 2 := by decide +kernel
theorem f_63_0 : oFet 63 0 = some (.aload_n 0, 1) := by decide +kernel
theorem s_63_0 {d : Nat} {l1 : oV} {a : Nat} {S : List oV} {σ : oSg} {Q : Option oV → (Nat → oC) → Prop} : oE d 63 0 [.inr (.inr (.inl a)), l1] S σ Q = oE d 63 1 [.inr (.inr (.inl a)), l1] (.inr (.inr (.inl a)) :: S) σ Q := pLdN (k := 0) f_63_0 rfl rfl rfl
theorem f_63_1 : oFet 63 1 = some (.getfield 12, 3) := by decide +kernel
theorem s_63_1 {d : Nat} {l0 l1 : oV} {a : Nat} {S : List oV} {σ : oSg} {Q : Option oV → (Nat → oC) → Prop} (hk : oKd a = some 1) : oE d 63 1 [l0, l1] (.inr (.inr (.inl a)) :: S) σ Q = oE d 63 4 [l0, l1] (.inr (.inr (.inl (oRf a 0))) :: S) σ Q := pGfR f_63_1 ow_63 fl_1_12 rfl (by decide) hk
theorem f_63_4 : oFet 63 4 = some (.iload_n 1, 1) := by decide +kernel
theorem s_63_4 {d : Nat} {l0 : oV} {x : Int} {S : List oV} {σ : oSg} {Q : Option oV → (Nat → oC) → Prop} : oE d 63 4 [l0, .inl x] S σ Q = oE d 63 5 [l0, .inl x] (.inl x :: S) σ Q := pLdN (k := 1) f_63_4 rfl rfl rfl
theorem f_63_5 : oFet 63 5 = some (.invokevirtual 57, 3) := by decide +kernel
theorem c_63_5 {d : Nat} {l0 l1 : oV} {x0 : oV} {a : Nat} {v : Option oV} {τ : oSg} {S : List oV} {σ : oSg} {Q : Option oV → (Nat → oC) → Prop} (hm : oMi d 15 [.inr (.inr (.inl a)), x0] σ v τ) (hk : oKd a = some 4) (hs : oSmall S = true) : oE d 63 5 [l0, l1] (x0 :: .inr (.inr (.inl a)) :: S) σ Q = oE d 63 8 [l0, l1] (v.toList ++ S) τ Q := pCallV f_63_5 ow_63 lk_1_57 mt_15 rfl rfl rfl hk hs hm
theorem f_63_8 : oFet 63 8 = some (.ifCond .eq 12, 3) := by decide +kernel
theorem s_63_8 {d : Nat} {l0 l1 : oV} {x : Int} {S : List oV} {σ : oSg} {Q : Option oV → (Nat → oC) → Prop} : oE d 63 8 [l0, l1] (.inl x :: S) σ Q = if x = 0 then oE d 63 20 [l0, l1] S σ Q else oE d 63 11 [l0, l1] S σ Q := oIfEq f_63_8 (by decide)
theorem f_63_11 : oFet 63 11 = some (.aload_n 0, 1) := by decide +kernel
theorem s_63_11 {d : Nat} {l1 : oV} {a : Nat} {S : List oV} {σ : oSg} {Q : Option oV → (Nat → oC) → Prop} : oE d 63 11 [.inr (.inr (.inl a)), l1] S σ Q = oE d 63 12 [.inr (.inr (.inl a)), l1] (.inr (.inr (.inl a)) :: S) σ Q := pLdN (k := 0) f_63_11 rfl rfl rfl
theorem f_63_12 : oFet 63 12 = some (.getfield 22, 3) := by decide +kernel
theorem s_63_12 {d : Nat} {l0 l1 : oV} {a : Nat} {S : List oV} {σ : oSg} {Q : Option oV → (Nat → oC) → Prop} (hk : oKd a = some 1) : oE d 63 12 [l0, l1] (.inr (.inr (.inl a)) :: S) σ Q = oE d 63 15 [l0, l1] (.inr (.inr (.inl (oRf a 2))) :: S) σ Q := pGfR f_63_12 ow_63 fl_1_22 rfl (by decide) hk
theorem f_63_15 : oFet 63 15 = some (.iload_n 1, 1) := by decide +kernel
theorem s_63_15 {d : Nat} {l0 : oV} {x : Int} {S : List oV} {σ : oSg} {Q : Option oV → (Nat → oC) → Prop} : oE d 63 15 [l0, .inl x] S σ Q = oE d 63 16 [l0, .inl x] (.inl x :: S) σ Q := pLdN (k := 1) f_63_15 rfl rfl rfl
theorem f_63_16 : oFet 63 16 = some (.iaload, 1) := by decide +kernel
theorem s_63_16 {d : Nat} {l0 l1 : oV} {a : Nat} {i : Int} {S : List oV} {σ : oSg} {Q : Option oV → (Nat → oC) → Prop} (hk : oAk a = some 0) (h0 : 0 ≤ i) (h1 : i < (oLn a : Int)) : oE d 63 16 [l0, l1] (.inl i :: .inr (.inr (.inl a)) :: S) σ Q = oE d 63 17 [l0, l1] (.inl (σ.2 a i.toNat) :: S) σ Q := oIal f_63_16 hk h0 h1
theorem f_63_17 : oFet 63 17 = some (.goto 4, 3) := by decide +kernel
theorem s_63_17 {d : Nat} {l0 l1 : oV} {S : List oV} {σ : oSg} {Q : Option oV → (Nat → oC) → Prop} : oE d 63 17 [l0, l1] S σ Q = oE d 63 21 [l0, l1] S σ Q := pGoto f_63_17 (by decide)
theorem f_63_20 : oFet 63 20 = some (.iconst 0, 1) := by decide +kernel
theorem s_63_20 {d : Nat} {l0 l1 : oV} {S : List oV} {σ : oSg} {Q : Option oV → (Nat → oC) → Prop} : oE d 63 20 [l0, l1] S σ Q = oE d 63 21 [l0, l1] (.inl (0) :: S) σ Q := pKst f_63_20 (by decide)
theorem f_63_21 : oFet 63 21 = some (.ireturn, 1) := by decide +kernel
theorem s_63_21 {d : Nat} {l0 l1 : oV} {x : Int} {σ : oSg} {Q : Option oV → (Nat → oC) → Prop} : oE d 63 21 [l0, l1] [.inl x] σ Q = Q (some (.inl x)) (oBld σ) := oIret f_63_21 rt_63
theorem ow_64 : (oMt 64).2.2.2.2.1 = 1 := by decide +kernel
theorem rt_64 : (oMt 64).2.2.2.1 = none := by decide +kernel
theorem nl_64 : (oMt 64).2.2.1 = 3 := by decide +kernel
theorem f_64_0 : oFet 64 0 = some (.aload_n 0, 1) := by decide +kernel
theorem s_64_0 {d : Nat} {l1 l2 : oV} {a : Nat} {S : List oV} {σ : oSg} {Q : Option oV → (Nat → oC) → Prop} : oE d 64 0 [.inr (.inr (.inl a)), l1, l2] S σ Q = oE d 64 1 [.inr (.inr (.inl a)), l1, l2] (.inr (.inr (.inl a)) :: S) σ Q := pLdN (k := 0) f_64_0 rfl rfl rfl
theorem f_64_1 : oFet 64 1 = some (.getfield 12, 3) := by decide +kernel
theorem s_64_1 {d : Nat} {l0 l1 l2 : oV} {a : Nat} {S : List oV} {σ : oSg} {Q : Option oV → (Nat → oC) → Prop} (hk : oKd a = some 1) : oE d 64 1 [l0, l1, l2] (.inr (.inr (.inl a)) :: S) σ Q = oE d 64 4 [l0, l1, l2] (.inr (.inr (.inl (oRf a 0))) :: S) σ Q := pGfR f_64_1 ow_64 fl_1_12 rfl (by decide) hk
theorem f_64_4 : oFet 64 4 = some (.iload_n 1, 1) := by decide +kernel
theorem s_64_4 {d : Nat} {l0 l2 : oV} {x : Int} {S : List oV} {σ : oSg} {Q : Option oV → (Nat → oC) → Prop} : oE d 64 4 [l0, .inl x, l2] S σ Q = oE d 64 5 [l0, .inl x, l2] (.inl x :: S) σ Q := pLdN (k := 1) f_64_4 rfl rfl rfl
theorem f_64_5 : oFet 64 5 = some (.invokevirtual 57, 3) := by decide +kernel
theorem c_64_5 {d : Nat} {l0 l1 l2 : oV} {x0 : oV} {a : Nat} {v : Option oV} {τ : oSg} {S : List oV} {σ : oSg} {Q : Option oV → (Nat → oC) → Prop} (hm : oMi d 15 [.inr (.inr (.inl a)), x0] σ v τ) (hk : oKd a = some 4) (hs : oSmall S = true) : oE d 64 5 [l0, l1, l2] (x0 :: .inr (.inr (.inl a)) :: S) σ Q = oE d 64 8 [l0, l1, l2] (v.toList ++ S) τ Q := pCallV f_64_5 ow_64 lk_1_57 mt_15 rfl rfl rfl hk hs hm
theorem f_64_8 : oFet 64 8 = some (.ifCond .eq 10, 3) := by decide +kernel
theorem s_64_8 {d : Nat} {l0 l1 l2 : oV} {x : Int} {S : List oV} {σ : oSg} {Q : Option oV → (Nat → oC) → Prop} : oE d 64 8 [l0, l1, l2] (.inl x :: S) σ Q = if x = 0 then oE d 64 18 [l0, l1, l2] S σ Q else oE d 64 11 [l0, l1, l2] S σ Q := oIfEq f_64_8 (by decide)
theorem f_64_11 : oFet 64 11 = some (.aload_n 0, 1) := by decide +kernel
theorem s_64_11 {d : Nat} {l1 l2 : oV} {a : Nat} {S : List oV} {σ : oSg} {Q : Option oV → (Nat → oC) → Prop} : oE d 64 11 [.inr (.inr (.inl a)), l1, l2] S σ Q = oE d 64 12 [.inr (.inr (.inl a)), l1, l2] (.inr (.inr (.inl a)) :: S) σ Q := pLdN (k := 0) f_64_11 rfl rfl rfl
theorem f_64_12 : oFet 64 12 = some (.getfield 22, 3) := by decide +kernel
theorem s_64_12 {d : Nat} {l0 l1 l2 : oV} {a : Nat} {S : List oV} {σ : oSg} {Q : Option oV → (Nat → oC) → Prop} (hk : oKd a = some 1) : oE d 64 12 [l0, l1, l2] (.inr (.inr (.inl a)) :: S) σ Q = oE d 64 15 [l0, l1, l2] (.inr (.inr (.inl (oRf a 2))) :: S) σ Q := pGfR f_64_12 ow_64 fl_1_22 rfl (by decide) hk
theorem f_64_15 : oFet 64 15 = some (.iload_n 1, 1) := by decide +kernel
theorem s_64_15 {d : Nat} {l0 l2 : oV} {x : Int} {S : List oV} {σ : oSg} {Q : Option oV → (Nat → oC) → Prop} : oE d 64 15 [l0, .inl x, l2] S σ Q = oE d 64 16 [l0, .inl x, l2] (.inl x :: S) σ Q := pLdN (k := 1) f_64_15 rfl rfl rfl
theorem f_64_16 : oFet 64 16 = some (.iload_n 2, 1) := by decide +kernel
theorem s_64_16 {d : Nat} {l0 l1 : oV} {x : Int} {S : List oV} {σ : oSg} {Q : Option oV → (Nat → oC) → Prop} : oE d 64 16 [l0, l1, .inl x] S σ Q = oE d 64 17 [l0, l1, .inl x] (.inl x :: S) σ Q := pLdN (k := 2) f_64_16 rfl rfl rfl
theorem f_64_17 : oFet 64 17 = some (.iastore, 1) := by decide +kernel
theorem s_64_17 {d : Nat} {l0 l1 l2 : oV} {a : Nat} {i v : Int} {S : List oV} {σ : oSg} {Q : Option oV → (Nat → oC) → Prop} (hk : oAk a = some 0) (h0 : 0 ≤ i) (h1 : i < (oLn a : Int)) : oE d 64 17 [l0, l1, l2] (.inl v :: .inl i :: .inr (.inr (.inl a)) :: S) σ Q = oE d 64 18 [l0, l1, l2] S (oSA σ a i.toNat v) Q := oIas f_64_17 hk h0 h1
theorem f_64_18 : oFet 64 18 = some (.return_, 1) := by decide +kernel
theorem s_64_18 {d : Nat} {l0 l1 l2 : oV} {σ : oSg} {Q : Option oV → (Nat → oC) → Prop} : oE d 64 18 [l0, l1, l2] [] σ Q = Q none (oBld σ) := oVret f_64_18 rt_64
theorem ow_65 : (oMt 65).2.2.2.2.1 = 10 := by decide +kernel
theorem rt_65 : (oMt 65).2.2.2.1 = some .int := by decide +kernel
theorem nl_65 : (oMt 65).2.2.1 = 2 := by decide +kernel
theorem f_65_0 : oFet 65 0 = some (.aload_n 0, 1) := by decide +kernel
theorem s_65_0 {d : Nat} {l1 : oV} {a : Nat} {S : List oV} {σ : oSg} {Q : Option oV → (Nat → oC) → Prop} : oE d 65 0 [.inr (.inr (.inl a)), l1] S σ Q = oE d 65 1 [.inr (.inr (.inl a)), l1] (.inr (.inr (.inl a)) :: S) σ Q := pLdN (k := 0) f_65_0 rfl rfl rfl
theorem f_65_1 : oFet 65 1 = some (.getfield 55, 3) := by decide +kernel
theorem s_65_1 {d : Nat} {l0 l1 : oV} {a : Nat} {S : List oV} {σ : oSg} {Q : Option oV → (Nat → oC) → Prop} (hk : oKd a = some 10) : oE d 65 1 [l0, l1] (.inr (.inr (.inl a)) :: S) σ Q = oE d 65 4 [l0, l1] (.inr (.inr (.inl (oRf a 8))) :: S) σ Q := pGfR f_65_1 ow_65 fl_10_55 rfl (by decide) hk
theorem f_65_4 : oFet 65 4 = some (.aload_n 0, 1) := by decide +kernel
theorem s_65_4 {d : Nat} {l1 : oV} {a : Nat} {S : List oV} {σ : oSg} {Q : Option oV → (Nat → oC) → Prop} : oE d 65 4 [.inr (.inr (.inl a)), l1] S σ Q = oE d 65 5 [.inr (.inr (.inl a)), l1] (.inr (.inr (.inl a)) :: S) σ Q := pLdN (k := 0) f_65_4 rfl rfl rfl
theorem f_65_5 : oFet 65 5 = some (.getfield 12, 3) := by decide +kernel
theorem s_65_5 {d : Nat} {l0 l1 : oV} {a : Nat} {S : List oV} {σ : oSg} {Q : Option oV → (Nat → oC) → Prop} (hk : oKd a = some 10) : oE d 65 5 [l0, l1] (.inr (.inr (.inl a)) :: S) σ Q = oE d 65 8 [l0, l1] (.inr (.inr (.inl (oRf a 0))) :: S) σ Q := pGfR f_65_5 ow_65 fl_10_12 rfl (by decide) hk
theorem f_65_8 : oFet 65 8 = some (.invokevirtual 134, 3) := by decide +kernel
theorem c_65_8 {d : Nat} {l0 l1 : oV} {x0 : oV} {a : Nat} {v : Option oV} {τ : oSg} {S : List oV} {σ : oSg} {Q : Option oV → (Nat → oC) → Prop} (hm : oMi d 43 [.inr (.inr (.inl a)), x0] σ v τ) (hk : oKd a = some 2) (hs : oSmall S = true) : oE d 65 8 [l0, l1] (x0 :: .inr (.inr (.inl a)) :: S) σ Q = oE d 65 11 [l0, l1] (v.toList ++ S) τ Q := pCallV f_65_8 ow_65 lk_10_134 mt_43 rfl rfl rfl hk hs hm
theorem f_65_11 : oFet 65 11 = some (.ifCond .ne 6, 3) := by decide +kernel
theorem s_65_11 {d : Nat} {l0 l1 : oV} {x : Int} {S : List oV} {σ : oSg} {Q : Option oV → (Nat → oC) → Prop} : oE d 65 11 [l0, l1] (.inl x :: S) σ Q = if ¬ x = 0 then oE d 65 17 [l0, l1] S σ Q else oE d 65 14 [l0, l1] S σ Q := oIfNe f_65_11 (by decide)
theorem f_65_14 : oFet 65 14 = some (.bipush (-5), 2) := by decide +kernel
theorem s_65_14 {d : Nat} {l0 l1 : oV} {S : List oV} {σ : oSg} {Q : Option oV → (Nat → oC) → Prop} : oE d 65 14 [l0, l1] S σ Q = oE d 65 16 [l0, l1] (.inl (-5) :: S) σ Q := pBip f_65_14 (by decide)
theorem f_65_16 : oFet 65 16 = some (.ireturn, 1) := by decide +kernel
theorem s_65_16 {d : Nat} {l0 l1 : oV} {x : Int} {σ : oSg} {Q : Option oV → (Nat → oC) → Prop} : oE d 65 16 [l0, l1] [.inl x] σ Q = Q (some (.inl x)) (oBld σ) := oIret f_65_16 rt_65
theorem f_65_17 : oFet 65 17 = some (.iload_n 1, 1) := by decide +kernel
theorem s_65_17 {d : Nat} {l0 : oV} {x : Int} {S : List oV} {σ : oSg} {Q : Option oV → (Nat → oC) → Prop} : oE d 65 17 [l0, .inl x] S σ Q = oE d 65 18 [l0, .inl x] (.inl x :: S) σ Q := pLdN (k := 1) f_65_17 rfl rfl rfl
theorem f_65_18 : oFet 65 18 = some (.iconst (-1), 1) := by decide +kernel
theorem s_65_18 {d : Nat} {l0 l1 : oV} {S : List oV} {σ : oSg} {Q : Option oV → (Nat → oC) → Prop} : oE d 65 18 [l0, l1] S σ Q = oE d 65 19 [l0, l1] (.inl (-1) :: S) σ Q := pKst f_65_18 (by decide)
theorem f_65_19 : oFet 65 19 = some (.if_icmp .ne 13, 3) := by decide +kernel
theorem s_65_19 {d : Nat} {l0 l1 : oV} {x y : Int} {S : List oV} {σ : oSg} {Q : Option oV → (Nat → oC) → Prop} : oE d 65 19 [l0, l1] (.inl y :: .inl x :: S) σ Q = if ¬ x = y then oE d 65 32 [l0, l1] S σ Q else oE d 65 22 [l0, l1] S σ Q := oCmpNe f_65_19 (by decide)
theorem f_65_22 : oFet 65 22 = some (.aload_n 0, 1) := by decide +kernel
theorem s_65_22 {d : Nat} {l1 : oV} {a : Nat} {S : List oV} {σ : oSg} {Q : Option oV → (Nat → oC) → Prop} : oE d 65 22 [.inr (.inr (.inl a)), l1] S σ Q = oE d 65 23 [.inr (.inr (.inl a)), l1] (.inr (.inr (.inl a)) :: S) σ Q := pLdN (k := 0) f_65_22 rfl rfl rfl
theorem f_65_23 : oFet 65 23 = some (.getfield 55, 3) := by decide +kernel
theorem s_65_23 {d : Nat} {l0 l1 : oV} {a : Nat} {S : List oV} {σ : oSg} {Q : Option oV → (Nat → oC) → Prop} (hk : oKd a = some 10) : oE d 65 23 [l0, l1] (.inr (.inr (.inl a)) :: S) σ Q = oE d 65 26 [l0, l1] (.inr (.inr (.inl (oRf a 8))) :: S) σ Q := pGfR f_65_23 ow_65 fl_10_55 rfl (by decide) hk
theorem f_65_26 : oFet 65 26 = some (.getfield 192, 3) := by decide +kernel
theorem s_65_26 {d : Nat} {l0 l1 : oV} {a : Nat} {S : List oV} {σ : oSg} {Q : Option oV → (Nat → oC) → Prop} (hk : oKd a = some 2) : oE d 65 26 [l0, l1] (.inr (.inr (.inl a)) :: S) σ Q = oE d 65 29 [l0, l1] (.inl (σ.1 a 0) :: S) σ Q := pGfI f_65_26 ow_65 fl_10_192 rfl (by decide) hk
theorem f_65_29 : oFet 65 29 = some (.goto 11, 3) := by decide +kernel
theorem s_65_29 {d : Nat} {l0 l1 : oV} {S : List oV} {σ : oSg} {Q : Option oV → (Nat → oC) → Prop} : oE d 65 29 [l0, l1] S σ Q = oE d 65 40 [l0, l1] S σ Q := pGoto f_65_29 (by decide)
theorem f_65_32 : oFet 65 32 = some (.aload_n 0, 1) := by decide +kernel
theorem s_65_32 {d : Nat} {l1 : oV} {a : Nat} {S : List oV} {σ : oSg} {Q : Option oV → (Nat → oC) → Prop} : oE d 65 32 [.inr (.inr (.inl a)), l1] S σ Q = oE d 65 33 [.inr (.inr (.inl a)), l1] (.inr (.inr (.inl a)) :: S) σ Q := pLdN (k := 0) f_65_32 rfl rfl rfl
theorem f_65_33 : oFet 65 33 = some (.getfield 55, 3) := by decide +kernel
theorem s_65_33 {d : Nat} {l0 l1 : oV} {a : Nat} {S : List oV} {σ : oSg} {Q : Option oV → (Nat → oC) → Prop} (hk : oKd a = some 10) : oE d 65 33 [l0, l1] (.inr (.inr (.inl a)) :: S) σ Q = oE d 65 36 [l0, l1] (.inr (.inr (.inl (oRf a 8))) :: S) σ Q := pGfR f_65_33 ow_65 fl_10_55 rfl (by decide) hk
theorem f_65_36 : oFet 65 36 = some (.iload_n 1, 1) := by decide +kernel
theorem s_65_36 {d : Nat} {l0 : oV} {x : Int} {S : List oV} {σ : oSg} {Q : Option oV → (Nat → oC) → Prop} : oE d 65 36 [l0, .inl x] S σ Q = oE d 65 37 [l0, .inl x] (.inl x :: S) σ Q := pLdN (k := 1) f_65_36 rfl rfl rfl
theorem f_65_37 : oFet 65 37 = some (.invokevirtual 193, 3) := by decide +kernel
theorem c_65_37 {d : Nat} {l0 l1 : oV} {x0 : oV} {a : Nat} {v : Option oV} {τ : oSg} {S : List oV} {σ : oSg} {Q : Option oV → (Nat → oC) → Prop} (hm : oMi d 47 [.inr (.inr (.inl a)), x0] σ v τ) (hk : oKd a = some 2) (hs : oSmall S = true) : oE d 65 37 [l0, l1] (x0 :: .inr (.inr (.inl a)) :: S) σ Q = oE d 65 40 [l0, l1] (v.toList ++ S) τ Q := pCallV f_65_37 ow_65 lk_10_193 mt_47 rfl rfl rfl hk hs hm
theorem f_65_40 : oFet 65 40 = some (.ireturn, 1) := by decide +kernel
theorem s_65_40 {d : Nat} {l0 l1 : oV} {x : Int} {σ : oSg} {Q : Option oV → (Nat → oC) → Prop} : oE d 65 40 [l0, l1] [.inl x] σ Q = Q (some (.inl x)) (oBld σ) := oIret f_65_40 rt_65
theorem ow_66 : (oMt 66).2.2.2.2.1 = 10 := by decide +kernel
theorem rt_66 : (oMt 66).2.2.2.1 = some .int := by decide +kernel
theorem nl_66 : (oMt 66).2.2.1 = 3 := by decide +kernel
theorem f_66_0 : oFet 66 0 = some (.iload_n 1, 1) := by decide +kernel
theorem s_66_0 {d : Nat} {l0 l2 : oV} {x : Int} {S : List oV} {σ : oSg} {Q : Option oV → (Nat → oC) → Prop} : oE d 66 0 [l0, .inl x, l2] S σ Q = oE d 66 1 [l0, .inl x, l2] (.inl x :: S) σ Q := pLdN (k := 1) f_66_0 rfl rfl rfl
theorem f_66_1 : oFet 66 1 = some (.ifCond .lt 8, 3) := by decide +kernel
theorem s_66_1 {d : Nat} {l0 l1 l2 : oV} {x : Int} {S : List oV} {σ : oSg} {Q : Option oV → (Nat → oC) → Prop} : oE d 66 1 [l0, l1, l2] (.inl x :: S) σ Q = if x < 0 then oE d 66 9 [l0, l1, l2] S σ Q else oE d 66 4 [l0, l1, l2] S σ Q := oIfLt f_66_1 (by decide)
theorem f_66_4 : oFet 66 4 = some (.iload_n 1, 1) := by decide +kernel
theorem s_66_4 {d : Nat} {l0 l2 : oV} {x : Int} {S : List oV} {σ : oSg} {Q : Option oV → (Nat → oC) → Prop} : oE d 66 4 [l0, .inl x, l2] S σ Q = oE d 66 5 [l0, .inl x, l2] (.inl x :: S) σ Q := pLdN (k := 1) f_66_4 rfl rfl rfl
theorem f_66_5 : oFet 66 5 = some (.iconst 1, 1) := by decide +kernel
theorem s_66_5 {d : Nat} {l0 l1 l2 : oV} {S : List oV} {σ : oSg} {Q : Option oV → (Nat → oC) → Prop} : oE d 66 5 [l0, l1, l2] S σ Q = oE d 66 6 [l0, l1, l2] (.inl (1) :: S) σ Q := pKst f_66_5 (by decide)
theorem f_66_6 : oFet 66 6 = some (.if_icmp .le 5, 3) := by decide +kernel
theorem s_66_6 {d : Nat} {l0 l1 l2 : oV} {x y : Int} {S : List oV} {σ : oSg} {Q : Option oV → (Nat → oC) → Prop} : oE d 66 6 [l0, l1, l2] (.inl y :: .inl x :: S) σ Q = if x ≤ y then oE d 66 11 [l0, l1, l2] S σ Q else oE d 66 9 [l0, l1, l2] S σ Q := oCmpLe f_66_6 (by decide)
theorem f_66_9 : oFet 66 9 = some (.iconst (-1), 1) := by decide +kernel
theorem s_66_9 {d : Nat} {l0 l1 l2 : oV} {S : List oV} {σ : oSg} {Q : Option oV → (Nat → oC) → Prop} : oE d 66 9 [l0, l1, l2] S σ Q = oE d 66 10 [l0, l1, l2] (.inl (-1) :: S) σ Q := pKst f_66_9 (by decide)
theorem f_66_10 : oFet 66 10 = some (.ireturn, 1) := by decide +kernel
theorem s_66_10 {d : Nat} {l0 l1 l2 : oV} {x : Int} {σ : oSg} {Q : Option oV → (Nat → oC) → Prop} : oE d 66 10 [l0, l1, l2] [.inl x] σ Q = Q (some (.inl x)) (oBld σ) := oIret f_66_10 rt_66
theorem f_66_11 : oFet 66 11 = some (.aload_n 0, 1) := by decide +kernel
theorem s_66_11 {d : Nat} {l1 l2 : oV} {a : Nat} {S : List oV} {σ : oSg} {Q : Option oV → (Nat → oC) → Prop} : oE d 66 11 [.inr (.inr (.inl a)), l1, l2] S σ Q = oE d 66 12 [.inr (.inr (.inl a)), l1, l2] (.inr (.inr (.inl a)) :: S) σ Q := pLdN (k := 0) f_66_11 rfl rfl rfl
theorem f_66_12 : oFet 66 12 = some (.getfield 55, 3) := by decide +kernel
theorem s_66_12 {d : Nat} {l0 l1 l2 : oV} {a : Nat} {S : List oV} {σ : oSg} {Q : Option oV → (Nat → oC) → Prop} (hk : oKd a = some 10) : oE d 66 12 [l0, l1, l2] (.inr (.inr (.inl a)) :: S) σ Q = oE d 66 15 [l0, l1, l2] (.inr (.inr (.inl (oRf a 8))) :: S) σ Q := pGfR f_66_12 ow_66 fl_10_55 rfl (by decide) hk
theorem f_66_15 : oFet 66 15 = some (.aload_n 0, 1) := by decide +kernel
theorem s_66_15 {d : Nat} {l1 l2 : oV} {a : Nat} {S : List oV} {σ : oSg} {Q : Option oV → (Nat → oC) → Prop} : oE d 66 15 [.inr (.inr (.inl a)), l1, l2] S σ Q = oE d 66 16 [.inr (.inr (.inl a)), l1, l2] (.inr (.inr (.inl a)) :: S) σ Q := pLdN (k := 0) f_66_15 rfl rfl rfl
theorem f_66_16 : oFet 66 16 = some (.getfield 12, 3) := by decide +kernel
theorem s_66_16 {d : Nat} {l0 l1 l2 : oV} {a : Nat} {S : List oV} {σ : oSg} {Q : Option oV → (Nat → oC) → Prop} (hk : oKd a = some 10) : oE d 66 16 [l0, l1, l2] (.inr (.inr (.inl a)) :: S) σ Q = oE d 66 19 [l0, l1, l2] (.inr (.inr (.inl (oRf a 0))) :: S) σ Q := pGfR f_66_16 ow_66 fl_10_12 rfl (by decide) hk
theorem f_66_19 : oFet 66 19 = some (.invokevirtual 196, 3) := by decide +kernel
theorem c_66_19 {d : Nat} {l0 l1 l2 : oV} {x0 : oV} {a : Nat} {v : Option oV} {τ : oSg} {S : List oV} {σ : oSg} {Q : Option oV → (Nat → oC) → Prop} (hm : oMi d 67 [.inr (.inr (.inl a)), x0] σ v τ) (hk : oKd a = some 2) (hs : oSmall S = true) : oE d 66 19 [l0, l1, l2] (x0 :: .inr (.inr (.inl a)) :: S) σ Q = oE d 66 22 [l0, l1, l2] (v.toList ++ S) τ Q := pCallV f_66_19 ow_66 lk_10_196 mt_67 rfl rfl rfl hk hs hm
theorem f_66_22 : oFet 66 22 = some (.ifCond .ne 6, 3) := by decide +kernel
theorem s_66_22 {d : Nat} {l0 l1 l2 : oV} {x : Int} {S : List oV} {σ : oSg} {Q : Option oV → (Nat → oC) → Prop} : oE d 66 22 [l0, l1, l2] (.inl x :: S) σ Q = if ¬ x = 0 then oE d 66 28 [l0, l1, l2] S σ Q else oE d 66 25 [l0, l1, l2] S σ Q := oIfNe f_66_22 (by decide)
theorem f_66_25 : oFet 66 25 = some (.bipush (-5), 2) := by decide +kernel
theorem s_66_25 {d : Nat} {l0 l1 l2 : oV} {S : List oV} {σ : oSg} {Q : Option oV → (Nat → oC) → Prop} : oE d 66 25 [l0, l1, l2] S σ Q = oE d 66 27 [l0, l1, l2] (.inl (-5) :: S) σ Q := pBip f_66_25 (by decide)
theorem f_66_27 : oFet 66 27 = some (.ireturn, 1) := by decide +kernel
theorem s_66_27 {d : Nat} {l0 l1 l2 : oV} {x : Int} {σ : oSg} {Q : Option oV → (Nat → oC) → Prop} : oE d 66 27 [l0, l1, l2] [.inl x] σ Q = Q (some (.inl x)) (oBld σ) := oIret f_66_27 rt_66
theorem f_66_28 : oFet 66 28 = some (.iload_n 1, 1) := by decide +kernel
theorem s_66_28 {d : Nat} {l0 l2 : oV} {x : Int} {S : List oV} {σ : oSg} {Q : Option oV → (Nat → oC) → Prop} : oE d 66 28 [l0, .inl x, l2] S σ Q = oE d 66 29 [l0, .inl x, l2] (.inl x :: S) σ Q := pLdN (k := 1) f_66_28 rfl rfl rfl
theorem f_66_29 : oFet 66 29 = some (.ifCond .ne 14, 3) := by decide +kernel
theorem s_66_29 {d : Nat} {l0 l1 l2 : oV} {x : Int} {S : List oV} {σ : oSg} {Q : Option oV → (Nat → oC) → Prop} : oE d 66 29 [l0, l1, l2] (.inl x :: S) σ Q = if ¬ x = 0 then oE d 66 43 [l0, l1, l2] S σ Q else oE d 66 32 [l0, l1, l2] S σ Q := oIfNe f_66_29 (by decide)
theorem f_66_32 : oFet 66 32 = some (.aload_n 0, 1) := by decide +kernel
theorem s_66_32 {d : Nat} {l1 l2 : oV} {a : Nat} {S : List oV} {σ : oSg} {Q : Option oV → (Nat → oC) → Prop} : oE d 66 32 [.inr (.inr (.inl a)), l1, l2] S σ Q = oE d 66 33 [.inr (.inr (.inl a)), l1, l2] (.inr (.inr (.inl a)) :: S) σ Q := pLdN (k := 0) f_66_32 rfl rfl rfl
theorem f_66_33 : oFet 66 33 = some (.getfield 55, 3) := by decide +kernel
theorem s_66_33 {d : Nat} {l0 l1 l2 : oV} {a : Nat} {S : List oV} {σ : oSg} {Q : Option oV → (Nat → oC) → Prop} (hk : oKd a = some 10) : oE d 66 33 [l0, l1, l2] (.inr (.inr (.inl a)) :: S) σ Q = oE d 66 36 [l0, l1, l2] (.inr (.inr (.inl (oRf a 8))) :: S) σ Q := pGfR f_66_33 ow_66 fl_10_55 rfl (by decide) hk
theorem f_66_36 : oFet 66 36 = some (.iload_n 2, 1) := by decide +kernel
theorem s_66_36 {d : Nat} {l0 l1 : oV} {x : Int} {S : List oV} {σ : oSg} {Q : Option oV → (Nat → oC) → Prop} : oE d 66 36 [l0, l1, .inl x] S σ Q = oE d 66 37 [l0, l1, .inl x] (.inl x :: S) σ Q := pLdN (k := 2) f_66_36 rfl rfl rfl
theorem f_66_37 : oFet 66 37 = some (.invokevirtual 199, 3) := by decide +kernel
theorem c_66_37 {d : Nat} {l0 l1 l2 : oV} {x0 : oV} {a : Nat} {v : Option oV} {τ : oSg} {S : List oV} {σ : oSg} {Q : Option oV → (Nat → oC) → Prop} (hm : oMi d 68 [.inr (.inr (.inl a)), x0] σ v τ) (hk : oKd a = some 2) (hs : oSmall S = true) : oE d 66 37 [l0, l1, l2] (x0 :: .inr (.inr (.inl a)) :: S) σ Q = oE d 66 40 [l0, l1, l2] (v.toList ++ S) τ Q := pCallV f_66_37 ow_66 lk_10_199 mt_68 rfl rfl rfl hk hs hm
theorem f_66_40 : oFet 66 40 = some (.goto 11, 3) := by decide +kernel
theorem s_66_40 {d : Nat} {l0 l1 l2 : oV} {S : List oV} {σ : oSg} {Q : Option oV → (Nat → oC) → Prop} : oE d 66 40 [l0, l1, l2] S σ Q = oE d 66 51 [l0, l1, l2] S σ Q := pGoto f_66_40 (by decide)
theorem f_66_43 : oFet 66 43 = some (.aload_n 0, 1) := by decide +kernel
theorem s_66_43 {d : Nat} {l1 l2 : oV} {a : Nat} {S : List oV} {σ : oSg} {Q : Option oV → (Nat → oC) → Prop} : oE d 66 43 [.inr (.inr (.inl a)), l1, l2] S σ Q = oE d 66 44 [.inr (.inr (.inl a)), l1, l2] (.inr (.inr (.inl a)) :: S) σ Q := pLdN (k := 0) f_66_43 rfl rfl rfl
theorem f_66_44 : oFet 66 44 = some (.getfield 55, 3) := by decide +kernel
theorem s_66_44 {d : Nat} {l0 l1 l2 : oV} {a : Nat} {S : List oV} {σ : oSg} {Q : Option oV → (Nat → oC) → Prop} (hk : oKd a = some 10) : oE d 66 44 [l0, l1, l2] (.inr (.inr (.inl a)) :: S) σ Q = oE d 66 47 [l0, l1, l2] (.inr (.inr (.inl (oRf a 8))) :: S) σ Q := pGfR f_66_44 ow_66 fl_10_55 rfl (by decide) hk
theorem f_66_47 : oFet 66 47 = some (.iload_n 2, 1) := by decide +kernel
theorem s_66_47 {d : Nat} {l0 l1 : oV} {x : Int} {S : List oV} {σ : oSg} {Q : Option oV → (Nat → oC) → Prop} : oE d 66 47 [l0, l1, .inl x] S σ Q = oE d 66 48 [l0, l1, .inl x] (.inl x :: S) σ Q := pLdN (k := 2) f_66_47 rfl rfl rfl
theorem f_66_48 : oFet 66 48 = some (.invokevirtual 202, 3) := by decide +kernel
theorem c_66_48 {d : Nat} {l0 l1 l2 : oV} {x0 : oV} {a : Nat} {v : Option oV} {τ : oSg} {S : List oV} {σ : oSg} {Q : Option oV → (Nat → oC) → Prop} (hm : oMi d 69 [.inr (.inr (.inl a)), x0] σ v τ) (hk : oKd a = some 2) (hs : oSmall S = true) : oE d 66 48 [l0, l1, l2] (x0 :: .inr (.inr (.inl a)) :: S) σ Q = oE d 66 51 [l0, l1, l2] (v.toList ++ S) τ Q := pCallV f_66_48 ow_66 lk_10_202 mt_69 rfl rfl rfl hk hs hm
theorem f_66_51 : oFet 66 51 = some (.ireturn, 1) := by decide +kernel
theorem s_66_51 {d : Nat} {l0 l1 l2 : oV} {x : Int} {σ : oSg} {Q : Option oV → (Nat → oC) → Prop} : oE d 66 51 [l0, l1, l2] [.inl x] σ Q = Q (some (.inl x)) (oBld σ) := oIret f_66_51 rt_66
theorem ow_67 : (oMt 67).2.2.2.2.1 = 2 := by decide +kernel
theorem rt_67 : (oMt 67).2.2.2.1 = some .boolean := by decide +kernel
theorem nl_67 : (oMt 67).2.2.1 = 4 := by decide +kernel
theorem f_67_0 : oFet 67 0 = some (.iconst 3, 1) := by decide +kernel
theorem s_67_0 {d : Nat} {l0 l1 l2 l3 : oV} {S : List oV} {σ : oSg} {Q : Option oV → (Nat → oC) → Prop} : oE d 67 0 [l0, l1, l2, l3] S σ Q = oE d 67 1 [l0, l1, l2, l3] (.inl (3) :: S) σ Q := pKst f_67_0 (by decide)
theorem f_67_1 : oFet 67 1 = some (.istore_n 2, 1) := by decide +kernel
theorem s_67_1 {d : Nat} {l0 l1 l2 l3 : oV} {x : Int} {S : List oV} {σ : oSg} {Q : Option oV → (Nat → oC) → Prop} (c2 : oCat l2 = 1) (c1 : oCat l1 = 1)  : oE d 67 1 [l0, l1, l2, l3] (.inl x :: S) σ Q = oE d 67 2 [l0, l1, .inl x, l3] S σ Q := pSt (i := 2) f_67_1 rfl rfl (show (2 : Nat) < 4 by decide) (oC1n c1) (oC1n c2) rfl
theorem f_67_2 : oFet 67 2 = some (.iload_n 2, 1) := by decide +kernel
theorem s_67_2 {d : Nat} {l0 l1 l3 : oV} {x : Int} {S : List oV} {σ : oSg} {Q : Option oV → (Nat → oC) → Prop} : oE d 67 2 [l0, l1, .inl x, l3] S σ Q = oE d 67 3 [l0, l1, .inl x, l3] (.inl x :: S) σ Q := pLdN (k := 2) f_67_2 rfl rfl rfl
theorem f_67_3 : oFet 67 3 = some (.bipush 7, 2) := by decide +kernel
theorem s_67_3 {d : Nat} {l0 l1 l2 l3 : oV} {S : List oV} {σ : oSg} {Q : Option oV → (Nat → oC) → Prop} : oE d 67 3 [l0, l1, l2, l3] S σ Q = oE d 67 5 [l0, l1, l2, l3] (.inl (7) :: S) σ Q := pBip f_67_3 (by decide)
theorem f_67_5 : oFet 67 5 = some (.if_icmp .gt 36, 3) := by decide +kernel
theorem s_67_5 {d : Nat} {l0 l1 l2 l3 : oV} {x y : Int} {S : List oV} {σ : oSg} {Q : Option oV → (Nat → oC) → Prop} : oE d 67 5 [l0, l1, l2, l3] (.inl y :: .inl x :: S) σ Q = if y < x then oE d 67 41 [l0, l1, l2, l3] S σ Q else oE d 67 8 [l0, l1, l2, l3] S σ Q := oCmpGt f_67_5 (by decide)
theorem f_67_8 : oFet 67 8 = some (.iconst 0, 1) := by decide +kernel
theorem s_67_8 {d : Nat} {l0 l1 l2 l3 : oV} {S : List oV} {σ : oSg} {Q : Option oV → (Nat → oC) → Prop} : oE d 67 8 [l0, l1, l2, l3] S σ Q = oE d 67 9 [l0, l1, l2, l3] (.inl (0) :: S) σ Q := pKst f_67_8 (by decide)
theorem f_67_9 : oFet 67 9 = some (.istore_n 3, 1) := by decide +kernel
theorem s_67_9 {d : Nat} {l0 l1 l2 l3 : oV} {x : Int} {S : List oV} {σ : oSg} {Q : Option oV → (Nat → oC) → Prop} (c3 : oCat l3 = 1) (c2 : oCat l2 = 1)  : oE d 67 9 [l0, l1, l2, l3] (.inl x :: S) σ Q = oE d 67 10 [l0, l1, l2, .inl x] S σ Q := pSt (i := 3) f_67_9 rfl rfl (show (3 : Nat) < 4 by decide) (oC1n c2) (oC1n c3) rfl
theorem f_67_10 : oFet 67 10 = some (.iload_n 3, 1) := by decide +kernel
theorem s_67_10 {d : Nat} {l0 l1 l2 : oV} {x : Int} {S : List oV} {σ : oSg} {Q : Option oV → (Nat → oC) → Prop} : oE d 67 10 [l0, l1, l2, .inl x] S σ Q = oE d 67 11 [l0, l1, l2, .inl x] (.inl x :: S) σ Q := pLdN (k := 3) f_67_10 rfl rfl rfl
theorem f_67_11 : oFet 67 11 = some (.iconst 2, 1) := by decide +kernel
theorem s_67_11 {d : Nat} {l0 l1 l2 l3 : oV} {S : List oV} {σ : oSg} {Q : Option oV → (Nat → oC) → Prop} : oE d 67 11 [l0, l1, l2, l3] S σ Q = oE d 67 12 [l0, l1, l2, l3] (.inl (2) :: S) σ Q := pKst f_67_11 (by decide)
theorem f_67_12 : oFet 67 12 = some (.iadd, 1) := by decide +kernel
theorem s_67_12 {d : Nat} {l0 l1 l2 l3 : oV} {x y : Int} {S : List oV} {σ : oSg} {Q : Option oV → (Nat → oC) → Prop} : oE d 67 12 [l0, l1, l2, l3] (.inl y :: .inl x :: S) σ Q = oE d 67 13 [l0, l1, l2, l3] (.inl (oAdd x y) :: S) σ Q := oS3 f_67_12 rfl rfl rfl
theorem f_67_13 : oFet 67 13 = some (.iload_n 2, 1) := by decide +kernel
theorem s_67_13 {d : Nat} {l0 l1 l3 : oV} {x : Int} {S : List oV} {σ : oSg} {Q : Option oV → (Nat → oC) → Prop} : oE d 67 13 [l0, l1, .inl x, l3] S σ Q = oE d 67 14 [l0, l1, .inl x, l3] (.inl x :: S) σ Q := pLdN (k := 2) f_67_13 rfl rfl rfl
theorem f_67_14 : oFet 67 14 = some (.if_icmp .ge 21, 3) := by decide +kernel
theorem s_67_14 {d : Nat} {l0 l1 l2 l3 : oV} {x y : Int} {S : List oV} {σ : oSg} {Q : Option oV → (Nat → oC) → Prop} : oE d 67 14 [l0, l1, l2, l3] (.inl y :: .inl x :: S) σ Q = if y ≤ x then oE d 67 35 [l0, l1, l2, l3] S σ Q else oE d 67 17 [l0, l1, l2, l3] S σ Q := oCmpGe f_67_14 (by decide)
theorem f_67_17 : oFet 67 17 = some (.aload_n 0, 1) := by decide +kernel
theorem s_67_17 {d : Nat} {l1 l2 l3 : oV} {a : Nat} {S : List oV} {σ : oSg} {Q : Option oV → (Nat → oC) → Prop} : oE d 67 17 [.inr (.inr (.inl a)), l1, l2, l3] S σ Q = oE d 67 18 [.inr (.inr (.inl a)), l1, l2, l3] (.inr (.inr (.inl a)) :: S) σ Q := pLdN (k := 0) f_67_17 rfl rfl rfl
theorem f_67_18 : oFet 67 18 = some (.aload_n 1, 1) := by decide +kernel
theorem s_67_18 {d : Nat} {l0 l2 l3 : oV} {a : Nat} {S : List oV} {σ : oSg} {Q : Option oV → (Nat → oC) → Prop} : oE d 67 18 [l0, .inr (.inr (.inl a)), l2, l3] S σ Q = oE d 67 19 [l0, .inr (.inr (.inl a)), l2, l3] (.inr (.inr (.inl a)) :: S) σ Q := pLdN (k := 1) f_67_18 rfl rfl rfl
theorem f_67_19 : oFet 67 19 = some (.iload_n 2, 1) := by decide +kernel
theorem s_67_19 {d : Nat} {l0 l1 l3 : oV} {x : Int} {S : List oV} {σ : oSg} {Q : Option oV → (Nat → oC) → Prop} : oE d 67 19 [l0, l1, .inl x, l3] S σ Q = oE d 67 20 [l0, l1, .inl x, l3] (.inl x :: S) σ Q := pLdN (k := 2) f_67_19 rfl rfl rfl
theorem f_67_20 : oFet 67 20 = some (.iload_n 3, 1) := by decide +kernel
theorem s_67_20 {d : Nat} {l0 l1 l2 : oV} {x : Int} {S : List oV} {σ : oSg} {Q : Option oV → (Nat → oC) → Prop} : oE d 67 20 [l0, l1, l2, .inl x] S σ Q = oE d 67 21 [l0, l1, l2, .inl x] (.inl x :: S) σ Q := pLdN (k := 3) f_67_20 rfl rfl rfl
theorem f_67_21 : oFet 67 21 = some (.invokevirtual 15, 3) := by decide +kernel
theorem c_67_21 {d : Nat} {l0 l1 l2 l3 : oV} {x0 x1 x2 : oV} {a : Nat} {v : Option oV} {τ : oSg} {S : List oV} {σ : oSg} {Q : Option oV → (Nat → oC) → Prop} (hm : oMi d 44 [.inr (.inr (.inl a)), x0, x1, x2] σ v τ) (hk : oKd a = some 2) (hs : oSmall S = true) : oE d 67 21 [l0, l1, l2, l3] (x2 :: x1 :: x0 :: .inr (.inr (.inl a)) :: S) σ Q = oE d 67 24 [l0, l1, l2, l3] (v.toList ++ S) τ Q := pCallV f_67_21 ow_67 lk_2_15 mt_44 rfl rfl rfl hk hs hm
theorem f_67_24 : oFet 67 24 = some (.ifCond .eq 5, 3) := by decide +kernel
theorem s_67_24 {d : Nat} {l0 l1 l2 l3 : oV} {x : Int} {S : List oV} {σ : oSg} {Q : Option oV → (Nat → oC) → Prop} : oE d 67 24 [l0, l1, l2, l3] (.inl x :: S) σ Q = if x = 0 then oE d 67 29 [l0, l1, l2, l3] S σ Q else oE d 67 27 [l0, l1, l2, l3] S σ Q := oIfEq f_67_24 (by decide)
theorem f_67_27 : oFet 67 27 = some (.iconst 1, 1) := by decide +kernel
theorem s_67_27 {d : Nat} {l0 l1 l2 l3 : oV} {S : List oV} {σ : oSg} {Q : Option oV → (Nat → oC) → Prop} : oE d 67 27 [l0, l1, l2, l3] S σ Q = oE d 67 28 [l0, l1, l2, l3] (.inl (1) :: S) σ Q := pKst f_67_27 (by decide)
theorem f_67_28 : oFet 67 28 = some (.ireturn, 1) := by decide +kernel
theorem s_67_28 {d : Nat} {l0 l1 l2 l3 : oV} {x : Int} {σ : oSg} {Q : Option oV → (Nat → oC) → Prop} (hx : x = 0 ∨ x = 1) : oE d 67 28 [l0, l1, l2, l3] [.inl x] σ Q = Q (some (.inl x)) (oBld σ) := oZret f_67_28 rt_67 hx
theorem f_67_29 : oFet 67 29 = some (.iinc 3 2, 3) := by decide +kernel
theorem s_67_29 {d : Nat} {l0 l1 l2 : oV} {x : Int} {S : List oV} {σ : oSg} {Q : Option oV → (Nat → oC) → Prop} (c2 : oCat l2 = 1)  : oE d 67 29 [l0, l1, l2, .inl x] S σ Q = oE d 67 32 [l0, l1, l2, .inl (oAdd x (2))] S σ Q := pInc f_67_29 rfl (show (3 : Nat) < 4 by decide) (oC1n c2) (oC1n (v := .inl x) rfl) rfl
theorem f_67_32 : oFet 67 32 = some (.goto (-22), 3) := by decide +kernel
theorem s_67_32 {d : Nat} {l0 l1 l2 l3 : oV} {S : List oV} {σ : oSg} {Q : Option oV → (Nat → oC) → Prop} : oE d 67 32 [l0, l1, l2, l3] S σ Q = oE d 67 10 [l0, l1, l2, l3] S σ Q := pGoto f_67_32 (by decide)
theorem f_67_35 : oFet 67 35 = some (.iinc 2 2, 3) := by decide +kernel
theorem s_67_35 {d : Nat} {l0 l1 l3 : oV} {x : Int} {S : List oV} {σ : oSg} {Q : Option oV → (Nat → oC) → Prop} (c1 : oCat l1 = 1)  : oE d 67 35 [l0, l1, .inl x, l3] S σ Q = oE d 67 38 [l0, l1, .inl (oAdd x (2)), l3] S σ Q := pInc f_67_35 rfl (show (2 : Nat) < 4 by decide) (oC1n c1) (oC1n (v := .inl x) rfl) rfl
theorem f_67_38 : oFet 67 38 = some (.goto (-36), 3) := by decide +kernel
theorem s_67_38 {d : Nat} {l0 l1 l2 l3 : oV} {S : List oV} {σ : oSg} {Q : Option oV → (Nat → oC) → Prop} : oE d 67 38 [l0, l1, l2, l3] S σ Q = oE d 67 2 [l0, l1, l2, l3] S σ Q := pGoto f_67_38 (by decide)
theorem f_67_41 : oFet 67 41 = some (.iconst 0, 1) := by decide +kernel
theorem s_67_41 {d : Nat} {l0 l1 l2 l3 : oV} {S : List oV} {σ : oSg} {Q : Option oV → (Nat → oC) → Prop} : oE d 67 41 [l0, l1, l2, l3] S σ Q = oE d 67 42 [l0, l1, l2, l3] (.inl (0) :: S) σ Q := pKst f_67_41 (by decide)
theorem f_67_42 : oFet 67 42 = some (.ireturn, 1) := by decide +kernel
theorem s_67_42 {d : Nat} {l0 l1 l2 l3 : oV} {x : Int} {σ : oSg} {Q : Option oV → (Nat → oC) → Prop} (hx : x = 0 ∨ x = 1) : oE d 67 42 [l0, l1, l2, l3] [.inl x] σ Q = Q (some (.inl x)) (oBld σ) := oZret f_67_42 rt_67 hx
theorem ow_68 : (oMt 68).2.2.2.2.1 = 2 := by decide +kernel
theorem rt_68 : (oMt 68).2.2.2.1 = some .int := by decide +kernel
theorem nl_68 : (oMt 68).2.2.1 = 2 := by decide +kernel
theorem f_68_0 : oFet 68 0 = some (.iload_n 1, 1) := by decide +kernel
theorem s_68_0 {d : Nat} {l0 : oV} {x : Int} {S : List oV} {σ : oSg} {Q : Option oV → (Nat → oC) → Prop} : oE d 68 0 [l0, .inl x] S σ Q = oE d 68 1 [l0, .inl x] (.inl x :: S) σ Q := pLdN (k := 1) f_68_0 rfl rfl rfl
theorem f_68_1 : oFet 68 1 = some (.iconst (-1), 1) := by decide +kernel
theorem s_68_1 {d : Nat} {l0 l1 : oV} {S : List oV} {σ : oSg} {Q : Option oV → (Nat → oC) → Prop} : oE d 68 1 [l0, l1] S σ Q = oE d 68 2 [l0, l1] (.inl (-1) :: S) σ Q := pKst f_68_1 (by decide)
theorem f_68_2 : oFet 68 2 = some (.if_icmp .ne 10, 3) := by decide +kernel
theorem s_68_2 {d : Nat} {l0 l1 : oV} {x y : Int} {S : List oV} {σ : oSg} {Q : Option oV → (Nat → oC) → Prop} : oE d 68 2 [l0, l1] (.inl y :: .inl x :: S) σ Q = if ¬ x = y then oE d 68 12 [l0, l1] S σ Q else oE d 68 5 [l0, l1] S σ Q := oCmpNe f_68_2 (by decide)
theorem f_68_5 : oFet 68 5 = some (.aload_n 0, 1) := by decide +kernel
theorem s_68_5 {d : Nat} {l1 : oV} {a : Nat} {S : List oV} {σ : oSg} {Q : Option oV → (Nat → oC) → Prop} : oE d 68 5 [.inr (.inr (.inl a)), l1] S σ Q = oE d 68 6 [.inr (.inr (.inl a)), l1] (.inr (.inr (.inl a)) :: S) σ Q := pLdN (k := 0) f_68_5 rfl rfl rfl
theorem f_68_6 : oFet 68 6 = some (.getfield 23, 3) := by decide +kernel
theorem s_68_6 {d : Nat} {l0 l1 : oV} {a : Nat} {S : List oV} {σ : oSg} {Q : Option oV → (Nat → oC) → Prop} (hk : oKd a = some 2) : oE d 68 6 [l0, l1] (.inr (.inr (.inl a)) :: S) σ Q = oE d 68 9 [l0, l1] (.inl (σ.1 a 1) :: S) σ Q := pGfI f_68_6 ow_68 fl_2_23 rfl (by decide) hk
theorem f_68_9 : oFet 68 9 = some (.iconst 1, 1) := by decide +kernel
theorem s_68_9 {d : Nat} {l0 l1 : oV} {S : List oV} {σ : oSg} {Q : Option oV → (Nat → oC) → Prop} : oE d 68 9 [l0, l1] S σ Q = oE d 68 10 [l0, l1] (.inl (1) :: S) σ Q := pKst f_68_9 (by decide)
theorem f_68_10 : oFet 68 10 = some (.iadd, 1) := by decide +kernel
theorem s_68_10 {d : Nat} {l0 l1 : oV} {x y : Int} {S : List oV} {σ : oSg} {Q : Option oV → (Nat → oC) → Prop} : oE d 68 10 [l0, l1] (.inl y :: .inl x :: S) σ Q = oE d 68 11 [l0, l1] (.inl (oAdd x y) :: S) σ Q := oS3 f_68_10 rfl rfl rfl
theorem f_68_11 : oFet 68 11 = some (.ireturn, 1) := by decide +kernel
theorem s_68_11 {d : Nat} {l0 l1 : oV} {x : Int} {σ : oSg} {Q : Option oV → (Nat → oC) → Prop} : oE d 68 11 [l0, l1] [.inl x] σ Q = Q (some (.inl x)) (oBld σ) := oIret f_68_11 rt_68
theorem f_68_12 : oFet 68 12 = some (.iload_n 1, 1) := by decide +kernel
theorem s_68_12 {d : Nat} {l0 : oV} {x : Int} {S : List oV} {σ : oSg} {Q : Option oV → (Nat → oC) → Prop} : oE d 68 12 [l0, .inl x] S σ Q = oE d 68 13 [l0, .inl x] (.inl x :: S) σ Q := pLdN (k := 1) f_68_12 rfl rfl rfl
theorem f_68_13 : oFet 68 13 = some (.aload_n 0, 1) := by decide +kernel
theorem s_68_13 {d : Nat} {l1 : oV} {a : Nat} {S : List oV} {σ : oSg} {Q : Option oV → (Nat → oC) → Prop} : oE d 68 13 [.inr (.inr (.inl a)), l1] S σ Q = oE d 68 14 [.inr (.inr (.inl a)), l1] (.inr (.inr (.inl a)) :: S) σ Q := pLdN (k := 0) f_68_13 rfl rfl rfl
theorem f_68_14 : oFet 68 14 = some (.getfield 23, 3) := by decide +kernel
theorem s_68_14 {d : Nat} {l0 l1 : oV} {a : Nat} {S : List oV} {σ : oSg} {Q : Option oV → (Nat → oC) → Prop} (hk : oKd a = some 2) : oE d 68 14 [l0, l1] (.inr (.inr (.inl a)) :: S) σ Q = oE d 68 17 [l0, l1] (.inl (σ.1 a 1) :: S) σ Q := pGfI f_68_14 ow_68 fl_2_23 rfl (by decide) hk
theorem f_68_17 : oFet 68 17 = some (.if_icmp .gt 11, 3) := by decide +kernel
theorem s_68_17 {d : Nat} {l0 l1 : oV} {x y : Int} {S : List oV} {σ : oSg} {Q : Option oV → (Nat → oC) → Prop} : oE d 68 17 [l0, l1] (.inl y :: .inl x :: S) σ Q = if y < x then oE d 68 28 [l0, l1] S σ Q else oE d 68 20 [l0, l1] S σ Q := oCmpGt f_68_17 (by decide)
theorem f_68_20 : oFet 68 20 = some (.aload_n 0, 1) := by decide +kernel
theorem s_68_20 {d : Nat} {l1 : oV} {a : Nat} {S : List oV} {σ : oSg} {Q : Option oV → (Nat → oC) → Prop} : oE d 68 20 [.inr (.inr (.inl a)), l1] S σ Q = oE d 68 21 [.inr (.inr (.inl a)), l1] (.inr (.inr (.inl a)) :: S) σ Q := pLdN (k := 0) f_68_20 rfl rfl rfl
theorem f_68_21 : oFet 68 21 = some (.iload_n 1, 1) := by decide +kernel
theorem s_68_21 {d : Nat} {l0 : oV} {x : Int} {S : List oV} {σ : oSg} {Q : Option oV → (Nat → oC) → Prop} : oE d 68 21 [l0, .inl x] S σ Q = oE d 68 22 [l0, .inl x] (.inl x :: S) σ Q := pLdN (k := 1) f_68_21 rfl rfl rfl
theorem f_68_22 : oFet 68 22 = some (.invokevirtual 55, 3) := by decide +kernel
theorem c_68_22 {d : Nat} {l0 l1 : oV} {x0 : oV} {a : Nat} {v : Option oV} {τ : oSg} {S : List oV} {σ : oSg} {Q : Option oV → (Nat → oC) → Prop} (hm : oMi d 47 [.inr (.inr (.inl a)), x0] σ v τ) (hk : oKd a = some 2) (hs : oSmall S = true) : oE d 68 22 [l0, l1] (x0 :: .inr (.inr (.inl a)) :: S) σ Q = oE d 68 25 [l0, l1] (v.toList ++ S) τ Q := pCallV f_68_22 ow_68 lk_2_55 mt_47 rfl rfl rfl hk hs hm
theorem f_68_25 : oFet 68 25 = some (.goto 4, 3) := by decide +kernel
theorem s_68_25 {d : Nat} {l0 l1 : oV} {S : List oV} {σ : oSg} {Q : Option oV → (Nat → oC) → Prop} : oE d 68 25 [l0, l1] S σ Q = oE d 68 29 [l0, l1] S σ Q := pGoto f_68_25 (by decide)
theorem f_68_28 : oFet 68 28 = some (.iconst (-1), 1) := by decide +kernel
theorem s_68_28 {d : Nat} {l0 l1 : oV} {S : List oV} {σ : oSg} {Q : Option oV → (Nat → oC) → Prop} : oE d 68 28 [l0, l1] S σ Q = oE d 68 29 [l0, l1] (.inl (-1) :: S) σ Q := pKst f_68_28 (by decide)
theorem f_68_29 : oFet 68 29 = some (.ireturn, 1) := by decide +kernel
theorem s_68_29 {d : Nat} {l0 l1 : oV} {x : Int} {σ : oSg} {Q : Option oV → (Nat → oC) → Prop} : oE d 68 29 [l0, l1] [.inl x] σ Q = Q (some (.inl x)) (oBld σ) := oIret f_68_29 rt_68
theorem ow_69 : (oMt 69).2.2.2.2.1 = 2 := by decide +kernel
theorem rt_69 : (oMt 69).2.2.2.1 = some .int := by decide +kernel
theorem nl_69 : (oMt 69).2.2.1 = 2 := by decide +kernel
theorem f_69_0 : oFet 69 0 = some (.iload_n 1, 1) := by decide +kernel
theorem s_69_0 {d : Nat} {l0 : oV} {x : Int} {S : List oV} {σ : oSg} {Q : Option oV → (Nat → oC) → Prop} : oE d 69 0 [l0, .inl x] S σ Q = oE d 69 1 [l0, .inl x] (.inl x :: S) σ Q := pLdN (k := 1) f_69_0 rfl rfl rfl
theorem f_69_1 : oFet 69 1 = some (.iconst (-1), 1) := by decide +kernel
theorem s_69_1 {d : Nat} {l0 l1 : oV} {S : List oV} {σ : oSg} {Q : Option oV → (Nat → oC) → Prop} : oE d 69 1 [l0, l1] S σ Q = oE d 69 2 [l0, l1] (.inl (-1) :: S) σ Q := pKst f_69_1 (by decide)
theorem f_69_2 : oFet 69 2 = some (.if_icmp .ne 13, 3) := by decide +kernel
theorem s_69_2 {d : Nat} {l0 l1 : oV} {x y : Int} {S : List oV} {σ : oSg} {Q : Option oV → (Nat → oC) → Prop} : oE d 69 2 [l0, l1] (.inl y :: .inl x :: S) σ Q = if ¬ x = y then oE d 69 15 [l0, l1] S σ Q else oE d 69 5 [l0, l1] S σ Q := oCmpNe f_69_2 (by decide)
theorem f_69_5 : oFet 69 5 = some (.aload_n 0, 1) := by decide +kernel
theorem s_69_5 {d : Nat} {l1 : oV} {a : Nat} {S : List oV} {σ : oSg} {Q : Option oV → (Nat → oC) → Prop} : oE d 69 5 [.inr (.inr (.inl a)), l1] S σ Q = oE d 69 6 [.inr (.inr (.inl a)), l1] (.inr (.inr (.inl a)) :: S) σ Q := pLdN (k := 0) f_69_5 rfl rfl rfl
theorem f_69_6 : oFet 69 6 = some (.getfield 19, 3) := by decide +kernel
theorem s_69_6 {d : Nat} {l0 l1 : oV} {a : Nat} {S : List oV} {σ : oSg} {Q : Option oV → (Nat → oC) → Prop} (hk : oKd a = some 2) : oE d 69 6 [l0, l1] (.inr (.inr (.inl a)) :: S) σ Q = oE d 69 9 [l0, l1] (.inl (σ.1 a 0) :: S) σ Q := pGfI f_69_6 ow_69 fl_2_19 rfl (by decide) hk
theorem f_69_9 : oFet 69 9 = some (.aload_n 0, 1) := by decide +kernel
theorem s_69_9 {d : Nat} {l1 : oV} {a : Nat} {S : List oV} {σ : oSg} {Q : Option oV → (Nat → oC) → Prop} : oE d 69 9 [.inr (.inr (.inl a)), l1] S σ Q = oE d 69 10 [.inr (.inr (.inl a)), l1] (.inr (.inr (.inl a)) :: S) σ Q := pLdN (k := 0) f_69_9 rfl rfl rfl
theorem f_69_10 : oFet 69 10 = some (.getfield 23, 3) := by decide +kernel
theorem s_69_10 {d : Nat} {l0 l1 : oV} {a : Nat} {S : List oV} {σ : oSg} {Q : Option oV → (Nat → oC) → Prop} (hk : oKd a = some 2) : oE d 69 10 [l0, l1] (.inr (.inr (.inl a)) :: S) σ Q = oE d 69 13 [l0, l1] (.inl (σ.1 a 1) :: S) σ Q := pGfI f_69_10 ow_69 fl_2_23 rfl (by decide) hk
theorem f_69_13 : oFet 69 13 = some (.isub, 1) := by decide +kernel
theorem s_69_13 {d : Nat} {l0 l1 : oV} {x y : Int} {S : List oV} {σ : oSg} {Q : Option oV → (Nat → oC) → Prop} : oE d 69 13 [l0, l1] (.inl y :: .inl x :: S) σ Q = oE d 69 14 [l0, l1] (.inl (oSub x y) :: S) σ Q := oS3 f_69_13 rfl rfl rfl
theorem f_69_14 : oFet 69 14 = some (.ireturn, 1) := by decide +kernel
theorem s_69_14 {d : Nat} {l0 l1 : oV} {x : Int} {σ : oSg} {Q : Option oV → (Nat → oC) → Prop} : oE d 69 14 [l0, l1] [.inl x] σ Q = Q (some (.inl x)) (oBld σ) := oIret f_69_14 rt_69
theorem f_69_15 : oFet 69 15 = some (.iload_n 1, 1) := by decide +kernel
theorem s_69_15 {d : Nat} {l0 : oV} {x : Int} {S : List oV} {σ : oSg} {Q : Option oV → (Nat → oC) → Prop} : oE d 69 15 [l0, .inl x] S σ Q = oE d 69 16 [l0, .inl x] (.inl x :: S) σ Q := pLdN (k := 1) f_69_15 rfl rfl rfl
theorem f_69_16 : oFet 69 16 = some (.ifCond .lt 29, 3) := by decide +kernel
theorem s_69_16 {d : Nat} {l0 l1 : oV} {x : Int} {S : List oV} {σ : oSg} {Q : Option oV → (Nat → oC) → Prop} : oE d 69 16 [l0, l1] (.inl x :: S) σ Q = if x < 0 then oE d 69 45 [l0, l1] S σ Q else oE d 69 19 [l0, l1] S σ Q := oIfLt f_69_16 (by decide)
theorem f_69_19 : oFet 69 19 = some (.iload_n 1, 1) := by decide +kernel
theorem s_69_19 {d : Nat} {l0 : oV} {x : Int} {S : List oV} {σ : oSg} {Q : Option oV → (Nat → oC) → Prop} : oE d 69 19 [l0, .inl x] S σ Q = oE d 69 20 [l0, .inl x] (.inl x :: S) σ Q := pLdN (k := 1) f_69_19 rfl rfl rfl
theorem f_69_20 : oFet 69 20 = some (.aload_n 0, 1) := by decide +kernel
theorem s_69_20 {d : Nat} {l1 : oV} {a : Nat} {S : List oV} {σ : oSg} {Q : Option oV → (Nat → oC) → Prop} : oE d 69 20 [.inr (.inr (.inl a)), l1] S σ Q = oE d 69 21 [.inr (.inr (.inl a)), l1] (.inr (.inr (.inl a)) :: S) σ Q := pLdN (k := 0) f_69_20 rfl rfl rfl
theorem f_69_21 : oFet 69 21 = some (.getfield 19, 3) := by decide +kernel
theorem s_69_21 {d : Nat} {l0 l1 : oV} {a : Nat} {S : List oV} {σ : oSg} {Q : Option oV → (Nat → oC) → Prop} (hk : oKd a = some 2) : oE d 69 21 [l0, l1] (.inr (.inr (.inl a)) :: S) σ Q = oE d 69 24 [l0, l1] (.inl (σ.1 a 0) :: S) σ Q := pGfI f_69_21 ow_69 fl_2_19 rfl (by decide) hk
theorem f_69_24 : oFet 69 24 = some (.aload_n 0, 1) := by decide +kernel
theorem s_69_24 {d : Nat} {l1 : oV} {a : Nat} {S : List oV} {σ : oSg} {Q : Option oV → (Nat → oC) → Prop} : oE d 69 24 [.inr (.inr (.inl a)), l1] S σ Q = oE d 69 25 [.inr (.inr (.inl a)), l1] (.inr (.inr (.inl a)) :: S) σ Q := pLdN (k := 0) f_69_24 rfl rfl rfl
theorem f_69_25 : oFet 69 25 = some (.getfield 23, 3) := by decide +kernel
theorem s_69_25 {d : Nat} {l0 l1 : oV} {a : Nat} {S : List oV} {σ : oSg} {Q : Option oV → (Nat → oC) → Prop} (hk : oKd a = some 2) : oE d 69 25 [l0, l1] (.inr (.inr (.inl a)) :: S) σ Q = oE d 69 28 [l0, l1] (.inl (σ.1 a 1) :: S) σ Q := pGfI f_69_25 ow_69 fl_2_23 rfl (by decide) hk
theorem f_69_28 : oFet 69 28 = some (.isub, 1) := by decide +kernel
theorem s_69_28 {d : Nat} {l0 l1 : oV} {x y : Int} {S : List oV} {σ : oSg} {Q : Option oV → (Nat → oC) → Prop} : oE d 69 28 [l0, l1] (.inl y :: .inl x :: S) σ Q = oE d 69 29 [l0, l1] (.inl (oSub x y) :: S) σ Q := oS3 f_69_28 rfl rfl rfl
theorem f_69_29 : oFet 69 29 = some (.if_icmp .ge 16, 3) := by decide +kernel
theorem s_69_29 {d : Nat} {l0 l1 : oV} {x y : Int} {S : List oV} {σ : oSg} {Q : Option oV → (Nat → oC) → Prop} : oE d 69 29 [l0, l1] (.inl y :: .inl x :: S) σ Q = if y ≤ x then oE d 69 45 [l0, l1] S σ Q else oE d 69 32 [l0, l1] S σ Q := oCmpGe f_69_29 (by decide)
theorem f_69_32 : oFet 69 32 = some (.aload_n 0, 1) := by decide +kernel
theorem s_69_32 {d : Nat} {l1 : oV} {a : Nat} {S : List oV} {σ : oSg} {Q : Option oV → (Nat → oC) → Prop} : oE d 69 32 [.inr (.inr (.inl a)), l1] S σ Q = oE d 69 33 [.inr (.inr (.inl a)), l1] (.inr (.inr (.inl a)) :: S) σ Q := pLdN (k := 0) f_69_32 rfl rfl rfl
theorem f_69_33 : oFet 69 33 = some (.aload_n 0, 1) := by decide +kernel
theorem s_69_33 {d : Nat} {l1 : oV} {a : Nat} {S : List oV} {σ : oSg} {Q : Option oV → (Nat → oC) → Prop} : oE d 69 33 [.inr (.inr (.inl a)), l1] S σ Q = oE d 69 34 [.inr (.inr (.inl a)), l1] (.inr (.inr (.inl a)) :: S) σ Q := pLdN (k := 0) f_69_33 rfl rfl rfl
theorem f_69_34 : oFet 69 34 = some (.getfield 23, 3) := by decide +kernel
theorem s_69_34 {d : Nat} {l0 l1 : oV} {a : Nat} {S : List oV} {σ : oSg} {Q : Option oV → (Nat → oC) → Prop} (hk : oKd a = some 2) : oE d 69 34 [l0, l1] (.inr (.inr (.inl a)) :: S) σ Q = oE d 69 37 [l0, l1] (.inl (σ.1 a 1) :: S) σ Q := pGfI f_69_34 ow_69 fl_2_23 rfl (by decide) hk
theorem f_69_37 : oFet 69 37 = some (.iload_n 1, 1) := by decide +kernel
theorem s_69_37 {d : Nat} {l0 : oV} {x : Int} {S : List oV} {σ : oSg} {Q : Option oV → (Nat → oC) → Prop} : oE d 69 37 [l0, .inl x] S σ Q = oE d 69 38 [l0, .inl x] (.inl x :: S) σ Q := pLdN (k := 1) f_69_37 rfl rfl rfl
theorem f_69_38 : oFet 69 38 = some (.iadd, 1) := by decide +kernel
theorem s_69_38 {d : Nat} {l0 l1 : oV} {x y : Int} {S : List oV} {σ : oSg} {Q : Option oV → (Nat → oC) → Prop} : oE d 69 38 [l0, l1] (.inl y :: .inl x :: S) σ Q = oE d 69 39 [l0, l1] (.inl (oAdd x y) :: S) σ Q := oS3 f_69_38 rfl rfl rfl
theorem f_69_39 : oFet 69 39 = some (.invokevirtual 55, 3) := by decide +kernel
theorem c_69_39 {d : Nat} {l0 l1 : oV} {x0 : oV} {a : Nat} {v : Option oV} {τ : oSg} {S : List oV} {σ : oSg} {Q : Option oV → (Nat → oC) → Prop} (hm : oMi d 47 [.inr (.inr (.inl a)), x0] σ v τ) (hk : oKd a = some 2) (hs : oSmall S = true) : oE d 69 39 [l0, l1] (x0 :: .inr (.inr (.inl a)) :: S) σ Q = oE d 69 42 [l0, l1] (v.toList ++ S) τ Q := pCallV f_69_39 ow_69 lk_2_55 mt_47 rfl rfl rfl hk hs hm
theorem f_69_42 : oFet 69 42 = some (.goto 4, 3) := by decide +kernel
theorem s_69_42 {d : Nat} {l0 l1 : oV} {S : List oV} {σ : oSg} {Q : Option oV → (Nat → oC) → Prop} : oE d 69 42 [l0, l1] S σ Q = oE d 69 46 [l0, l1] S σ Q := pGoto f_69_42 (by decide)
theorem f_69_45 : oFet 69 45 = some (.iconst (-1), 1) := by decide +kernel
theorem s_69_45 {d : Nat} {l0 l1 : oV} {S : List oV} {σ : oSg} {Q : Option oV → (Nat → oC) → Prop} : oE d 69 45 [l0, l1] S σ Q = oE d 69 46 [l0, l1] (.inl (-1) :: S) σ Q := pKst f_69_45 (by decide)
theorem f_69_46 : oFet 69 46 = some (.ireturn, 1) := by decide +kernel
theorem s_69_46 {d : Nat} {l0 l1 : oV} {x : Int} {σ : oSg} {Q : Option oV → (Nat → oC) → Prop} : oE d 69 46 [l0, l1] [.inl x] σ Q = Q (some (.inl x)) (oBld σ) := oIret f_69_46 rt_69
theorem ow_70 : (oMt 70).2.2.2.2.1 = 10 := by decide +kernel
theorem rt_70 : (oMt 70).2.2.2.1 = some .int := by decide +kernel
theorem nl_70 : (oMt 70).2.2.1 = 3 := by decide +kernel
theorem f_70_0 : oFet 70 0 = some (.aload_n 0, 1) := by decide +kernel
theorem s_70_0 {d : Nat} {l1 l2 : oV} {a : Nat} {S : List oV} {σ : oSg} {Q : Option oV → (Nat → oC) → Prop} : oE d 70 0 [.inr (.inr (.inl a)), l1, l2] S σ Q = oE d 70 1 [.inr (.inr (.inl a)), l1, l2] (.inr (.inr (.inl a)) :: S) σ Q := pLdN (k := 0) f_70_0 rfl rfl rfl
theorem f_70_1 : oFet 70 1 = some (.getfield 55, 3) := by decide +kernel
theorem s_70_1 {d : Nat} {l0 l1 l2 : oV} {a : Nat} {S : List oV} {σ : oSg} {Q : Option oV → (Nat → oC) → Prop} (hk : oKd a = some 10) : oE d 70 1 [l0, l1, l2] (.inr (.inr (.inl a)) :: S) σ Q = oE d 70 4 [l0, l1, l2] (.inr (.inr (.inl (oRf a 8))) :: S) σ Q := pGfR f_70_1 ow_70 fl_10_55 rfl (by decide) hk
theorem f_70_4 : oFet 70 4 = some (.aload_n 0, 1) := by decide +kernel
theorem s_70_4 {d : Nat} {l1 l2 : oV} {a : Nat} {S : List oV} {σ : oSg} {Q : Option oV → (Nat → oC) → Prop} : oE d 70 4 [.inr (.inr (.inl a)), l1, l2] S σ Q = oE d 70 5 [.inr (.inr (.inl a)), l1, l2] (.inr (.inr (.inl a)) :: S) σ Q := pLdN (k := 0) f_70_4 rfl rfl rfl
theorem f_70_5 : oFet 70 5 = some (.getfield 12, 3) := by decide +kernel
theorem s_70_5 {d : Nat} {l0 l1 l2 : oV} {a : Nat} {S : List oV} {σ : oSg} {Q : Option oV → (Nat → oC) → Prop} (hk : oKd a = some 10) : oE d 70 5 [l0, l1, l2] (.inr (.inr (.inl a)) :: S) σ Q = oE d 70 8 [l0, l1, l2] (.inr (.inr (.inl (oRf a 0))) :: S) σ Q := pGfR f_70_5 ow_70 fl_10_12 rfl (by decide) hk
theorem f_70_8 : oFet 70 8 = some (.invokevirtual 196, 3) := by decide +kernel
theorem c_70_8 {d : Nat} {l0 l1 l2 : oV} {x0 : oV} {a : Nat} {v : Option oV} {τ : oSg} {S : List oV} {σ : oSg} {Q : Option oV → (Nat → oC) → Prop} (hm : oMi d 67 [.inr (.inr (.inl a)), x0] σ v τ) (hk : oKd a = some 2) (hs : oSmall S = true) : oE d 70 8 [l0, l1, l2] (x0 :: .inr (.inr (.inl a)) :: S) σ Q = oE d 70 11 [l0, l1, l2] (v.toList ++ S) τ Q := pCallV f_70_8 ow_70 lk_10_196 mt_67 rfl rfl rfl hk hs hm
theorem f_70_11 : oFet 70 11 = some (.ifCond .ne 6, 3) := by decide +kernel
theorem s_70_11 {d : Nat} {l0 l1 l2 : oV} {x : Int} {S : List oV} {σ : oSg} {Q : Option oV → (Nat → oC) → Prop} : oE d 70 11 [l0, l1, l2] (.inl x :: S) σ Q = if ¬ x = 0 then oE d 70 17 [l0, l1, l2] S σ Q else oE d 70 14 [l0, l1, l2] S σ Q := oIfNe f_70_11 (by decide)
theorem f_70_14 : oFet 70 14 = some (.bipush (-5), 2) := by decide +kernel
theorem s_70_14 {d : Nat} {l0 l1 l2 : oV} {S : List oV} {σ : oSg} {Q : Option oV → (Nat → oC) → Prop} : oE d 70 14 [l0, l1, l2] S σ Q = oE d 70 16 [l0, l1, l2] (.inl (-5) :: S) σ Q := pBip f_70_14 (by decide)
theorem f_70_16 : oFet 70 16 = some (.ireturn, 1) := by decide +kernel
theorem s_70_16 {d : Nat} {l0 l1 l2 : oV} {x : Int} {σ : oSg} {Q : Option oV → (Nat → oC) → Prop} : oE d 70 16 [l0, l1, l2] [.inl x] σ Q = Q (some (.inl x)) (oBld σ) := oIret f_70_16 rt_70
theorem f_70_17 : oFet 70 17 = some (.aload_n 0, 1) := by decide +kernel
theorem s_70_17 {d : Nat} {l1 l2 : oV} {a : Nat} {S : List oV} {σ : oSg} {Q : Option oV → (Nat → oC) → Prop} : oE d 70 17 [.inr (.inr (.inl a)), l1, l2] S σ Q = oE d 70 18 [.inr (.inr (.inl a)), l1, l2] (.inr (.inr (.inl a)) :: S) σ Q := pLdN (k := 0) f_70_17 rfl rfl rfl
theorem f_70_18 : oFet 70 18 = some (.getfield 38, 3) := by decide +kernel
theorem s_70_18 {d : Nat} {l0 l1 l2 : oV} {a : Nat} {S : List oV} {σ : oSg} {Q : Option oV → (Nat → oC) → Prop} (hk : oKd a = some 10) : oE d 70 18 [l0, l1, l2] (.inr (.inr (.inl a)) :: S) σ Q = oE d 70 21 [l0, l1, l2] (.inr (.inr (.inl (oRf a 5))) :: S) σ Q := pGfR f_70_18 ow_70 fl_10_38 rfl (by decide) hk
theorem f_70_21 : oFet 70 21 = some (.aload_n 0, 1) := by decide +kernel
theorem s_70_21 {d : Nat} {l1 l2 : oV} {a : Nat} {S : List oV} {σ : oSg} {Q : Option oV → (Nat → oC) → Prop} : oE d 70 21 [.inr (.inr (.inl a)), l1, l2] S σ Q = oE d 70 22 [.inr (.inr (.inl a)), l1, l2] (.inr (.inr (.inl a)) :: S) σ Q := pLdN (k := 0) f_70_21 rfl rfl rfl
theorem f_70_22 : oFet 70 22 = some (.getfield 12, 3) := by decide +kernel
theorem s_70_22 {d : Nat} {l0 l1 l2 : oV} {a : Nat} {S : List oV} {σ : oSg} {Q : Option oV → (Nat → oC) → Prop} (hk : oKd a = some 10) : oE d 70 22 [l0, l1, l2] (.inr (.inr (.inl a)) :: S) σ Q = oE d 70 25 [l0, l1, l2] (.inr (.inr (.inl (oRf a 0))) :: S) σ Q := pGfR f_70_22 ow_70 fl_10_12 rfl (by decide) hk
theorem f_70_25 : oFet 70 25 = some (.getfield 73, 3) := by decide +kernel
theorem s_70_25 {d : Nat} {l0 l1 l2 : oV} {a : Nat} {S : List oV} {σ : oSg} {Q : Option oV → (Nat → oC) → Prop} (hk : oKd a = some 1) : oE d 70 25 [l0, l1, l2] (.inr (.inr (.inl a)) :: S) σ Q = oE d 70 28 [l0, l1, l2] (.inr (.inr (.inl (oRf a 0))) :: S) σ Q := pGfR f_70_25 ow_70 fl_10_73 rfl (by decide) hk
theorem f_70_28 : oFet 70 28 = some (.invokevirtual 205, 3) := by decide +kernel
theorem c_70_28 {d : Nat} {l0 l1 l2 : oV} {x0 : oV} {a : Nat} {v : Option oV} {τ : oSg} {S : List oV} {σ : oSg} {Q : Option oV → (Nat → oC) → Prop} (hm : oMi d 71 [.inr (.inr (.inl a)), x0] σ v τ) (hk : oKd a = some 4) (hs : oSmall S = true) : oE d 70 28 [l0, l1, l2] (x0 :: .inr (.inr (.inl a)) :: S) σ Q = oE d 70 31 [l0, l1, l2] (v.toList ++ S) τ Q := pCallV f_70_28 ow_70 lk_10_205 mt_71 rfl rfl rfl hk hs hm
theorem f_70_31 : oFet 70 31 = some (.aload_n 0, 1) := by decide +kernel
theorem s_70_31 {d : Nat} {l1 l2 : oV} {a : Nat} {S : List oV} {σ : oSg} {Q : Option oV → (Nat → oC) → Prop} : oE d 70 31 [.inr (.inr (.inl a)), l1, l2] S σ Q = oE d 70 32 [.inr (.inr (.inl a)), l1, l2] (.inr (.inr (.inl a)) :: S) σ Q := pLdN (k := 0) f_70_31 rfl rfl rfl
theorem f_70_32 : oFet 70 32 = some (.getfield 55, 3) := by decide +kernel
theorem s_70_32 {d : Nat} {l0 l1 l2 : oV} {a : Nat} {S : List oV} {σ : oSg} {Q : Option oV → (Nat → oC) → Prop} (hk : oKd a = some 10) : oE d 70 32 [l0, l1, l2] (.inr (.inr (.inl a)) :: S) σ Q = oE d 70 35 [l0, l1, l2] (.inr (.inr (.inl (oRf a 8))) :: S) σ Q := pGfR f_70_32 ow_70 fl_10_55 rfl (by decide) hk
theorem f_70_35 : oFet 70 35 = some (.aload_n 0, 1) := by decide +kernel
theorem s_70_35 {d : Nat} {l1 l2 : oV} {a : Nat} {S : List oV} {σ : oSg} {Q : Option oV → (Nat → oC) → Prop} : oE d 70 35 [.inr (.inr (.inl a)), l1, l2] S σ Q = oE d 70 36 [.inr (.inr (.inl a)), l1, l2] (.inr (.inr (.inl a)) :: S) σ Q := pLdN (k := 0) f_70_35 rfl rfl rfl
theorem f_70_36 : oFet 70 36 = some (.getfield 55, 3) := by decide +kernel
theorem s_70_36 {d : Nat} {l0 l1 l2 : oV} {a : Nat} {S : List oV} {σ : oSg} {Q : Option oV → (Nat → oC) → Prop} (hk : oKd a = some 10) : oE d 70 36 [l0, l1, l2] (.inr (.inr (.inl a)) :: S) σ Q = oE d 70 39 [l0, l1, l2] (.inr (.inr (.inl (oRf a 8))) :: S) σ Q := pGfR f_70_36 ow_70 fl_10_55 rfl (by decide) hk
theorem f_70_39 : oFet 70 39 = some (.getfield 209, 3) := by decide +kernel
theorem s_70_39 {d : Nat} {l0 l1 l2 : oV} {a : Nat} {S : List oV} {σ : oSg} {Q : Option oV → (Nat → oC) → Prop} (hk : oKd a = some 2) : oE d 70 39 [l0, l1, l2] (.inr (.inr (.inl a)) :: S) σ Q = oE d 70 42 [l0, l1, l2] (.inl (σ.1 a 1) :: S) σ Q := pGfI f_70_39 ow_70 fl_10_209 rfl (by decide) hk
theorem f_70_42 : oFet 70 42 = some (.invokevirtual 193, 3) := by decide +kernel
theorem c_70_42 {d : Nat} {l0 l1 l2 : oV} {x0 : oV} {a : Nat} {v : Option oV} {τ : oSg} {S : List oV} {σ : oSg} {Q : Option oV → (Nat → oC) → Prop} (hm : oMi d 47 [.inr (.inr (.inl a)), x0] σ v τ) (hk : oKd a = some 2) (hs : oSmall S = true) : oE d 70 42 [l0, l1, l2] (x0 :: .inr (.inr (.inl a)) :: S) σ Q = oE d 70 45 [l0, l1, l2] (v.toList ++ S) τ Q := pCallV f_70_42 ow_70 lk_10_193 mt_47 rfl rfl rfl hk hs hm
theorem f_70_45 : oFet 70 45 = some (.istore_n 1, 1) := by decide +kernel
theorem s_70_45 {d : Nat} {l0 l1 l2 : oV} {x : Int} {S : List oV} {σ : oSg} {Q : Option oV → (Nat → oC) → Prop} (c1 : oCat l1 = 1) (c0 : oCat l0 = 1)  : oE d 70 45 [l0, l1, l2] (.inl x :: S) σ Q = oE d 70 46 [l0, .inl x, l2] S σ Q := pSt (i := 1) f_70_45 rfl rfl (show (1 : Nat) < 3 by decide) (oC1n c0) (oC1n c1) rfl
theorem f_70_46 : oFet 70 46 = some (.aload_n 0, 1) := by decide +kernel
theorem s_70_46 {d : Nat} {l1 l2 : oV} {a : Nat} {S : List oV} {σ : oSg} {Q : Option oV → (Nat → oC) → Prop} : oE d 70 46 [.inr (.inr (.inl a)), l1, l2] S σ Q = oE d 70 47 [.inr (.inr (.inl a)), l1, l2] (.inr (.inr (.inl a)) :: S) σ Q := pLdN (k := 0) f_70_46 rfl rfl rfl
theorem f_70_47 : oFet 70 47 = some (.getfield 55, 3) := by decide +kernel
theorem s_70_47 {d : Nat} {l0 l1 l2 : oV} {a : Nat} {S : List oV} {σ : oSg} {Q : Option oV → (Nat → oC) → Prop} (hk : oKd a = some 10) : oE d 70 47 [l0, l1, l2] (.inr (.inr (.inl a)) :: S) σ Q = oE d 70 50 [l0, l1, l2] (.inr (.inr (.inl (oRf a 8))) :: S) σ Q := pGfR f_70_47 ow_70 fl_10_55 rfl (by decide) hk
theorem f_70_50 : oFet 70 50 = some (.getfield 209, 3) := by decide +kernel
theorem s_70_50 {d : Nat} {l0 l1 l2 : oV} {a : Nat} {S : List oV} {σ : oSg} {Q : Option oV → (Nat → oC) → Prop} (hk : oKd a = some 2) : oE d 70 50 [l0, l1, l2] (.inr (.inr (.inl a)) :: S) σ Q = oE d 70 53 [l0, l1, l2] (.inl (σ.1 a 1) :: S) σ Q := pGfI f_70_50 ow_70 fl_10_209 rfl (by decide) hk
theorem f_70_53 : oFet 70 53 = some (.iconst 1, 1) := by decide +kernel
theorem s_70_53 {d : Nat} {l0 l1 l2 : oV} {S : List oV} {σ : oSg} {Q : Option oV → (Nat → oC) → Prop} : oE d 70 53 [l0, l1, l2] S σ Q = oE d 70 54 [l0, l1, l2] (.inl (1) :: S) σ Q := pKst f_70_53 (by decide)
theorem f_70_54 : oFet 70 54 = some (.iadd, 1) := by decide +kernel
theorem s_70_54 {d : Nat} {l0 l1 l2 : oV} {x y : Int} {S : List oV} {σ : oSg} {Q : Option oV → (Nat → oC) → Prop} : oE d 70 54 [l0, l1, l2] (.inl y :: .inl x :: S) σ Q = oE d 70 55 [l0, l1, l2] (.inl (oAdd x y) :: S) σ Q := oS3 f_70_54 rfl rfl rfl
theorem f_70_55 : oFet 70 55 = some (.istore_n 2, 1) := by decide +kernel
theorem s_70_55 {d : Nat} {l0 l1 l2 : oV} {x : Int} {S : List oV} {σ : oSg} {Q : Option oV → (Nat → oC) → Prop} (c2 : oCat l2 = 1) (c1 : oCat l1 = 1)  : oE d 70 55 [l0, l1, l2] (.inl x :: S) σ Q = oE d 70 56 [l0, l1, .inl x] S σ Q := pSt (i := 2) f_70_55 rfl rfl (show (2 : Nat) < 3 by decide) (oC1n c1) (oC1n c2) rfl
theorem f_70_56 : oFet 70 56 = some (.iload_n 2, 1) := by decide +kernel
theorem s_70_56 {d : Nat} {l0 l1 : oV} {x : Int} {S : List oV} {σ : oSg} {Q : Option oV → (Nat → oC) → Prop} : oE d 70 56 [l0, l1, .inl x] S σ Q = oE d 70 57 [l0, l1, .inl x] (.inl x :: S) σ Q := pLdN (k := 2) f_70_56 rfl rfl rfl
theorem f_70_57 : oFet 70 57 = some (.aload_n 0, 1) := by decide +kernel
theorem s_70_57 {d : Nat} {l1 l2 : oV} {a : Nat} {S : List oV} {σ : oSg} {Q : Option oV → (Nat → oC) → Prop} : oE d 70 57 [.inr (.inr (.inl a)), l1, l2] S σ Q = oE d 70 58 [.inr (.inr (.inl a)), l1, l2] (.inr (.inr (.inl a)) :: S) σ Q := pLdN (k := 0) f_70_57 rfl rfl rfl
theorem f_70_58 : oFet 70 58 = some (.getfield 55, 3) := by decide +kernel
theorem s_70_58 {d : Nat} {l0 l1 l2 : oV} {a : Nat} {S : List oV} {σ : oSg} {Q : Option oV → (Nat → oC) → Prop} (hk : oKd a = some 10) : oE d 70 58 [l0, l1, l2] (.inr (.inr (.inl a)) :: S) σ Q = oE d 70 61 [l0, l1, l2] (.inr (.inr (.inl (oRf a 8))) :: S) σ Q := pGfR f_70_58 ow_70 fl_10_55 rfl (by decide) hk
theorem f_70_61 : oFet 70 61 = some (.getfield 192, 3) := by decide +kernel
theorem s_70_61 {d : Nat} {l0 l1 l2 : oV} {a : Nat} {S : List oV} {σ : oSg} {Q : Option oV → (Nat → oC) → Prop} (hk : oKd a = some 2) : oE d 70 61 [l0, l1, l2] (.inr (.inr (.inl a)) :: S) σ Q = oE d 70 64 [l0, l1, l2] (.inl (σ.1 a 0) :: S) σ Q := pGfI f_70_61 ow_70 fl_10_192 rfl (by decide) hk
theorem f_70_64 : oFet 70 64 = some (.if_icmp .ge 25, 3) := by decide +kernel
theorem s_70_64 {d : Nat} {l0 l1 l2 : oV} {x y : Int} {S : List oV} {σ : oSg} {Q : Option oV → (Nat → oC) → Prop} : oE d 70 64 [l0, l1, l2] (.inl y :: .inl x :: S) σ Q = if y ≤ x then oE d 70 89 [l0, l1, l2] S σ Q else oE d 70 67 [l0, l1, l2] S σ Q := oCmpGe f_70_64 (by decide)
theorem f_70_67 : oFet 70 67 = some (.aload_n 0, 1) := by decide +kernel
theorem s_70_67 {d : Nat} {l1 l2 : oV} {a : Nat} {S : List oV} {σ : oSg} {Q : Option oV → (Nat → oC) → Prop} : oE d 70 67 [.inr (.inr (.inl a)), l1, l2] S σ Q = oE d 70 68 [.inr (.inr (.inl a)), l1, l2] (.inr (.inr (.inl a)) :: S) σ Q := pLdN (k := 0) f_70_67 rfl rfl rfl
theorem f_70_68 : oFet 70 68 = some (.getfield 38, 3) := by decide +kernel
theorem s_70_68 {d : Nat} {l0 l1 l2 : oV} {a : Nat} {S : List oV} {σ : oSg} {Q : Option oV → (Nat → oC) → Prop} (hk : oKd a = some 10) : oE d 70 68 [l0, l1, l2] (.inr (.inr (.inl a)) :: S) σ Q = oE d 70 71 [l0, l1, l2] (.inr (.inr (.inl (oRf a 5))) :: S) σ Q := pGfR f_70_68 ow_70 fl_10_38 rfl (by decide) hk
theorem f_70_71 : oFet 70 71 = some (.aload_n 0, 1) := by decide +kernel
theorem s_70_71 {d : Nat} {l1 l2 : oV} {a : Nat} {S : List oV} {σ : oSg} {Q : Option oV → (Nat → oC) → Prop} : oE d 70 71 [.inr (.inr (.inl a)), l1, l2] S σ Q = oE d 70 72 [.inr (.inr (.inl a)), l1, l2] (.inr (.inr (.inl a)) :: S) σ Q := pLdN (k := 0) f_70_71 rfl rfl rfl
theorem f_70_72 : oFet 70 72 = some (.getfield 55, 3) := by decide +kernel
theorem s_70_72 {d : Nat} {l0 l1 l2 : oV} {a : Nat} {S : List oV} {σ : oSg} {Q : Option oV → (Nat → oC) → Prop} (hk : oKd a = some 10) : oE d 70 72 [l0, l1, l2] (.inr (.inr (.inl a)) :: S) σ Q = oE d 70 75 [l0, l1, l2] (.inr (.inr (.inl (oRf a 8))) :: S) σ Q := pGfR f_70_72 ow_70 fl_10_55 rfl (by decide) hk
theorem f_70_75 : oFet 70 75 = some (.iload_n 2, 1) := by decide +kernel
theorem s_70_75 {d : Nat} {l0 l1 : oV} {x : Int} {S : List oV} {σ : oSg} {Q : Option oV → (Nat → oC) → Prop} : oE d 70 75 [l0, l1, .inl x] S σ Q = oE d 70 76 [l0, l1, .inl x] (.inl x :: S) σ Q := pLdN (k := 2) f_70_75 rfl rfl rfl
theorem f_70_76 : oFet 70 76 = some (.invokevirtual 193, 3) := by decide +kernel
theorem c_70_76 {d : Nat} {l0 l1 l2 : oV} {x0 : oV} {a : Nat} {v : Option oV} {τ : oSg} {S : List oV} {σ : oSg} {Q : Option oV → (Nat → oC) → Prop} (hm : oMi d 47 [.inr (.inr (.inl a)), x0] σ v τ) (hk : oKd a = some 2) (hs : oSmall S = true) : oE d 70 76 [l0, l1, l2] (x0 :: .inr (.inr (.inl a)) :: S) σ Q = oE d 70 79 [l0, l1, l2] (v.toList ++ S) τ Q := pCallV f_70_76 ow_70 lk_10_193 mt_47 rfl rfl rfl hk hs hm
theorem f_70_79 : oFet 70 79 = some (.iload_n 1, 1) := by decide +kernel
theorem s_70_79 {d : Nat} {l0 l2 : oV} {x : Int} {S : List oV} {σ : oSg} {Q : Option oV → (Nat → oC) → Prop} : oE d 70 79 [l0, .inl x, l2] S σ Q = oE d 70 80 [l0, .inl x, l2] (.inl x :: S) σ Q := pLdN (k := 1) f_70_79 rfl rfl rfl
theorem f_70_80 : oFet 70 80 = some (.invokevirtual 212, 3) := by decide +kernel
theorem c_70_80 {d : Nat} {l0 l1 l2 : oV} {x0 x1 : oV} {a : Nat} {v : Option oV} {τ : oSg} {S : List oV} {σ : oSg} {Q : Option oV → (Nat → oC) → Prop} (hm : oMi d 72 [.inr (.inr (.inl a)), x0, x1] σ v τ) (hk : oKd a = some 4) (hs : oSmall S = true) : oE d 70 80 [l0, l1, l2] (x1 :: x0 :: .inr (.inr (.inl a)) :: S) σ Q = oE d 70 83 [l0, l1, l2] (v.toList ++ S) τ Q := pCallV f_70_80 ow_70 lk_10_212 mt_72 rfl rfl rfl hk hs hm
theorem f_70_83 : oFet 70 83 = some (.iinc 2 1, 3) := by decide +kernel
theorem s_70_83 {d : Nat} {l0 l1 : oV} {x : Int} {S : List oV} {σ : oSg} {Q : Option oV → (Nat → oC) → Prop} (c1 : oCat l1 = 1)  : oE d 70 83 [l0, l1, .inl x] S σ Q = oE d 70 86 [l0, l1, .inl (oAdd x (1))] S σ Q := pInc f_70_83 rfl (show (2 : Nat) < 3 by decide) (oC1n c1) (oC1n (v := .inl x) rfl) rfl
theorem f_70_86 : oFet 70 86 = some (.goto (-30), 3) := by decide +kernel
theorem s_70_86 {d : Nat} {l0 l1 l2 : oV} {S : List oV} {σ : oSg} {Q : Option oV → (Nat → oC) → Prop} : oE d 70 86 [l0, l1, l2] S σ Q = oE d 70 56 [l0, l1, l2] S σ Q := pGoto f_70_86 (by decide)
theorem f_70_89 : oFet 70 89 = some (.aload_n 0, 1) := by decide +kernel
theorem s_70_89 {d : Nat} {l1 l2 : oV} {a : Nat} {S : List oV} {σ : oSg} {Q : Option oV → (Nat → oC) → Prop} : oE d 70 89 [.inr (.inr (.inl a)), l1, l2] S σ Q = oE d 70 90 [.inr (.inr (.inl a)), l1, l2] (.inr (.inr (.inl a)) :: S) σ Q := pLdN (k := 0) f_70_89 rfl rfl rfl
theorem f_70_90 : oFet 70 90 = some (.getfield 45, 3) := by decide +kernel
theorem s_70_90 {d : Nat} {l0 l1 l2 : oV} {a : Nat} {S : List oV} {σ : oSg} {Q : Option oV → (Nat → oC) → Prop} (hk : oKd a = some 10) : oE d 70 90 [l0, l1, l2] (.inr (.inr (.inl a)) :: S) σ Q = oE d 70 93 [l0, l1, l2] (.inr (.inr (.inl (oRf a 6))) :: S) σ Q := pGfR f_70_90 ow_70 fl_10_45 rfl (by decide) hk
theorem f_70_93 : oFet 70 93 = some (.aload_n 0, 1) := by decide +kernel
theorem s_70_93 {d : Nat} {l1 l2 : oV} {a : Nat} {S : List oV} {σ : oSg} {Q : Option oV → (Nat → oC) → Prop} : oE d 70 93 [.inr (.inr (.inl a)), l1, l2] S σ Q = oE d 70 94 [.inr (.inr (.inl a)), l1, l2] (.inr (.inr (.inl a)) :: S) σ Q := pLdN (k := 0) f_70_93 rfl rfl rfl
theorem f_70_94 : oFet 70 94 = some (.getfield 38, 3) := by decide +kernel
theorem s_70_94 {d : Nat} {l0 l1 l2 : oV} {a : Nat} {S : List oV} {σ : oSg} {Q : Option oV → (Nat → oC) → Prop} (hk : oKd a = some 10) : oE d 70 94 [l0, l1, l2] (.inr (.inr (.inl a)) :: S) σ Q = oE d 70 97 [l0, l1, l2] (.inr (.inr (.inl (oRf a 5))) :: S) σ Q := pGfR f_70_94 ow_70 fl_10_38 rfl (by decide) hk
theorem f_70_97 : oFet 70 97 = some (.iconst 1, 1) := by decide +kernel
theorem s_70_97 {d : Nat} {l0 l1 l2 : oV} {S : List oV} {σ : oSg} {Q : Option oV → (Nat → oC) → Prop} : oE d 70 97 [l0, l1, l2] S σ Q = oE d 70 98 [l0, l1, l2] (.inl (1) :: S) σ Q := pKst f_70_97 (by decide)
theorem f_70_98 : oFet 70 98 = some (.invokevirtual 124, 3) := by decide +kernel
theorem c_70_98 {d : Nat} {l0 l1 l2 : oV} {x0 x1 : oV} {a : Nat} {v : Option oV} {τ : oSg} {S : List oV} {σ : oSg} {Q : Option oV → (Nat → oC) → Prop} (hm : oMi d 33 [.inr (.inr (.inl a)), x0, x1] σ v τ) (hk : oKd a = some 3) (hs : oSmall S = true) : oE d 70 98 [l0, l1, l2] (x1 :: x0 :: .inr (.inr (.inl a)) :: S) σ Q = oE d 70 101 [l0, l1, l2] (v.toList ++ S) τ Q := pCallV f_70_98 ow_70 lk_10_124 mt_33 rfl rfl rfl hk hs hm
theorem f_70_101 : oFet 70 101 = some (.aload_n 0, 1) := by decide +kernel
theorem s_70_101 {d : Nat} {l1 l2 : oV} {a : Nat} {S : List oV} {σ : oSg} {Q : Option oV → (Nat → oC) → Prop} : oE d 70 101 [.inr (.inr (.inl a)), l1, l2] S σ Q = oE d 70 102 [.inr (.inr (.inl a)), l1, l2] (.inr (.inr (.inl a)) :: S) σ Q := pLdN (k := 0) f_70_101 rfl rfl rfl
theorem f_70_102 : oFet 70 102 = some (.getfield 45, 3) := by decide +kernel
theorem s_70_102 {d : Nat} {l0 l1 l2 : oV} {a : Nat} {S : List oV} {σ : oSg} {Q : Option oV → (Nat → oC) → Prop} (hk : oKd a = some 10) : oE d 70 102 [l0, l1, l2] (.inr (.inr (.inl a)) :: S) σ Q = oE d 70 105 [l0, l1, l2] (.inr (.inr (.inl (oRf a 6))) :: S) σ Q := pGfR f_70_102 ow_70 fl_10_45 rfl (by decide) hk
theorem f_70_105 : oFet 70 105 = some (.getfield 132, 3) := by decide +kernel
theorem s_70_105 {d : Nat} {l0 l1 l2 : oV} {a : Nat} {S : List oV} {σ : oSg} {Q : Option oV → (Nat → oC) → Prop} (hk : oKd a = some 3) : oE d 70 105 [l0, l1, l2] (.inr (.inr (.inl a)) :: S) σ Q = oE d 70 108 [l0, l1, l2] (.inl (σ.1 a 1) :: S) σ Q := pGfI f_70_105 ow_70 fl_10_132 rfl (by decide) hk
theorem f_70_108 : oFet 70 108 = some (.ireturn, 1) := by decide +kernel
theorem s_70_108 {d : Nat} {l0 l1 l2 : oV} {x : Int} {σ : oSg} {Q : Option oV → (Nat → oC) → Prop} : oE d 70 108 [l0, l1, l2] [.inl x] σ Q = Q (some (.inl x)) (oBld σ) := oIret f_70_108 rt_70
theorem ow_71 : (oMt 71).2.2.2.2.1 = 4 := by decide +kernel
theorem rt_71 : (oMt 71).2.2.2.1 = none := by decide +kernel
theorem nl_71 : (oMt 71).2.2.1 = 2 := by decide +kernel
theorem f_71_0 : oFet 71 0 = some (.aload_n 0, 1) := by decide +kernel
theorem s_71_0 {d : Nat} {l1 : oV} {a : Nat} {S : List oV} {σ : oSg} {Q : Option oV → (Nat → oC) → Prop} : oE d 71 0 [.inr (.inr (.inl a)), l1] S σ Q = oE d 71 1 [.inr (.inr (.inl a)), l1] (.inr (.inr (.inl a)) :: S) σ Q := pLdN (k := 0) f_71_0 rfl rfl rfl
theorem f_71_1 : oFet 71 1 = some (.aload_n 1, 1) := by decide +kernel
theorem s_71_1 {d : Nat} {l0 : oV} {a : Nat} {S : List oV} {σ : oSg} {Q : Option oV → (Nat → oC) → Prop} : oE d 71 1 [l0, .inr (.inr (.inl a))] S σ Q = oE d 71 2 [l0, .inr (.inr (.inl a))] (.inr (.inr (.inl a)) :: S) σ Q := pLdN (k := 1) f_71_1 rfl rfl rfl
theorem f_71_2 : oFet 71 2 = some (.getfield 15, 3) := by decide +kernel
theorem s_71_2 {d : Nat} {l0 l1 : oV} {a : Nat} {S : List oV} {σ : oSg} {Q : Option oV → (Nat → oC) → Prop} (hk : oKd a = some 4) : oE d 71 2 [l0, l1] (.inr (.inr (.inl a)) :: S) σ Q = oE d 71 5 [l0, l1] (.inl (σ.1 a 0) :: S) σ Q := pGfI f_71_2 ow_71 fl_4_15 rfl (by decide) hk
theorem f_71_5 : oFet 71 5 = some (.putfield 15, 3) := by decide +kernel
theorem s_71_5 {d : Nat} {l0 l1 : oV} {a : Nat} {v : Int} {S : List oV} {σ : oSg} {Q : Option oV → (Nat → oC) → Prop} (hk : oKd a = some 4) : oE d 71 5 [l0, l1] (.inl v :: .inr (.inr (.inl a)) :: S) σ Q = oE d 71 8 [l0, l1] S (oSF σ a 0 v) Q := pPfI f_71_5 ow_71 fl_4_15 rfl (by decide) rfl rfl hk
theorem f_71_8 : oFet 71 8 = some (.aload_n 1, 1) := by decide +kernel
theorem s_71_8 {d : Nat} {l0 : oV} {a : Nat} {S : List oV} {σ : oSg} {Q : Option oV → (Nat → oC) → Prop} : oE d 71 8 [l0, .inr (.inr (.inl a))] S σ Q = oE d 71 9 [l0, .inr (.inr (.inl a))] (.inr (.inr (.inl a)) :: S) σ Q := pLdN (k := 1) f_71_8 rfl rfl rfl
theorem f_71_9 : oFet 71 9 = some (.getfield 9, 3) := by decide +kernel
theorem s_71_9 {d : Nat} {l0 l1 : oV} {a : Nat} {S : List oV} {σ : oSg} {Q : Option oV → (Nat → oC) → Prop} (hk : oKd a = some 4) : oE d 71 9 [l0, l1] (.inr (.inr (.inl a)) :: S) σ Q = oE d 71 12 [l0, l1] (.inr (.inr (.inl (oRf a 1))) :: S) σ Q := pGfR f_71_9 ow_71 fl_4_9 rfl (by decide) hk
theorem f_71_12 : oFet 71 12 = some (.iconst 0, 1) := by decide +kernel
theorem s_71_12 {d : Nat} {l0 l1 : oV} {S : List oV} {σ : oSg} {Q : Option oV → (Nat → oC) → Prop} : oE d 71 12 [l0, l1] S σ Q = oE d 71 13 [l0, l1] (.inl (0) :: S) σ Q := pKst f_71_12 (by decide)
theorem f_71_13 : oFet 71 13 = some (.aload_n 0, 1) := by decide +kernel
theorem s_71_13 {d : Nat} {l1 : oV} {a : Nat} {S : List oV} {σ : oSg} {Q : Option oV → (Nat → oC) → Prop} : oE d 71 13 [.inr (.inr (.inl a)), l1] S σ Q = oE d 71 14 [.inr (.inr (.inl a)), l1] (.inr (.inr (.inl a)) :: S) σ Q := pLdN (k := 0) f_71_13 rfl rfl rfl
theorem f_71_14 : oFet 71 14 = some (.getfield 9, 3) := by decide +kernel
theorem s_71_14 {d : Nat} {l0 l1 : oV} {a : Nat} {S : List oV} {σ : oSg} {Q : Option oV → (Nat → oC) → Prop} (hk : oKd a = some 4) : oE d 71 14 [l0, l1] (.inr (.inr (.inl a)) :: S) σ Q = oE d 71 17 [l0, l1] (.inr (.inr (.inl (oRf a 1))) :: S) σ Q := pGfR f_71_14 ow_71 fl_4_9 rfl (by decide) hk
theorem f_71_17 : oFet 71 17 = some (.iconst 0, 1) := by decide +kernel
theorem s_71_17 {d : Nat} {l0 l1 : oV} {S : List oV} {σ : oSg} {Q : Option oV → (Nat → oC) → Prop} : oE d 71 17 [l0, l1] S σ Q = oE d 71 18 [l0, l1] (.inl (0) :: S) σ Q := pKst f_71_17 (by decide)
theorem f_71_18 : oFet 71 18 = some (.bipush 49, 2) := by decide +kernel
theorem s_71_18 {d : Nat} {l0 l1 : oV} {S : List oV} {σ : oSg} {Q : Option oV → (Nat → oC) → Prop} : oE d 71 18 [l0, l1] S σ Q = oE d 71 20 [l0, l1] (.inl (49) :: S) σ Q := pBip f_71_18 (by decide)
theorem f_71_20 : oFet 71 20 = some (.invokestatic 63, 3) := by decide +kernel
theorem s_71_20 {d : Nat} {l0 l1 : oV} {a b : Nat} {sp dp n : Int} {S : List oV} {σ : oSg} {Q : Option oV → (Nat → oC) → Prop} (ha : oAk a = some 0) (hb : oAk b = some 0) (hs : oSmall S = true) (g1 : 0 ≤ sp) (g2 : 0 ≤ dp) (g3 : 0 ≤ n) (g4 : sp + n ≤ (oLn a : Int)) (g5 : dp + n ≤ (oLn b : Int)) : oE d 71 20 [l0, l1] (.inl n :: .inl dp :: .inr (.inr (.inl b)) :: .inl sp :: .inr (.inr (.inl a)) :: S) σ Q = oE d 71 23 [l0, l1] S (oCp σ a sp b dp n) Q := pCpy f_71_20 ow_71 lk_4_63 ha hb (by decide) hs g1 g2 g3 g4 g5
theorem f_71_23 : oFet 71 23 = some (.return_, 1) := by decide +kernel
theorem s_71_23 {d : Nat} {l0 l1 : oV} {σ : oSg} {Q : Option oV → (Nat → oC) → Prop} : oE d 71 23 [l0, l1] [] σ Q = Q none (oBld σ) := oVret f_71_23 rt_71
theorem ow_72 : (oMt 72).2.2.2.2.1 = 4 := by decide +kernel
theorem rt_72 : (oMt 72).2.2.2.1 = none := by decide +kernel
theorem nl_72 : (oMt 72).2.2.1 = 4 := by decide +kernel
theorem f_72_0 : oFet 72 0 = some (.iconst 0, 1) := by decide +kernel
theorem s_72_0 {d : Nat} {l0 l1 l2 l3 : oV} {S : List oV} {σ : oSg} {Q : Option oV → (Nat → oC) → Prop} : oE d 72 0 [l0, l1, l2, l3] S σ Q = oE d 72 1 [l0, l1, l2, l3] (.inl (0) :: S) σ Q := pKst f_72_0 (by decide)
theorem f_72_1 : oFet 72 1 = some (.istore_n 3, 1) := by decide +kernel
theorem s_72_1 {d : Nat} {l0 l1 l2 l3 : oV} {x : Int} {S : List oV} {σ : oSg} {Q : Option oV → (Nat → oC) → Prop} (c3 : oCat l3 = 1) (c2 : oCat l2 = 1)  : oE d 72 1 [l0, l1, l2, l3] (.inl x :: S) σ Q = oE d 72 2 [l0, l1, l2, .inl x] S σ Q := pSt (i := 3) f_72_1 rfl rfl (show (3 : Nat) < 4 by decide) (oC1n c2) (oC1n c3) rfl
theorem f_72_2 : oFet 72 2 = some (.iload_n 3, 1) := by decide +kernel
theorem s_72_2 {d : Nat} {l0 l1 l2 : oV} {x : Int} {S : List oV} {σ : oSg} {Q : Option oV → (Nat → oC) → Prop} : oE d 72 2 [l0, l1, l2, .inl x] S σ Q = oE d 72 3 [l0, l1, l2, .inl x] (.inl x :: S) σ Q := pLdN (k := 3) f_72_2 rfl rfl rfl
theorem f_72_3 : oFet 72 3 = some (.aload_n 0, 1) := by decide +kernel
theorem s_72_3 {d : Nat} {l1 l2 l3 : oV} {a : Nat} {S : List oV} {σ : oSg} {Q : Option oV → (Nat → oC) → Prop} : oE d 72 3 [.inr (.inr (.inl a)), l1, l2, l3] S σ Q = oE d 72 4 [.inr (.inr (.inl a)), l1, l2, l3] (.inr (.inr (.inl a)) :: S) σ Q := pLdN (k := 0) f_72_3 rfl rfl rfl
theorem f_72_4 : oFet 72 4 = some (.getfield 15, 3) := by decide +kernel
theorem s_72_4 {d : Nat} {l0 l1 l2 l3 : oV} {a : Nat} {S : List oV} {σ : oSg} {Q : Option oV → (Nat → oC) → Prop} (hk : oKd a = some 4) : oE d 72 4 [l0, l1, l2, l3] (.inr (.inr (.inl a)) :: S) σ Q = oE d 72 7 [l0, l1, l2, l3] (.inl (σ.1 a 0) :: S) σ Q := pGfI f_72_4 ow_72 fl_4_15 rfl (by decide) hk
theorem f_72_7 : oFet 72 7 = some (.if_icmp .ge 32, 3) := by decide +kernel
theorem s_72_7 {d : Nat} {l0 l1 l2 l3 : oV} {x y : Int} {S : List oV} {σ : oSg} {Q : Option oV → (Nat → oC) → Prop} : oE d 72 7 [l0, l1, l2, l3] (.inl y :: .inl x :: S) σ Q = if y ≤ x then oE d 72 39 [l0, l1, l2, l3] S σ Q else oE d 72 10 [l0, l1, l2, l3] S σ Q := oCmpGe f_72_7 (by decide)
theorem f_72_10 : oFet 72 10 = some (.aload_n 0, 1) := by decide +kernel
theorem s_72_10 {d : Nat} {l1 l2 l3 : oV} {a : Nat} {S : List oV} {σ : oSg} {Q : Option oV → (Nat → oC) → Prop} : oE d 72 10 [.inr (.inr (.inl a)), l1, l2, l3] S σ Q = oE d 72 11 [.inr (.inr (.inl a)), l1, l2, l3] (.inr (.inr (.inl a)) :: S) σ Q := pLdN (k := 0) f_72_10 rfl rfl rfl
theorem f_72_11 : oFet 72 11 = some (.iload_n 1, 1) := by decide +kernel
theorem s_72_11 {d : Nat} {l0 l2 l3 : oV} {x : Int} {S : List oV} {σ : oSg} {Q : Option oV → (Nat → oC) → Prop} : oE d 72 11 [l0, .inl x, l2, l3] S σ Q = oE d 72 12 [l0, .inl x, l2, l3] (.inl x :: S) σ Q := pLdN (k := 1) f_72_11 rfl rfl rfl
theorem f_72_12 : oFet 72 12 = some (.iload_n 3, 1) := by decide +kernel
theorem s_72_12 {d : Nat} {l0 l1 l2 : oV} {x : Int} {S : List oV} {σ : oSg} {Q : Option oV → (Nat → oC) → Prop} : oE d 72 12 [l0, l1, l2, .inl x] S σ Q = oE d 72 13 [l0, l1, l2, .inl x] (.inl x :: S) σ Q := pLdN (k := 3) f_72_12 rfl rfl rfl
theorem f_72_13 : oFet 72 13 = some (.invokevirtual 44, 3) := by decide +kernel
theorem c_72_13 {d : Nat} {l0 l1 l2 l3 : oV} {x0 x1 : oV} {a : Nat} {v : Option oV} {τ : oSg} {S : List oV} {σ : oSg} {Q : Option oV → (Nat → oC) → Prop} (hm : oMi d 22 [.inr (.inr (.inl a)), x0, x1] σ v τ) (hk : oKd a = some 4) (hs : oSmall S = true) : oE d 72 13 [l0, l1, l2, l3] (x1 :: x0 :: .inr (.inr (.inl a)) :: S) σ Q = oE d 72 16 [l0, l1, l2, l3] (v.toList ++ S) τ Q := pCallV f_72_13 ow_72 lk_4_44 mt_22 rfl rfl rfl hk hs hm
theorem f_72_16 : oFet 72 16 = some (.ifCond .eq 17, 3) := by decide +kernel
theorem s_72_16 {d : Nat} {l0 l1 l2 l3 : oV} {x : Int} {S : List oV} {σ : oSg} {Q : Option oV → (Nat → oC) → Prop} : oE d 72 16 [l0, l1, l2, l3] (.inl x :: S) σ Q = if x = 0 then oE d 72 33 [l0, l1, l2, l3] S σ Q else oE d 72 19 [l0, l1, l2, l3] S σ Q := oIfEq f_72_16 (by decide)
theorem f_72_19 : oFet 72 19 = some (.aload_n 0, 1) := by decide +kernel
theorem s_72_19 {d : Nat} {l1 l2 l3 : oV} {a : Nat} {S : List oV} {σ : oSg} {Q : Option oV → (Nat → oC) → Prop} : oE d 72 19 [.inr (.inr (.inl a)), l1, l2, l3] S σ Q = oE d 72 20 [.inr (.inr (.inl a)), l1, l2, l3] (.inr (.inr (.inl a)) :: S) σ Q := pLdN (k := 0) f_72_19 rfl rfl rfl
theorem f_72_20 : oFet 72 20 = some (.iload_n 2, 1) := by decide +kernel
theorem s_72_20 {d : Nat} {l0 l1 l3 : oV} {x : Int} {S : List oV} {σ : oSg} {Q : Option oV → (Nat → oC) → Prop} : oE d 72 20 [l0, l1, .inl x, l3] S σ Q = oE d 72 21 [l0, l1, .inl x, l3] (.inl x :: S) σ Q := pLdN (k := 2) f_72_20 rfl rfl rfl
theorem f_72_21 : oFet 72 21 = some (.iload_n 3, 1) := by decide +kernel
theorem s_72_21 {d : Nat} {l0 l1 l2 : oV} {x : Int} {S : List oV} {σ : oSg} {Q : Option oV → (Nat → oC) → Prop} : oE d 72 21 [l0, l1, l2, .inl x] S σ Q = oE d 72 22 [l0, l1, l2, .inl x] (.inl x :: S) σ Q := pLdN (k := 3) f_72_21 rfl rfl rfl
theorem f_72_22 : oFet 72 22 = some (.iconst 1, 1) := by decide +kernel
theorem s_72_22 {d : Nat} {l0 l1 l2 l3 : oV} {S : List oV} {σ : oSg} {Q : Option oV → (Nat → oC) → Prop} : oE d 72 22 [l0, l1, l2, l3] S σ Q = oE d 72 23 [l0, l1, l2, l3] (.inl (1) :: S) σ Q := pKst f_72_22 (by decide)
theorem f_72_23 : oFet 72 23 = some (.invokevirtual 52, 3) := by decide +kernel
theorem c_72_23 {d : Nat} {l0 l1 l2 l3 : oV} {x0 x1 x2 : oV} {a : Nat} {v : Option oV} {τ : oSg} {S : List oV} {σ : oSg} {Q : Option oV → (Nat → oC) → Prop} (hm : oMi d 17 [.inr (.inr (.inl a)), x0, x1, x2] σ v τ) (hk : oKd a = some 4) (hs : oSmall S = true) : oE d 72 23 [l0, l1, l2, l3] (x2 :: x1 :: x0 :: .inr (.inr (.inl a)) :: S) σ Q = oE d 72 26 [l0, l1, l2, l3] (v.toList ++ S) τ Q := pCallV f_72_23 ow_72 lk_4_52 mt_17 rfl rfl rfl hk hs hm
theorem f_72_26 : oFet 72 26 = some (.aload_n 0, 1) := by decide +kernel
theorem s_72_26 {d : Nat} {l1 l2 l3 : oV} {a : Nat} {S : List oV} {σ : oSg} {Q : Option oV → (Nat → oC) → Prop} : oE d 72 26 [.inr (.inr (.inl a)), l1, l2, l3] S σ Q = oE d 72 27 [.inr (.inr (.inl a)), l1, l2, l3] (.inr (.inr (.inl a)) :: S) σ Q := pLdN (k := 0) f_72_26 rfl rfl rfl
theorem f_72_27 : oFet 72 27 = some (.iload_n 1, 1) := by decide +kernel
theorem s_72_27 {d : Nat} {l0 l2 l3 : oV} {x : Int} {S : List oV} {σ : oSg} {Q : Option oV → (Nat → oC) → Prop} : oE d 72 27 [l0, .inl x, l2, l3] S σ Q = oE d 72 28 [l0, .inl x, l2, l3] (.inl x :: S) σ Q := pLdN (k := 1) f_72_27 rfl rfl rfl
theorem f_72_28 : oFet 72 28 = some (.iload_n 3, 1) := by decide +kernel
theorem s_72_28 {d : Nat} {l0 l1 l2 : oV} {x : Int} {S : List oV} {σ : oSg} {Q : Option oV → (Nat → oC) → Prop} : oE d 72 28 [l0, l1, l2, .inl x] S σ Q = oE d 72 29 [l0, l1, l2, .inl x] (.inl x :: S) σ Q := pLdN (k := 3) f_72_28 rfl rfl rfl
theorem f_72_29 : oFet 72 29 = some (.iconst 0, 1) := by decide +kernel
theorem s_72_29 {d : Nat} {l0 l1 l2 l3 : oV} {S : List oV} {σ : oSg} {Q : Option oV → (Nat → oC) → Prop} : oE d 72 29 [l0, l1, l2, l3] S σ Q = oE d 72 30 [l0, l1, l2, l3] (.inl (0) :: S) σ Q := pKst f_72_29 (by decide)
theorem f_72_30 : oFet 72 30 = some (.invokevirtual 52, 3) := by decide +kernel
theorem c_72_30 {d : Nat} {l0 l1 l2 l3 : oV} {x0 x1 x2 : oV} {a : Nat} {v : Option oV} {τ : oSg} {S : List oV} {σ : oSg} {Q : Option oV → (Nat → oC) → Prop} (hm : oMi d 17 [.inr (.inr (.inl a)), x0, x1, x2] σ v τ) (hk : oKd a = some 4) (hs : oSmall S = true) : oE d 72 30 [l0, l1, l2, l3] (x2 :: x1 :: x0 :: .inr (.inr (.inl a)) :: S) σ Q = oE d 72 33 [l0, l1, l2, l3] (v.toList ++ S) τ Q := pCallV f_72_30 ow_72 lk_4_52 mt_17 rfl rfl rfl hk hs hm
theorem f_72_33 : oFet 72 33 = some (.iinc 3 1, 3) := by decide +kernel
theorem s_72_33 {d : Nat} {l0 l1 l2 : oV} {x : Int} {S : List oV} {σ : oSg} {Q : Option oV → (Nat → oC) → Prop} (c2 : oCat l2 = 1)  : oE d 72 33 [l0, l1, l2, .inl x] S σ Q = oE d 72 36 [l0, l1, l2, .inl (oAdd x (1))] S σ Q := pInc f_72_33 rfl (show (3 : Nat) < 4 by decide) (oC1n c2) (oC1n (v := .inl x) rfl) rfl
theorem f_72_36 : oFet 72 36 = some (.goto (-34), 3) := by decide +kernel
theorem s_72_36 {d : Nat} {l0 l1 l2 l3 : oV} {S : List oV} {σ : oSg} {Q : Option oV → (Nat → oC) → Prop} : oE d 72 36 [l0, l1, l2, l3] S σ Q = oE d 72 2 [l0, l1, l2, l3] S σ Q := pGoto f_72_36 (by decide)
theorem f_72_39 : oFet 72 39 = some (.return_, 1) := by decide +kernel
theorem s_72_39 {d : Nat} {l0 l1 l2 l3 : oV} {σ : oSg} {Q : Option oV → (Nat → oC) → Prop} : oE d 72 39 [l0, l1, l2, l3] [] σ Q = Q none (oBld σ) := oVret f_72_39 rt_72
theorem ow_73 : (oMt 73).2.2.2.2.1 = 10 := by decide +kernel
theorem rt_73 : (oMt 73).2.2.2.1 = some .int := by decide +kernel
theorem nl_73 : (oMt 73).2.2.1 = 3 := by decide +kernel
theorem f_73_0 : oFet 73 0 = some (.iload_n 1, 1) := by decide +kernel
theorem s_73_0 {d : Nat} {l0 l2 : oV} {x : Int} {S : List oV} {σ : oSg} {Q : Option oV → (Nat → oC) → Prop} : oE d 73 0 [l0, .inl x, l2] S σ Q = oE d 73 1 [l0, .inl x, l2] (.inl x :: S) σ Q := pLdN (k := 1) f_73_0 rfl rfl rfl
theorem f_73_1 : oFet 73 1 = some (.invokestatic 121, 3) := by decide +kernel
theorem c_73_1 {d : Nat} {l0 l1 l2 : oV} {x0 : oV} {v : Option oV} {τ : oSg} {S : List oV} {σ : oSg} {Q : Option oV → (Nat → oC) → Prop} (hm : oMi d 32 [x0] σ v τ) (hs : oSmall S = true) : oE d 73 1 [l0, l1, l2] (x0 :: S) σ Q = oE d 73 4 [l0, l1, l2] (v.toList ++ S) τ Q := pCallS f_73_1 ow_73 lk_10_121 mt_32 rfl rfl rfl hs hm
theorem f_73_4 : oFet 73 4 = some (.ifCond .ne 6, 3) := by decide +kernel
theorem s_73_4 {d : Nat} {l0 l1 l2 : oV} {x : Int} {S : List oV} {σ : oSg} {Q : Option oV → (Nat → oC) → Prop} : oE d 73 4 [l0, l1, l2] (.inl x :: S) σ Q = if ¬ x = 0 then oE d 73 10 [l0, l1, l2] S σ Q else oE d 73 7 [l0, l1, l2] S σ Q := oIfNe f_73_4 (by decide)
theorem f_73_7 : oFet 73 7 = some (.bipush (-2), 2) := by decide +kernel
theorem s_73_7 {d : Nat} {l0 l1 l2 : oV} {S : List oV} {σ : oSg} {Q : Option oV → (Nat → oC) → Prop} : oE d 73 7 [l0, l1, l2] S σ Q = oE d 73 9 [l0, l1, l2] (.inl (-2) :: S) σ Q := pBip f_73_7 (by decide)
theorem f_73_9 : oFet 73 9 = some (.ireturn, 1) := by decide +kernel
theorem s_73_9 {d : Nat} {l0 l1 l2 : oV} {x : Int} {σ : oSg} {Q : Option oV → (Nat → oC) → Prop} : oE d 73 9 [l0, l1, l2] [.inl x] σ Q = Q (some (.inl x)) (oBld σ) := oIret f_73_9 rt_73
theorem f_73_10 : oFet 73 10 = some (.aload_n 0, 1) := by decide +kernel
theorem s_73_10 {d : Nat} {l1 l2 : oV} {a : Nat} {S : List oV} {σ : oSg} {Q : Option oV → (Nat → oC) → Prop} : oE d 73 10 [.inr (.inr (.inl a)), l1, l2] S σ Q = oE d 73 11 [.inr (.inr (.inl a)), l1, l2] (.inr (.inr (.inl a)) :: S) σ Q := pLdN (k := 0) f_73_10 rfl rfl rfl
theorem f_73_11 : oFet 73 11 = some (.getfield 12, 3) := by decide +kernel
theorem s_73_11 {d : Nat} {l0 l1 l2 : oV} {a : Nat} {S : List oV} {σ : oSg} {Q : Option oV → (Nat → oC) → Prop} (hk : oKd a = some 10) : oE d 73 11 [l0, l1, l2] (.inr (.inr (.inl a)) :: S) σ Q = oE d 73 14 [l0, l1, l2] (.inr (.inr (.inl (oRf a 0))) :: S) σ Q := pGfR f_73_11 ow_73 fl_10_12 rfl (by decide) hk
theorem f_73_14 : oFet 73 14 = some (.getfield 73, 3) := by decide +kernel
theorem s_73_14 {d : Nat} {l0 l1 l2 : oV} {a : Nat} {S : List oV} {σ : oSg} {Q : Option oV → (Nat → oC) → Prop} (hk : oKd a = some 1) : oE d 73 14 [l0, l1, l2] (.inr (.inr (.inl a)) :: S) σ Q = oE d 73 17 [l0, l1, l2] (.inr (.inr (.inl (oRf a 0))) :: S) σ Q := pGfR f_73_14 ow_73 fl_10_73 rfl (by decide) hk
theorem f_73_17 : oFet 73 17 = some (.iload_n 2, 1) := by decide +kernel
theorem s_73_17 {d : Nat} {l0 l1 : oV} {x : Int} {S : List oV} {σ : oSg} {Q : Option oV → (Nat → oC) → Prop} : oE d 73 17 [l0, l1, .inl x] S σ Q = oE d 73 18 [l0, l1, .inl x] (.inl x :: S) σ Q := pLdN (k := 2) f_73_17 rfl rfl rfl
theorem f_73_18 : oFet 73 18 = some (.invokevirtual 115, 3) := by decide +kernel
theorem c_73_18 {d : Nat} {l0 l1 l2 : oV} {x0 : oV} {a : Nat} {v : Option oV} {τ : oSg} {S : List oV} {σ : oSg} {Q : Option oV → (Nat → oC) → Prop} (hm : oMi d 15 [.inr (.inr (.inl a)), x0] σ v τ) (hk : oKd a = some 4) (hs : oSmall S = true) : oE d 73 18 [l0, l1, l2] (x0 :: .inr (.inr (.inl a)) :: S) σ Q = oE d 73 21 [l0, l1, l2] (v.toList ++ S) τ Q := pCallV f_73_18 ow_73 lk_10_115 mt_15 rfl rfl rfl hk hs hm
theorem f_73_21 : oFet 73 21 = some (.ifCond .ne 5, 3) := by decide +kernel
theorem s_73_21 {d : Nat} {l0 l1 l2 : oV} {x : Int} {S : List oV} {σ : oSg} {Q : Option oV → (Nat → oC) → Prop} : oE d 73 21 [l0, l1, l2] (.inl x :: S) σ Q = if ¬ x = 0 then oE d 73 26 [l0, l1, l2] S σ Q else oE d 73 24 [l0, l1, l2] S σ Q := oIfNe f_73_21 (by decide)
theorem f_73_24 : oFet 73 24 = some (.iconst (-1), 1) := by decide +kernel
theorem s_73_24 {d : Nat} {l0 l1 l2 : oV} {S : List oV} {σ : oSg} {Q : Option oV → (Nat → oC) → Prop} : oE d 73 24 [l0, l1, l2] S σ Q = oE d 73 25 [l0, l1, l2] (.inl (-1) :: S) σ Q := pKst f_73_24 (by decide)
theorem f_73_25 : oFet 73 25 = some (.ireturn, 1) := by decide +kernel
theorem s_73_25 {d : Nat} {l0 l1 l2 : oV} {x : Int} {σ : oSg} {Q : Option oV → (Nat → oC) → Prop} : oE d 73 25 [l0, l1, l2] [.inl x] σ Q = Q (some (.inl x)) (oBld σ) := oIret f_73_25 rt_73
theorem f_73_26 : oFet 73 26 = some (.aload_n 0, 1) := by decide +kernel
theorem s_73_26 {d : Nat} {l1 l2 : oV} {a : Nat} {S : List oV} {σ : oSg} {Q : Option oV → (Nat → oC) → Prop} : oE d 73 26 [.inr (.inr (.inl a)), l1, l2] S σ Q = oE d 73 27 [.inr (.inr (.inl a)), l1, l2] (.inr (.inr (.inl a)) :: S) σ Q := pLdN (k := 0) f_73_26 rfl rfl rfl
theorem f_73_27 : oFet 73 27 = some (.getfield 45, 3) := by decide +kernel
theorem s_73_27 {d : Nat} {l0 l1 l2 : oV} {a : Nat} {S : List oV} {σ : oSg} {Q : Option oV → (Nat → oC) → Prop} (hk : oKd a = some 10) : oE d 73 27 [l0, l1, l2] (.inr (.inr (.inl a)) :: S) σ Q = oE d 73 30 [l0, l1, l2] (.inr (.inr (.inl (oRf a 6))) :: S) σ Q := pGfR f_73_27 ow_73 fl_10_45 rfl (by decide) hk
theorem f_73_30 : oFet 73 30 = some (.aload_n 0, 1) := by decide +kernel
theorem s_73_30 {d : Nat} {l1 l2 : oV} {a : Nat} {S : List oV} {σ : oSg} {Q : Option oV → (Nat → oC) → Prop} : oE d 73 30 [.inr (.inr (.inl a)), l1, l2] S σ Q = oE d 73 31 [.inr (.inr (.inl a)), l1, l2] (.inr (.inr (.inl a)) :: S) σ Q := pLdN (k := 0) f_73_30 rfl rfl rfl
theorem f_73_31 : oFet 73 31 = some (.getfield 12, 3) := by decide +kernel
theorem s_73_31 {d : Nat} {l0 l1 l2 : oV} {a : Nat} {S : List oV} {σ : oSg} {Q : Option oV → (Nat → oC) → Prop} (hk : oKd a = some 10) : oE d 73 31 [l0, l1, l2] (.inr (.inr (.inl a)) :: S) σ Q = oE d 73 34 [l0, l1, l2] (.inr (.inr (.inl (oRf a 0))) :: S) σ Q := pGfR f_73_31 ow_73 fl_10_12 rfl (by decide) hk
theorem f_73_34 : oFet 73 34 = some (.getfield 73, 3) := by decide +kernel
theorem s_73_34 {d : Nat} {l0 l1 l2 : oV} {a : Nat} {S : List oV} {σ : oSg} {Q : Option oV → (Nat → oC) → Prop} (hk : oKd a = some 1) : oE d 73 34 [l0, l1, l2] (.inr (.inr (.inl a)) :: S) σ Q = oE d 73 37 [l0, l1, l2] (.inr (.inr (.inl (oRf a 0))) :: S) σ Q := pGfR f_73_34 ow_73 fl_10_73 rfl (by decide) hk
theorem f_73_37 : oFet 73 37 = some (.iload_n 1, 1) := by decide +kernel
theorem s_73_37 {d : Nat} {l0 l2 : oV} {x : Int} {S : List oV} {σ : oSg} {Q : Option oV → (Nat → oC) → Prop} : oE d 73 37 [l0, .inl x, l2] S σ Q = oE d 73 38 [l0, .inl x, l2] (.inl x :: S) σ Q := pLdN (k := 1) f_73_37 rfl rfl rfl
theorem f_73_38 : oFet 73 38 = some (.invokevirtual 124, 3) := by decide +kernel
theorem c_73_38 {d : Nat} {l0 l1 l2 : oV} {x0 x1 : oV} {a : Nat} {v : Option oV} {τ : oSg} {S : List oV} {σ : oSg} {Q : Option oV → (Nat → oC) → Prop} (hm : oMi d 33 [.inr (.inr (.inl a)), x0, x1] σ v τ) (hk : oKd a = some 3) (hs : oSmall S = true) : oE d 73 38 [l0, l1, l2] (x1 :: x0 :: .inr (.inr (.inl a)) :: S) σ Q = oE d 73 41 [l0, l1, l2] (v.toList ++ S) τ Q := pCallV f_73_38 ow_73 lk_10_124 mt_33 rfl rfl rfl hk hs hm
theorem f_73_41 : oFet 73 41 = some (.aload_n 0, 1) := by decide +kernel
theorem s_73_41 {d : Nat} {l1 l2 : oV} {a : Nat} {S : List oV} {σ : oSg} {Q : Option oV → (Nat → oC) → Prop} : oE d 73 41 [.inr (.inr (.inl a)), l1, l2] S σ Q = oE d 73 42 [.inr (.inr (.inl a)), l1, l2] (.inr (.inr (.inl a)) :: S) σ Q := pLdN (k := 0) f_73_41 rfl rfl rfl
theorem f_73_42 : oFet 73 42 = some (.getfield 45, 3) := by decide +kernel
theorem s_73_42 {d : Nat} {l0 l1 l2 : oV} {a : Nat} {S : List oV} {σ : oSg} {Q : Option oV → (Nat → oC) → Prop} (hk : oKd a = some 10) : oE d 73 42 [l0, l1, l2] (.inr (.inr (.inl a)) :: S) σ Q = oE d 73 45 [l0, l1, l2] (.inr (.inr (.inl (oRf a 6))) :: S) σ Q := pGfR f_73_42 ow_73 fl_10_45 rfl (by decide) hk
theorem f_73_45 : oFet 73 45 = some (.iload_n 2, 1) := by decide +kernel
theorem s_73_45 {d : Nat} {l0 l1 : oV} {x : Int} {S : List oV} {σ : oSg} {Q : Option oV → (Nat → oC) → Prop} : oE d 73 45 [l0, l1, .inl x] S σ Q = oE d 73 46 [l0, l1, .inl x] (.inl x :: S) σ Q := pLdN (k := 2) f_73_45 rfl rfl rfl
theorem f_73_46 : oFet 73 46 = some (.invokevirtual 215, 3) := by decide +kernel
theorem c_73_46 {d : Nat} {l0 l1 l2 : oV} {x0 : oV} {a : Nat} {v : Option oV} {τ : oSg} {S : List oV} {σ : oSg} {Q : Option oV → (Nat → oC) → Prop} (hm : oMi d 41 [.inr (.inr (.inl a)), x0] σ v τ) (hk : oKd a = some 3) (hs : oSmall S = true) : oE d 73 46 [l0, l1, l2] (x0 :: .inr (.inr (.inl a)) :: S) σ Q = oE d 73 49 [l0, l1, l2] (v.toList ++ S) τ Q := pCallV f_73_46 ow_73 lk_10_215 mt_41 rfl rfl rfl hk hs hm
theorem f_73_49 : oFet 73 49 = some (.invokestatic 118, 3) := by decide +kernel
theorem c_73_49 {d : Nat} {l0 l1 l2 : oV} {x0 : oV} {v : Option oV} {τ : oSg} {S : List oV} {σ : oSg} {Q : Option oV → (Nat → oC) → Prop} (hm : oMi d 30 [x0] σ v τ) (hs : oSmall S = true) : oE d 73 49 [l0, l1, l2] (x0 :: S) σ Q = oE d 73 52 [l0, l1, l2] (v.toList ++ S) τ Q := pCallS f_73_49 ow_73 lk_10_118 mt_30 rfl rfl rfl hs hm
theorem f_73_52 : oFet 73 52 = some (.ireturn, 1) := by decide +kernel
theorem s_73_52 {d : Nat} {l0 l1 l2 : oV} {x : Int} {σ : oSg} {Q : Option oV → (Nat → oC) → Prop} : oE d 73 52 [l0, l1, l2] [.inl x] σ Q = Q (some (.inl x)) (oBld σ) := oIret f_73_52 rt_73
theorem ow_74 : (oMt 74).2.2.2.2.1 = 10 := by decide +kernel
theorem rt_74 : (oMt 74).2.2.2.1 = some .int := by decide +kernel
theorem nl_74 : (oMt 74).2.2.1 = 2 := by decide +kernel
theorem f_74_0 : oFet 74 0 = some (.iload_n 1, 1) := by decide +kernel
theorem s_74_0 {d : Nat} {l0 : oV} {x : Int} {S : List oV} {σ : oSg} {Q : Option oV → (Nat → oC) → Prop} : oE d 74 0 [l0, .inl x] S σ Q = oE d 74 1 [l0, .inl x] (.inl x :: S) σ Q := pLdN (k := 1) f_74_0 rfl rfl rfl
theorem f_74_1 : oFet 74 1 = some (.tableswitch 211 0 10 #[59, 70, 81, 89, 97, 118, 118, 156, 156, 195, 203], 59) := by decide +kernel
theorem s_74_1_0 {d : Nat} {l0 l1 : oV} {S : List oV} {σ : oSg} {Q : Option oV → (Nat → oC) → Prop} : oE d 74 1 [l0, l1] (.inl (0) :: S) σ Q = oE d 74 60 [l0, l1] S σ Q := oTabIn f_74_1 (by decide) rfl (by decide)
theorem s_74_1_1 {d : Nat} {l0 l1 : oV} {S : List oV} {σ : oSg} {Q : Option oV → (Nat → oC) → Prop} : oE d 74 1 [l0, l1] (.inl (1) :: S) σ Q = oE d 74 71 [l0, l1] S σ Q := oTabIn f_74_1 (by decide) rfl (by decide)
theorem s_74_1_2 {d : Nat} {l0 l1 : oV} {S : List oV} {σ : oSg} {Q : Option oV → (Nat → oC) → Prop} : oE d 74 1 [l0, l1] (.inl (2) :: S) σ Q = oE d 74 82 [l0, l1] S σ Q := oTabIn f_74_1 (by decide) rfl (by decide)
theorem s_74_1_3 {d : Nat} {l0 l1 : oV} {S : List oV} {σ : oSg} {Q : Option oV → (Nat → oC) → Prop} : oE d 74 1 [l0, l1] (.inl (3) :: S) σ Q = oE d 74 90 [l0, l1] S σ Q := oTabIn f_74_1 (by decide) rfl (by decide)
theorem s_74_1_4 {d : Nat} {l0 l1 : oV} {S : List oV} {σ : oSg} {Q : Option oV → (Nat → oC) → Prop} : oE d 74 1 [l0, l1] (.inl (4) :: S) σ Q = oE d 74 98 [l0, l1] S σ Q := oTabIn f_74_1 (by decide) rfl (by decide)
theorem s_74_1_5 {d : Nat} {l0 l1 : oV} {S : List oV} {σ : oSg} {Q : Option oV → (Nat → oC) → Prop} : oE d 74 1 [l0, l1] (.inl (5) :: S) σ Q = oE d 74 119 [l0, l1] S σ Q := oTabIn f_74_1 (by decide) rfl (by decide)
theorem s_74_1_6 {d : Nat} {l0 l1 : oV} {S : List oV} {σ : oSg} {Q : Option oV → (Nat → oC) → Prop} : oE d 74 1 [l0, l1] (.inl (6) :: S) σ Q = oE d 74 119 [l0, l1] S σ Q := oTabIn f_74_1 (by decide) rfl (by decide)
theorem s_74_1_7 {d : Nat} {l0 l1 : oV} {S : List oV} {σ : oSg} {Q : Option oV → (Nat → oC) → Prop} : oE d 74 1 [l0, l1] (.inl (7) :: S) σ Q = oE d 74 157 [l0, l1] S σ Q := oTabIn f_74_1 (by decide) rfl (by decide)
theorem s_74_1_8 {d : Nat} {l0 l1 : oV} {S : List oV} {σ : oSg} {Q : Option oV → (Nat → oC) → Prop} : oE d 74 1 [l0, l1] (.inl (8) :: S) σ Q = oE d 74 157 [l0, l1] S σ Q := oTabIn f_74_1 (by decide) rfl (by decide)
theorem s_74_1_9 {d : Nat} {l0 l1 : oV} {S : List oV} {σ : oSg} {Q : Option oV → (Nat → oC) → Prop} : oE d 74 1 [l0, l1] (.inl (9) :: S) σ Q = oE d 74 196 [l0, l1] S σ Q := oTabIn f_74_1 (by decide) rfl (by decide)
theorem s_74_1_10 {d : Nat} {l0 l1 : oV} {S : List oV} {σ : oSg} {Q : Option oV → (Nat → oC) → Prop} : oE d 74 1 [l0, l1] (.inl (10) :: S) σ Q = oE d 74 204 [l0, l1] S σ Q := oTabIn f_74_1 (by decide) rfl (by decide)
theorem s_74_1_d {d : Nat} {l0 l1 : oV} {x : Int} {S : List oV} {σ : oSg} {Q : Option oV → (Nat → oC) → Prop} (hx : x < 0 ∨ 10 < x) : oE d 74 1 [l0, l1] (.inl x :: S) σ Q = oE d 74 212 [l0, l1] S σ Q := oTabOut f_74_1 hx (by decide)
theorem f_74_60 : oFet 74 60 = some (.aload_n 0, 1) := by decide +kernel
theorem s_74_60 {d : Nat} {l1 : oV} {a : Nat} {S : List oV} {σ : oSg} {Q : Option oV → (Nat → oC) → Prop} : oE d 74 60 [.inr (.inr (.inl a)), l1] S σ Q = oE d 74 61 [.inr (.inr (.inl a)), l1] (.inr (.inr (.inl a)) :: S) σ Q := pLdN (k := 0) f_74_60 rfl rfl rfl
theorem f_74_61 : oFet 74 61 = some (.getfield 12, 3) := by decide +kernel
theorem s_74_61 {d : Nat} {l0 l1 : oV} {a : Nat} {S : List oV} {σ : oSg} {Q : Option oV → (Nat → oC) → Prop} (hk : oKd a = some 10) : oE d 74 61 [l0, l1] (.inr (.inr (.inl a)) :: S) σ Q = oE d 74 64 [l0, l1] (.inr (.inr (.inl (oRf a 0))) :: S) σ Q := pGfR f_74_61 ow_74 fl_10_12 rfl (by decide) hk
theorem f_74_64 : oFet 74 64 = some (.getfield 73, 3) := by decide +kernel
theorem s_74_64 {d : Nat} {l0 l1 : oV} {a : Nat} {S : List oV} {σ : oSg} {Q : Option oV → (Nat → oC) → Prop} (hk : oKd a = some 1) : oE d 74 64 [l0, l1] (.inr (.inr (.inl a)) :: S) σ Q = oE d 74 67 [l0, l1] (.inr (.inr (.inl (oRf a 0))) :: S) σ Q := pGfR f_74_64 ow_74 fl_10_73 rfl (by decide) hk
theorem f_74_67 : oFet 74 67 = some (.getfield 76, 3) := by decide +kernel
theorem s_74_67 {d : Nat} {l0 l1 : oV} {a : Nat} {S : List oV} {σ : oSg} {Q : Option oV → (Nat → oC) → Prop} (hk : oKd a = some 4) : oE d 74 67 [l0, l1] (.inr (.inr (.inl a)) :: S) σ Q = oE d 74 70 [l0, l1] (.inl (σ.1 a 0) :: S) σ Q := pGfI f_74_67 ow_74 fl_10_76 rfl (by decide) hk
theorem f_74_70 : oFet 74 70 = some (.ireturn, 1) := by decide +kernel
theorem s_74_70 {d : Nat} {l0 l1 : oV} {x : Int} {σ : oSg} {Q : Option oV → (Nat → oC) → Prop} : oE d 74 70 [l0, l1] [.inl x] σ Q = Q (some (.inl x)) (oBld σ) := oIret f_74_70 rt_74
theorem f_74_71 : oFet 74 71 = some (.aload_n 0, 1) := by decide +kernel
theorem s_74_71 {d : Nat} {l1 : oV} {a : Nat} {S : List oV} {σ : oSg} {Q : Option oV → (Nat → oC) → Prop} : oE d 74 71 [.inr (.inr (.inl a)), l1] S σ Q = oE d 74 72 [.inr (.inr (.inl a)), l1] (.inr (.inr (.inl a)) :: S) σ Q := pLdN (k := 0) f_74_71 rfl rfl rfl
theorem f_74_72 : oFet 74 72 = some (.getfield 12, 3) := by decide +kernel
theorem s_74_72 {d : Nat} {l0 l1 : oV} {a : Nat} {S : List oV} {σ : oSg} {Q : Option oV → (Nat → oC) → Prop} (hk : oKd a = some 10) : oE d 74 72 [l0, l1] (.inr (.inr (.inl a)) :: S) σ Q = oE d 74 75 [l0, l1] (.inr (.inr (.inl (oRf a 0))) :: S) σ Q := pGfR f_74_72 ow_74 fl_10_12 rfl (by decide) hk
theorem f_74_75 : oFet 74 75 = some (.getfield 73, 3) := by decide +kernel
theorem s_74_75 {d : Nat} {l0 l1 : oV} {a : Nat} {S : List oV} {σ : oSg} {Q : Option oV → (Nat → oC) → Prop} (hk : oKd a = some 1) : oE d 74 75 [l0, l1] (.inr (.inr (.inl a)) :: S) σ Q = oE d 74 78 [l0, l1] (.inr (.inr (.inl (oRf a 0))) :: S) σ Q := pGfR f_74_75 ow_74 fl_10_73 rfl (by decide) hk
theorem f_74_78 : oFet 74 78 = some (.invokevirtual 216, 3) := by decide +kernel
theorem c_74_78 {d : Nat} {l0 l1 : oV} {a : Nat} {v : Option oV} {τ : oSg} {S : List oV} {σ : oSg} {Q : Option oV → (Nat → oC) → Prop} (hm : oMi d 75 [.inr (.inr (.inl a))] σ v τ) (hk : oKd a = some 4) (hs : oSmall S = true) : oE d 74 78 [l0, l1] (.inr (.inr (.inl a)) :: S) σ Q = oE d 74 81 [l0, l1] (v.toList ++ S) τ Q := pCallV f_74_78 ow_74 lk_10_216 mt_75 rfl rfl rfl hk hs hm
theorem f_74_81 : oFet 74 81 = some (.ireturn, 1) := by decide +kernel
theorem s_74_81 {d : Nat} {l0 l1 : oV} {x : Int} {σ : oSg} {Q : Option oV → (Nat → oC) → Prop} : oE d 74 81 [l0, l1] [.inl x] σ Q = Q (some (.inl x)) (oBld σ) := oIret f_74_81 rt_74
theorem f_74_82 : oFet 74 82 = some (.aload_n 0, 1) := by decide +kernel
theorem s_74_82 {d : Nat} {l1 : oV} {a : Nat} {S : List oV} {σ : oSg} {Q : Option oV → (Nat → oC) → Prop} : oE d 74 82 [.inr (.inr (.inl a)), l1] S σ Q = oE d 74 83 [.inr (.inr (.inl a)), l1] (.inr (.inr (.inl a)) :: S) σ Q := pLdN (k := 0) f_74_82 rfl rfl rfl
theorem f_74_83 : oFet 74 83 = some (.getfield 12, 3) := by decide +kernel
theorem s_74_83 {d : Nat} {l0 l1 : oV} {a : Nat} {S : List oV} {σ : oSg} {Q : Option oV → (Nat → oC) → Prop} (hk : oKd a = some 10) : oE d 74 83 [l0, l1] (.inr (.inr (.inl a)) :: S) σ Q = oE d 74 86 [l0, l1] (.inr (.inr (.inl (oRf a 0))) :: S) σ Q := pGfR f_74_83 ow_74 fl_10_12 rfl (by decide) hk
theorem f_74_86 : oFet 74 86 = some (.invokevirtual 111, 3) := by decide +kernel
theorem c_74_86 {d : Nat} {l0 l1 : oV} {a : Nat} {v : Option oV} {τ : oSg} {S : List oV} {σ : oSg} {Q : Option oV → (Nat → oC) → Prop} (hm : oMi d 25 [.inr (.inr (.inl a))] σ v τ) (hk : oKd a = some 1) (hs : oSmall S = true) : oE d 74 86 [l0, l1] (.inr (.inr (.inl a)) :: S) σ Q = oE d 74 89 [l0, l1] (v.toList ++ S) τ Q := pCallV f_74_86 ow_74 lk_10_111 mt_25 rfl rfl rfl hk hs hm
theorem f_74_89 : oFet 74 89 = some (.ireturn, 1) := by decide +kernel
theorem s_74_89 {d : Nat} {l0 l1 : oV} {x : Int} {σ : oSg} {Q : Option oV → (Nat → oC) → Prop} : oE d 74 89 [l0, l1] [.inl x] σ Q = Q (some (.inl x)) (oBld σ) := oIret f_74_89 rt_74
theorem f_74_90 : oFet 74 90 = some (.aload_n 0, 1) := by decide +kernel
theorem s_74_90 {d : Nat} {l1 : oV} {a : Nat} {S : List oV} {σ : oSg} {Q : Option oV → (Nat → oC) → Prop} : oE d 74 90 [.inr (.inr (.inl a)), l1] S σ Q = oE d 74 91 [.inr (.inr (.inl a)), l1] (.inr (.inr (.inl a)) :: S) σ Q := pLdN (k := 0) f_74_90 rfl rfl rfl
theorem f_74_91 : oFet 74 91 = some (.getfield 12, 3) := by decide +kernel
theorem s_74_91 {d : Nat} {l0 l1 : oV} {a : Nat} {S : List oV} {σ : oSg} {Q : Option oV → (Nat → oC) → Prop} (hk : oKd a = some 10) : oE d 74 91 [l0, l1] (.inr (.inr (.inl a)) :: S) σ Q = oE d 74 94 [l0, l1] (.inr (.inr (.inl (oRf a 0))) :: S) σ Q := pGfR f_74_91 ow_74 fl_10_12 rfl (by decide) hk
theorem f_74_94 : oFet 74 94 = some (.invokevirtual 219, 3) := by decide +kernel
theorem c_74_94 {d : Nat} {l0 l1 : oV} {a : Nat} {v : Option oV} {τ : oSg} {S : List oV} {σ : oSg} {Q : Option oV → (Nat → oC) → Prop} (hm : oMi d 77 [.inr (.inr (.inl a))] σ v τ) (hk : oKd a = some 1) (hs : oSmall S = true) : oE d 74 94 [l0, l1] (.inr (.inr (.inl a)) :: S) σ Q = oE d 74 97 [l0, l1] (v.toList ++ S) τ Q := pCallV f_74_94 ow_74 lk_10_219 mt_77 rfl rfl rfl hk hs hm
theorem f_74_97 : oFet 74 97 = some (.ireturn, 1) := by decide +kernel
theorem s_74_97 {d : Nat} {l0 l1 : oV} {x : Int} {σ : oSg} {Q : Option oV → (Nat → oC) → Prop} : oE d 74 97 [l0, l1] [.inl x] σ Q = Q (some (.inl x)) (oBld σ) := oIret f_74_97 rt_74
theorem f_74_98 : oFet 74 98 = some (.aload_n 0, 1) := by decide +kernel
theorem s_74_98 {d : Nat} {l1 : oV} {a : Nat} {S : List oV} {σ : oSg} {Q : Option oV → (Nat → oC) → Prop} : oE d 74 98 [.inr (.inr (.inl a)), l1] S σ Q = oE d 74 99 [.inr (.inr (.inl a)), l1] (.inr (.inr (.inl a)) :: S) σ Q := pLdN (k := 0) f_74_98 rfl rfl rfl
theorem f_74_99 : oFet 74 99 = some (.getfield 12, 3) := by decide +kernel
theorem s_74_99 {d : Nat} {l0 l1 : oV} {a : Nat} {S : List oV} {σ : oSg} {Q : Option oV → (Nat → oC) → Prop} (hk : oKd a = some 10) : oE d 74 99 [l0, l1] (.inr (.inr (.inl a)) :: S) σ Q = oE d 74 102 [l0, l1] (.inr (.inr (.inl (oRf a 0))) :: S) σ Q := pGfR f_74_99 ow_74 fl_10_12 rfl (by decide) hk
theorem f_74_102 : oFet 74 102 = some (.getfield 73, 3) := by decide +kernel
theorem s_74_102 {d : Nat} {l0 l1 : oV} {a : Nat} {S : List oV} {σ : oSg} {Q : Option oV → (Nat → oC) → Prop} (hk : oKd a = some 1) : oE d 74 102 [l0, l1] (.inr (.inr (.inl a)) :: S) σ Q = oE d 74 105 [l0, l1] (.inr (.inr (.inl (oRf a 0))) :: S) σ Q := pGfR f_74_102 ow_74 fl_10_73 rfl (by decide) hk
theorem f_74_105 : oFet 74 105 = some (.getfield 76, 3) := by decide +kernel
theorem s_74_105 {d : Nat} {l0 l1 : oV} {a : Nat} {S : List oV} {σ : oSg} {Q : Option oV → (Nat → oC) → Prop} (hk : oKd a = some 4) : oE d 74 105 [l0, l1] (.inr (.inr (.inl a)) :: S) σ Q = oE d 74 108 [l0, l1] (.inl (σ.1 a 0) :: S) σ Q := pGfI f_74_105 ow_74 fl_10_76 rfl (by decide) hk
theorem f_74_108 : oFet 74 108 = some (.iconst 2, 1) := by decide +kernel
theorem s_74_108 {d : Nat} {l0 l1 : oV} {S : List oV} {σ : oSg} {Q : Option oV → (Nat → oC) → Prop} : oE d 74 108 [l0, l1] S σ Q = oE d 74 109 [l0, l1] (.inl (2) :: S) σ Q := pKst f_74_108 (by decide)
theorem f_74_109 : oFet 74 109 = some (.aload_n 0, 1) := by decide +kernel
theorem s_74_109 {d : Nat} {l1 : oV} {a : Nat} {S : List oV} {σ : oSg} {Q : Option oV → (Nat → oC) → Prop} : oE d 74 109 [.inr (.inr (.inl a)), l1] S σ Q = oE d 74 110 [.inr (.inr (.inl a)), l1] (.inr (.inr (.inl a)) :: S) σ Q := pLdN (k := 0) f_74_109 rfl rfl rfl
theorem f_74_110 : oFet 74 110 = some (.getfield 12, 3) := by decide +kernel
theorem s_74_110 {d : Nat} {l0 l1 : oV} {a : Nat} {S : List oV} {σ : oSg} {Q : Option oV → (Nat → oC) → Prop} (hk : oKd a = some 10) : oE d 74 110 [l0, l1] (.inr (.inr (.inl a)) :: S) σ Q = oE d 74 113 [l0, l1] (.inr (.inr (.inl (oRf a 0))) :: S) σ Q := pGfR f_74_110 ow_74 fl_10_12 rfl (by decide) hk
theorem f_74_113 : oFet 74 113 = some (.invokevirtual 111, 3) := by decide +kernel
theorem c_74_113 {d : Nat} {l0 l1 : oV} {a : Nat} {v : Option oV} {τ : oSg} {S : List oV} {σ : oSg} {Q : Option oV → (Nat → oC) → Prop} (hm : oMi d 25 [.inr (.inr (.inl a))] σ v τ) (hk : oKd a = some 1) (hs : oSmall S = true) : oE d 74 113 [l0, l1] (.inr (.inr (.inl a)) :: S) σ Q = oE d 74 116 [l0, l1] (v.toList ++ S) τ Q := pCallV f_74_113 ow_74 lk_10_111 mt_25 rfl rfl rfl hk hs hm
theorem f_74_116 : oFet 74 116 = some (.imul, 1) := by decide +kernel
theorem s_74_116 {d : Nat} {l0 l1 : oV} {x y : Int} {S : List oV} {σ : oSg} {Q : Option oV → (Nat → oC) → Prop} : oE d 74 116 [l0, l1] (.inl y :: .inl x :: S) σ Q = oE d 74 117 [l0, l1] (.inl (oMul x y) :: S) σ Q := oS3 f_74_116 rfl rfl rfl
theorem f_74_117 : oFet 74 117 = some (.isub, 1) := by decide +kernel
theorem s_74_117 {d : Nat} {l0 l1 : oV} {x y : Int} {S : List oV} {σ : oSg} {Q : Option oV → (Nat → oC) → Prop} : oE d 74 117 [l0, l1] (.inl y :: .inl x :: S) σ Q = oE d 74 118 [l0, l1] (.inl (oSub x y) :: S) σ Q := oS3 f_74_117 rfl rfl rfl
theorem f_74_118 : oFet 74 118 = some (.ireturn, 1) := by decide +kernel
theorem s_74_118 {d : Nat} {l0 l1 : oV} {x : Int} {σ : oSg} {Q : Option oV → (Nat → oC) → Prop} : oE d 74 118 [l0, l1] [.inl x] σ Q = Q (some (.inl x)) (oBld σ) := oIret f_74_118 rt_74
theorem f_74_119 : oFet 74 119 = some (.aload_n 0, 1) := by decide +kernel
theorem s_74_119 {d : Nat} {l1 : oV} {a : Nat} {S : List oV} {σ : oSg} {Q : Option oV → (Nat → oC) → Prop} : oE d 74 119 [.inr (.inr (.inl a)), l1] S σ Q = oE d 74 120 [.inr (.inr (.inl a)), l1] (.inr (.inr (.inl a)) :: S) σ Q := pLdN (k := 0) f_74_119 rfl rfl rfl
theorem f_74_120 : oFet 74 120 = some (.getfield 45, 3) := by decide +kernel
theorem s_74_120 {d : Nat} {l0 l1 : oV} {a : Nat} {S : List oV} {σ : oSg} {Q : Option oV → (Nat → oC) → Prop} (hk : oKd a = some 10) : oE d 74 120 [l0, l1] (.inr (.inr (.inl a)) :: S) σ Q = oE d 74 123 [l0, l1] (.inr (.inr (.inl (oRf a 6))) :: S) σ Q := pGfR f_74_120 ow_74 fl_10_45 rfl (by decide) hk
theorem f_74_123 : oFet 74 123 = some (.aload_n 0, 1) := by decide +kernel
theorem s_74_123 {d : Nat} {l1 : oV} {a : Nat} {S : List oV} {σ : oSg} {Q : Option oV → (Nat → oC) → Prop} : oE d 74 123 [.inr (.inr (.inl a)), l1] S σ Q = oE d 74 124 [.inr (.inr (.inl a)), l1] (.inr (.inr (.inl a)) :: S) σ Q := pLdN (k := 0) f_74_123 rfl rfl rfl
theorem f_74_124 : oFet 74 124 = some (.getfield 12, 3) := by decide +kernel
theorem s_74_124 {d : Nat} {l0 l1 : oV} {a : Nat} {S : List oV} {σ : oSg} {Q : Option oV → (Nat → oC) → Prop} (hk : oKd a = some 10) : oE d 74 124 [l0, l1] (.inr (.inr (.inl a)) :: S) σ Q = oE d 74 127 [l0, l1] (.inr (.inr (.inl (oRf a 0))) :: S) σ Q := pGfR f_74_124 ow_74 fl_10_12 rfl (by decide) hk
theorem f_74_127 : oFet 74 127 = some (.getfield 73, 3) := by decide +kernel
theorem s_74_127 {d : Nat} {l0 l1 : oV} {a : Nat} {S : List oV} {σ : oSg} {Q : Option oV → (Nat → oC) → Prop} (hk : oKd a = some 1) : oE d 74 127 [l0, l1] (.inr (.inr (.inl a)) :: S) σ Q = oE d 74 130 [l0, l1] (.inr (.inr (.inl (oRf a 0))) :: S) σ Q := pGfR f_74_127 ow_74 fl_10_73 rfl (by decide) hk
theorem f_74_130 : oFet 74 130 = some (.iconst 0, 1) := by decide +kernel
theorem s_74_130 {d : Nat} {l0 l1 : oV} {S : List oV} {σ : oSg} {Q : Option oV → (Nat → oC) → Prop} : oE d 74 130 [l0, l1] S σ Q = oE d 74 131 [l0, l1] (.inl (0) :: S) σ Q := pKst f_74_130 (by decide)
theorem f_74_131 : oFet 74 131 = some (.invokevirtual 124, 3) := by decide +kernel
theorem c_74_131 {d : Nat} {l0 l1 : oV} {x0 x1 : oV} {a : Nat} {v : Option oV} {τ : oSg} {S : List oV} {σ : oSg} {Q : Option oV → (Nat → oC) → Prop} (hm : oMi d 33 [.inr (.inr (.inl a)), x0, x1] σ v τ) (hk : oKd a = some 3) (hs : oSmall S = true) : oE d 74 131 [l0, l1] (x1 :: x0 :: .inr (.inr (.inl a)) :: S) σ Q = oE d 74 134 [l0, l1] (v.toList ++ S) τ Q := pCallV f_74_131 ow_74 lk_10_124 mt_33 rfl rfl rfl hk hs hm
theorem f_74_134 : oFet 74 134 = some (.iload_n 1, 1) := by decide +kernel
theorem s_74_134 {d : Nat} {l0 : oV} {x : Int} {S : List oV} {σ : oSg} {Q : Option oV → (Nat → oC) → Prop} : oE d 74 134 [l0, .inl x] S σ Q = oE d 74 135 [l0, .inl x] (.inl x :: S) σ Q := pLdN (k := 1) f_74_134 rfl rfl rfl
theorem f_74_135 : oFet 74 135 = some (.iconst 5, 1) := by decide +kernel
theorem s_74_135 {d : Nat} {l0 l1 : oV} {S : List oV} {σ : oSg} {Q : Option oV → (Nat → oC) → Prop} : oE d 74 135 [l0, l1] S σ Q = oE d 74 136 [l0, l1] (.inl (5) :: S) σ Q := pKst f_74_135 (by decide)
theorem f_74_136 : oFet 74 136 = some (.if_icmp .ne 13, 3) := by decide +kernel
theorem s_74_136 {d : Nat} {l0 l1 : oV} {x y : Int} {S : List oV} {σ : oSg} {Q : Option oV → (Nat → oC) → Prop} : oE d 74 136 [l0, l1] (.inl y :: .inl x :: S) σ Q = if ¬ x = y then oE d 74 149 [l0, l1] S σ Q else oE d 74 139 [l0, l1] S σ Q := oCmpNe f_74_136 (by decide)
theorem f_74_139 : oFet 74 139 = some (.aload_n 0, 1) := by decide +kernel
theorem s_74_139 {d : Nat} {l1 : oV} {a : Nat} {S : List oV} {σ : oSg} {Q : Option oV → (Nat → oC) → Prop} : oE d 74 139 [.inr (.inr (.inl a)), l1] S σ Q = oE d 74 140 [.inr (.inr (.inl a)), l1] (.inr (.inr (.inl a)) :: S) σ Q := pLdN (k := 0) f_74_139 rfl rfl rfl
theorem f_74_140 : oFet 74 140 = some (.getfield 45, 3) := by decide +kernel
theorem s_74_140 {d : Nat} {l0 l1 : oV} {a : Nat} {S : List oV} {σ : oSg} {Q : Option oV → (Nat → oC) → Prop} (hk : oKd a = some 10) : oE d 74 140 [l0, l1] (.inr (.inr (.inl a)) :: S) σ Q = oE d 74 143 [l0, l1] (.inr (.inr (.inl (oRf a 6))) :: S) σ Q := pGfR f_74_140 ow_74 fl_10_45 rfl (by decide) hk
theorem f_74_143 : oFet 74 143 = some (.getfield 222, 3) := by decide +kernel
theorem s_74_143 {d : Nat} {l0 l1 : oV} {a : Nat} {S : List oV} {σ : oSg} {Q : Option oV → (Nat → oC) → Prop} (hk : oKd a = some 3) : oE d 74 143 [l0, l1] (.inr (.inr (.inl a)) :: S) σ Q = oE d 74 146 [l0, l1] (.inl (σ.1 a 0) :: S) σ Q := pGfI f_74_143 ow_74 fl_10_222 rfl (by decide) hk
theorem f_74_146 : oFet 74 146 = some (.goto 10, 3) := by decide +kernel
theorem s_74_146 {d : Nat} {l0 l1 : oV} {S : List oV} {σ : oSg} {Q : Option oV → (Nat → oC) → Prop} : oE d 74 146 [l0, l1] S σ Q = oE d 74 156 [l0, l1] S σ Q := pGoto f_74_146 (by decide)
theorem f_74_149 : oFet 74 149 = some (.aload_n 0, 1) := by decide +kernel
theorem s_74_149 {d : Nat} {l1 : oV} {a : Nat} {S : List oV} {σ : oSg} {Q : Option oV → (Nat → oC) → Prop} : oE d 74 149 [.inr (.inr (.inl a)), l1] S σ Q = oE d 74 150 [.inr (.inr (.inl a)), l1] (.inr (.inr (.inl a)) :: S) σ Q := pLdN (k := 0) f_74_149 rfl rfl rfl
theorem f_74_150 : oFet 74 150 = some (.getfield 45, 3) := by decide +kernel
theorem s_74_150 {d : Nat} {l0 l1 : oV} {a : Nat} {S : List oV} {σ : oSg} {Q : Option oV → (Nat → oC) → Prop} (hk : oKd a = some 10) : oE d 74 150 [l0, l1] (.inr (.inr (.inl a)) :: S) σ Q = oE d 74 153 [l0, l1] (.inr (.inr (.inl (oRf a 6))) :: S) σ Q := pGfR f_74_150 ow_74 fl_10_45 rfl (by decide) hk
theorem f_74_153 : oFet 74 153 = some (.getfield 132, 3) := by decide +kernel
theorem s_74_153 {d : Nat} {l0 l1 : oV} {a : Nat} {S : List oV} {σ : oSg} {Q : Option oV → (Nat → oC) → Prop} (hk : oKd a = some 3) : oE d 74 153 [l0, l1] (.inr (.inr (.inl a)) :: S) σ Q = oE d 74 156 [l0, l1] (.inl (σ.1 a 1) :: S) σ Q := pGfI f_74_153 ow_74 fl_10_132 rfl (by decide) hk
theorem f_74_156 : oFet 74 156 = some (.ireturn, 1) := by decide +kernel
theorem s_74_156 {d : Nat} {l0 l1 : oV} {x : Int} {σ : oSg} {Q : Option oV → (Nat → oC) → Prop} : oE d 74 156 [l0, l1] [.inl x] σ Q = Q (some (.inl x)) (oBld σ) := oIret f_74_156 rt_74
theorem f_74_157 : oFet 74 157 = some (.aload_n 0, 1) := by decide +kernel
theorem s_74_157 {d : Nat} {l1 : oV} {a : Nat} {S : List oV} {σ : oSg} {Q : Option oV → (Nat → oC) → Prop} : oE d 74 157 [.inr (.inr (.inl a)), l1] S σ Q = oE d 74 158 [.inr (.inr (.inl a)), l1] (.inr (.inr (.inl a)) :: S) σ Q := pLdN (k := 0) f_74_157 rfl rfl rfl
theorem f_74_158 : oFet 74 158 = some (.getfield 45, 3) := by decide +kernel
theorem s_74_158 {d : Nat} {l0 l1 : oV} {a : Nat} {S : List oV} {σ : oSg} {Q : Option oV → (Nat → oC) → Prop} (hk : oKd a = some 10) : oE d 74 158 [l0, l1] (.inr (.inr (.inl a)) :: S) σ Q = oE d 74 161 [l0, l1] (.inr (.inr (.inl (oRf a 6))) :: S) σ Q := pGfR f_74_158 ow_74 fl_10_45 rfl (by decide) hk
theorem f_74_161 : oFet 74 161 = some (.aload_n 0, 1) := by decide +kernel
theorem s_74_161 {d : Nat} {l1 : oV} {a : Nat} {S : List oV} {σ : oSg} {Q : Option oV → (Nat → oC) → Prop} : oE d 74 161 [.inr (.inr (.inl a)), l1] S σ Q = oE d 74 162 [.inr (.inr (.inl a)), l1] (.inr (.inr (.inl a)) :: S) σ Q := pLdN (k := 0) f_74_161 rfl rfl rfl
theorem f_74_162 : oFet 74 162 = some (.getfield 12, 3) := by decide +kernel
theorem s_74_162 {d : Nat} {l0 l1 : oV} {a : Nat} {S : List oV} {σ : oSg} {Q : Option oV → (Nat → oC) → Prop} (hk : oKd a = some 10) : oE d 74 162 [l0, l1] (.inr (.inr (.inl a)) :: S) σ Q = oE d 74 165 [l0, l1] (.inr (.inr (.inl (oRf a 0))) :: S) σ Q := pGfR f_74_162 ow_74 fl_10_12 rfl (by decide) hk
theorem f_74_165 : oFet 74 165 = some (.getfield 73, 3) := by decide +kernel
theorem s_74_165 {d : Nat} {l0 l1 : oV} {a : Nat} {S : List oV} {σ : oSg} {Q : Option oV → (Nat → oC) → Prop} (hk : oKd a = some 1) : oE d 74 165 [l0, l1] (.inr (.inr (.inl a)) :: S) σ Q = oE d 74 168 [l0, l1] (.inr (.inr (.inl (oRf a 0))) :: S) σ Q := pGfR f_74_165 ow_74 fl_10_73 rfl (by decide) hk
theorem f_74_168 : oFet 74 168 = some (.iconst 1, 1) := by decide +kernel
theorem s_74_168 {d : Nat} {l0 l1 : oV} {S : List oV} {σ : oSg} {Q : Option oV → (Nat → oC) → Prop} : oE d 74 168 [l0, l1] S σ Q = oE d 74 169 [l0, l1] (.inl (1) :: S) σ Q := pKst f_74_168 (by decide)
theorem f_74_169 : oFet 74 169 = some (.invokevirtual 124, 3) := by decide +kernel
theorem c_74_169 {d : Nat} {l0 l1 : oV} {x0 x1 : oV} {a : Nat} {v : Option oV} {τ : oSg} {S : List oV} {σ : oSg} {Q : Option oV → (Nat → oC) → Prop} (hm : oMi d 33 [.inr (.inr (.inl a)), x0, x1] σ v τ) (hk : oKd a = some 3) (hs : oSmall S = true) : oE d 74 169 [l0, l1] (x1 :: x0 :: .inr (.inr (.inl a)) :: S) σ Q = oE d 74 172 [l0, l1] (v.toList ++ S) τ Q := pCallV f_74_169 ow_74 lk_10_124 mt_33 rfl rfl rfl hk hs hm
theorem f_74_172 : oFet 74 172 = some (.iload_n 1, 1) := by decide +kernel
theorem s_74_172 {d : Nat} {l0 : oV} {x : Int} {S : List oV} {σ : oSg} {Q : Option oV → (Nat → oC) → Prop} : oE d 74 172 [l0, .inl x] S σ Q = oE d 74 173 [l0, .inl x] (.inl x :: S) σ Q := pLdN (k := 1) f_74_172 rfl rfl rfl
theorem f_74_173 : oFet 74 173 = some (.bipush 7, 2) := by decide +kernel
theorem s_74_173 {d : Nat} {l0 l1 : oV} {S : List oV} {σ : oSg} {Q : Option oV → (Nat → oC) → Prop} : oE d 74 173 [l0, l1] S σ Q = oE d 74 175 [l0, l1] (.inl (7) :: S) σ Q := pBip f_74_173 (by decide)
theorem f_74_175 : oFet 74 175 = some (.if_icmp .ne 13, 3) := by decide +kernel
theorem s_74_175 {d : Nat} {l0 l1 : oV} {x y : Int} {S : List oV} {σ : oSg} {Q : Option oV → (Nat → oC) → Prop} : oE d 74 175 [l0, l1] (.inl y :: .inl x :: S) σ Q = if ¬ x = y then oE d 74 188 [l0, l1] S σ Q else oE d 74 178 [l0, l1] S σ Q := oCmpNe f_74_175 (by decide)
theorem f_74_178 : oFet 74 178 = some (.aload_n 0, 1) := by decide +kernel
theorem s_74_178 {d : Nat} {l1 : oV} {a : Nat} {S : List oV} {σ : oSg} {Q : Option oV → (Nat → oC) → Prop} : oE d 74 178 [.inr (.inr (.inl a)), l1] S σ Q = oE d 74 179 [.inr (.inr (.inl a)), l1] (.inr (.inr (.inl a)) :: S) σ Q := pLdN (k := 0) f_74_178 rfl rfl rfl
theorem f_74_179 : oFet 74 179 = some (.getfield 45, 3) := by decide +kernel
theorem s_74_179 {d : Nat} {l0 l1 : oV} {a : Nat} {S : List oV} {σ : oSg} {Q : Option oV → (Nat → oC) → Prop} (hk : oKd a = some 10) : oE d 74 179 [l0, l1] (.inr (.inr (.inl a)) :: S) σ Q = oE d 74 182 [l0, l1] (.inr (.inr (.inl (oRf a 6))) :: S) σ Q := pGfR f_74_179 ow_74 fl_10_45 rfl (by decide) hk
theorem f_74_182 : oFet 74 182 = some (.getfield 222, 3) := by decide +kernel
theorem s_74_182 {d : Nat} {l0 l1 : oV} {a : Nat} {S : List oV} {σ : oSg} {Q : Option oV → (Nat → oC) → Prop} (hk : oKd a = some 3) : oE d 74 182 [l0, l1] (.inr (.inr (.inl a)) :: S) σ Q = oE d 74 185 [l0, l1] (.inl (σ.1 a 0) :: S) σ Q := pGfI f_74_182 ow_74 fl_10_222 rfl (by decide) hk
theorem f_74_185 : oFet 74 185 = some (.goto 10, 3) := by decide +kernel
theorem s_74_185 {d : Nat} {l0 l1 : oV} {S : List oV} {σ : oSg} {Q : Option oV → (Nat → oC) → Prop} : oE d 74 185 [l0, l1] S σ Q = oE d 74 195 [l0, l1] S σ Q := pGoto f_74_185 (by decide)
theorem f_74_188 : oFet 74 188 = some (.aload_n 0, 1) := by decide +kernel
theorem s_74_188 {d : Nat} {l1 : oV} {a : Nat} {S : List oV} {σ : oSg} {Q : Option oV → (Nat → oC) → Prop} : oE d 74 188 [.inr (.inr (.inl a)), l1] S σ Q = oE d 74 189 [.inr (.inr (.inl a)), l1] (.inr (.inr (.inl a)) :: S) σ Q := pLdN (k := 0) f_74_188 rfl rfl rfl
theorem f_74_189 : oFet 74 189 = some (.getfield 45, 3) := by decide +kernel
theorem s_74_189 {d : Nat} {l0 l1 : oV} {a : Nat} {S : List oV} {σ : oSg} {Q : Option oV → (Nat → oC) → Prop} (hk : oKd a = some 10) : oE d 74 189 [l0, l1] (.inr (.inr (.inl a)) :: S) σ Q = oE d 74 192 [l0, l1] (.inr (.inr (.inl (oRf a 6))) :: S) σ Q := pGfR f_74_189 ow_74 fl_10_45 rfl (by decide) hk
theorem f_74_192 : oFet 74 192 = some (.getfield 132, 3) := by decide +kernel
theorem s_74_192 {d : Nat} {l0 l1 : oV} {a : Nat} {S : List oV} {σ : oSg} {Q : Option oV → (Nat → oC) → Prop} (hk : oKd a = some 3) : oE d 74 192 [l0, l1] (.inr (.inr (.inl a)) :: S) σ Q = oE d 74 195 [l0, l1] (.inl (σ.1 a 1) :: S) σ Q := pGfI f_74_192 ow_74 fl_10_132 rfl (by decide) hk
theorem f_74_195 : oFet 74 195 = some (.ireturn, 1) := by decide +kernel
theorem s_74_195 {d : Nat} {l0 l1 : oV} {x : Int} {σ : oSg} {Q : Option oV → (Nat → oC) → Prop} : oE d 74 195 [l0, l1] [.inl x] σ Q = Q (some (.inl x)) (oBld σ) := oIret f_74_195 rt_74
theorem f_74_196 : oFet 74 196 = some (.aload_n 0, 1) := by decide +kernel
theorem s_74_196 {d : Nat} {l1 : oV} {a : Nat} {S : List oV} {σ : oSg} {Q : Option oV → (Nat → oC) → Prop} : oE d 74 196 [.inr (.inr (.inl a)), l1] S σ Q = oE d 74 197 [.inr (.inr (.inl a)), l1] (.inr (.inr (.inl a)) :: S) σ Q := pLdN (k := 0) f_74_196 rfl rfl rfl
theorem f_74_197 : oFet 74 197 = some (.getfield 12, 3) := by decide +kernel
theorem s_74_197 {d : Nat} {l0 l1 : oV} {a : Nat} {S : List oV} {σ : oSg} {Q : Option oV → (Nat → oC) → Prop} (hk : oKd a = some 10) : oE d 74 197 [l0, l1] (.inr (.inr (.inl a)) :: S) σ Q = oE d 74 200 [l0, l1] (.inr (.inr (.inl (oRf a 0))) :: S) σ Q := pGfR f_74_197 ow_74 fl_10_12 rfl (by decide) hk
theorem f_74_200 : oFet 74 200 = some (.invokevirtual 225, 3) := by decide +kernel
theorem c_74_200 {d : Nat} {l0 l1 : oV} {a : Nat} {v : Option oV} {τ : oSg} {S : List oV} {σ : oSg} {Q : Option oV → (Nat → oC) → Prop} (hm : oMi d 78 [.inr (.inr (.inl a))] σ v τ) (hk : oKd a = some 1) (hs : oSmall S = true) : oE d 74 200 [l0, l1] (.inr (.inr (.inl a)) :: S) σ Q = oE d 74 203 [l0, l1] (v.toList ++ S) τ Q := pCallV f_74_200 ow_74 lk_10_225 mt_78 rfl rfl rfl hk hs hm
theorem f_74_203 : oFet 74 203 = some (.ireturn, 1) := by decide +kernel
theorem s_74_203 {d : Nat} {l0 l1 : oV} {x : Int} {σ : oSg} {Q : Option oV → (Nat → oC) → Prop} : oE d 74 203 [l0, l1] [.inl x] σ Q = Q (some (.inl x)) (oBld σ) := oIret f_74_203 rt_74
theorem f_74_204 : oFet 74 204 = some (.aload_n 0, 1) := by decide +kernel
theorem s_74_204 {d : Nat} {l1 : oV} {a : Nat} {S : List oV} {σ : oSg} {Q : Option oV → (Nat → oC) → Prop} : oE d 74 204 [.inr (.inr (.inl a)), l1] S σ Q = oE d 74 205 [.inr (.inr (.inl a)), l1] (.inr (.inr (.inl a)) :: S) σ Q := pLdN (k := 0) f_74_204 rfl rfl rfl
theorem f_74_205 : oFet 74 205 = some (.getfield 12, 3) := by decide +kernel
theorem s_74_205 {d : Nat} {l0 l1 : oV} {a : Nat} {S : List oV} {σ : oSg} {Q : Option oV → (Nat → oC) → Prop} (hk : oKd a = some 10) : oE d 74 205 [l0, l1] (.inr (.inr (.inl a)) :: S) σ Q = oE d 74 208 [l0, l1] (.inr (.inr (.inl (oRf a 0))) :: S) σ Q := pGfR f_74_205 ow_74 fl_10_12 rfl (by decide) hk
theorem f_74_208 : oFet 74 208 = some (.invokevirtual 228, 3) := by decide +kernel
theorem c_74_208 {d : Nat} {l0 l1 : oV} {a : Nat} {v : Option oV} {τ : oSg} {S : List oV} {σ : oSg} {Q : Option oV → (Nat → oC) → Prop} (hm : oMi d 82 [.inr (.inr (.inl a))] σ v τ) (hk : oKd a = some 1) (hs : oSmall S = true) : oE d 74 208 [l0, l1] (.inr (.inr (.inl a)) :: S) σ Q = oE d 74 211 [l0, l1] (v.toList ++ S) τ Q := pCallV f_74_208 ow_74 lk_10_228 mt_82 rfl rfl rfl hk hs hm
theorem f_74_211 : oFet 74 211 = some (.ireturn, 1) := by decide +kernel
theorem s_74_211 {d : Nat} {l0 l1 : oV} {x : Int} {σ : oSg} {Q : Option oV → (Nat → oC) → Prop} : oE d 74 211 [l0, l1] [.inl x] σ Q = Q (some (.inl x)) (oBld σ) := oIret f_74_211 rt_74
theorem f_74_212 : oFet 74 212 = some (.iconst (-1), 1) := by decide +kernel
theorem s_74_212 {d : Nat} {l0 l1 : oV} {S : List oV} {σ : oSg} {Q : Option oV → (Nat → oC) → Prop} : oE d 74 212 [l0, l1] S σ Q = oE d 74 213 [l0, l1] (.inl (-1) :: S) σ Q := pKst f_74_212 (by decide)
theorem f_74_213 : oFet 74 213 = some (.ireturn, 1) := by decide +kernel
theorem s_74_213 {d : Nat} {l0 l1 : oV} {x : Int} {σ : oSg} {Q : Option oV → (Nat → oC) → Prop} : oE d 74 213 [l0, l1] [.inl x] σ Q = Q (some (.inl x)) (oBld σ) := oIret f_74_213 rt_74
theorem ow_75 : (oMt 75).2.2.2.2.1 = 4 := by decide +kernel
theorem rt_75 : (oMt 75).2.2.2.1 = some .int := by decide +kernel
theorem nl_75 : (oMt 75).2.2.1 = 3 := by decide +kernel
theorem f_75_0 : oFet 75 0 = some (.iconst 0, 1) := by decide +kernel
theorem s_75_0 {d : Nat} {l0 l1 l2 : oV} {S : List oV} {σ : oSg} {Q : Option oV → (Nat → oC) → Prop} : oE d 75 0 [l0, l1, l2] S σ Q = oE d 75 1 [l0, l1, l2] (.inl (0) :: S) σ Q := pKst f_75_0 (by decide)
theorem f_75_1 : oFet 75 1 = some (.istore_n 1, 1) := by decide +kernel
theorem s_75_1 {d : Nat} {l0 l1 l2 : oV} {x : Int} {S : List oV} {σ : oSg} {Q : Option oV → (Nat → oC) → Prop} (c1 : oCat l1 = 1) (c0 : oCat l0 = 1)  : oE d 75 1 [l0, l1, l2] (.inl x :: S) σ Q = oE d 75 2 [l0, .inl x, l2] S σ Q := pSt (i := 1) f_75_1 rfl rfl (show (1 : Nat) < 3 by decide) (oC1n c0) (oC1n c1) rfl
theorem f_75_2 : oFet 75 2 = some (.iconst 0, 1) := by decide +kernel
theorem s_75_2 {d : Nat} {l0 l1 l2 : oV} {S : List oV} {σ : oSg} {Q : Option oV → (Nat → oC) → Prop} : oE d 75 2 [l0, l1, l2] S σ Q = oE d 75 3 [l0, l1, l2] (.inl (0) :: S) σ Q := pKst f_75_2 (by decide)
theorem f_75_3 : oFet 75 3 = some (.istore_n 2, 1) := by decide +kernel
theorem s_75_3 {d : Nat} {l0 l1 l2 : oV} {x : Int} {S : List oV} {σ : oSg} {Q : Option oV → (Nat → oC) → Prop} (c2 : oCat l2 = 1) (c1 : oCat l1 = 1)  : oE d 75 3 [l0, l1, l2] (.inl x :: S) σ Q = oE d 75 4 [l0, l1, .inl x] S σ Q := pSt (i := 2) f_75_3 rfl rfl (show (2 : Nat) < 3 by decide) (oC1n c1) (oC1n c2) rfl
theorem f_75_4 : oFet 75 4 = some (.iload_n 2, 1) := by decide +kernel
theorem s_75_4 {d : Nat} {l0 l1 : oV} {x : Int} {S : List oV} {σ : oSg} {Q : Option oV → (Nat → oC) → Prop} : oE d 75 4 [l0, l1, .inl x] S σ Q = oE d 75 5 [l0, l1, .inl x] (.inl x :: S) σ Q := pLdN (k := 2) f_75_4 rfl rfl rfl
theorem f_75_5 : oFet 75 5 = some (.aload_n 0, 1) := by decide +kernel
theorem s_75_5 {d : Nat} {l1 l2 : oV} {a : Nat} {S : List oV} {σ : oSg} {Q : Option oV → (Nat → oC) → Prop} : oE d 75 5 [.inr (.inr (.inl a)), l1, l2] S σ Q = oE d 75 6 [.inr (.inr (.inl a)), l1, l2] (.inr (.inr (.inl a)) :: S) σ Q := pLdN (k := 0) f_75_5 rfl rfl rfl
theorem f_75_6 : oFet 75 6 = some (.getfield 15, 3) := by decide +kernel
theorem s_75_6 {d : Nat} {l0 l1 l2 : oV} {a : Nat} {S : List oV} {σ : oSg} {Q : Option oV → (Nat → oC) → Prop} (hk : oKd a = some 4) : oE d 75 6 [l0, l1, l2] (.inr (.inr (.inl a)) :: S) σ Q = oE d 75 9 [l0, l1, l2] (.inl (σ.1 a 0) :: S) σ Q := pGfI f_75_6 ow_75 fl_4_15 rfl (by decide) hk
theorem f_75_9 : oFet 75 9 = some (.if_icmp .ge 20, 3) := by decide +kernel
theorem s_75_9 {d : Nat} {l0 l1 l2 : oV} {x y : Int} {S : List oV} {σ : oSg} {Q : Option oV → (Nat → oC) → Prop} : oE d 75 9 [l0, l1, l2] (.inl y :: .inl x :: S) σ Q = if y ≤ x then oE d 75 29 [l0, l1, l2] S σ Q else oE d 75 12 [l0, l1, l2] S σ Q := oCmpGe f_75_9 (by decide)
theorem f_75_12 : oFet 75 12 = some (.iload_n 1, 1) := by decide +kernel
theorem s_75_12 {d : Nat} {l0 l2 : oV} {x : Int} {S : List oV} {σ : oSg} {Q : Option oV → (Nat → oC) → Prop} : oE d 75 12 [l0, .inl x, l2] S σ Q = oE d 75 13 [l0, .inl x, l2] (.inl x :: S) σ Q := pLdN (k := 1) f_75_12 rfl rfl rfl
theorem f_75_13 : oFet 75 13 = some (.aload_n 0, 1) := by decide +kernel
theorem s_75_13 {d : Nat} {l1 l2 : oV} {a : Nat} {S : List oV} {σ : oSg} {Q : Option oV → (Nat → oC) → Prop} : oE d 75 13 [.inr (.inr (.inl a)), l1, l2] S σ Q = oE d 75 14 [.inr (.inr (.inl a)), l1, l2] (.inr (.inr (.inl a)) :: S) σ Q := pLdN (k := 0) f_75_13 rfl rfl rfl
theorem f_75_14 : oFet 75 14 = some (.iload_n 2, 1) := by decide +kernel
theorem s_75_14 {d : Nat} {l0 l1 : oV} {x : Int} {S : List oV} {σ : oSg} {Q : Option oV → (Nat → oC) → Prop} : oE d 75 14 [l0, l1, .inl x] S σ Q = oE d 75 15 [l0, l1, .inl x] (.inl x :: S) σ Q := pLdN (k := 2) f_75_14 rfl rfl rfl
theorem f_75_15 : oFet 75 15 = some (.invokevirtual 41, 3) := by decide +kernel
theorem c_75_15 {d : Nat} {l0 l1 l2 : oV} {x0 : oV} {a : Nat} {v : Option oV} {τ : oSg} {S : List oV} {σ : oSg} {Q : Option oV → (Nat → oC) → Prop} (hm : oMi d 76 [.inr (.inr (.inl a)), x0] σ v τ) (hk : oKd a = some 4) (hs : oSmall S = true) : oE d 75 15 [l0, l1, l2] (x0 :: .inr (.inr (.inl a)) :: S) σ Q = oE d 75 18 [l0, l1, l2] (v.toList ++ S) τ Q := pCallV f_75_15 ow_75 lk_4_41 mt_76 rfl rfl rfl hk hs hm
theorem f_75_18 : oFet 75 18 = some (.invokestatic 31, 3) := by decide +kernel
theorem c_75_18 {d : Nat} {l0 l1 l2 : oV} {x0 : oV} {v : Option oV} {τ : oSg} {S : List oV} {σ : oSg} {Q : Option oV → (Nat → oC) → Prop} (hm : oMi d 35 [x0] σ v τ) (hs : oSmall S = true) : oE d 75 18 [l0, l1, l2] (x0 :: S) σ Q = oE d 75 21 [l0, l1, l2] (v.toList ++ S) τ Q := pCallS f_75_18 ow_75 lk_4_31 mt_35 rfl rfl rfl hs hm
theorem f_75_21 : oFet 75 21 = some (.iadd, 1) := by decide +kernel
theorem s_75_21 {d : Nat} {l0 l1 l2 : oV} {x y : Int} {S : List oV} {σ : oSg} {Q : Option oV → (Nat → oC) → Prop} : oE d 75 21 [l0, l1, l2] (.inl y :: .inl x :: S) σ Q = oE d 75 22 [l0, l1, l2] (.inl (oAdd x y) :: S) σ Q := oS3 f_75_21 rfl rfl rfl
theorem f_75_22 : oFet 75 22 = some (.istore_n 1, 1) := by decide +kernel
theorem s_75_22 {d : Nat} {l0 l1 l2 : oV} {x : Int} {S : List oV} {σ : oSg} {Q : Option oV → (Nat → oC) → Prop} (c1 : oCat l1 = 1) (c0 : oCat l0 = 1)  : oE d 75 22 [l0, l1, l2] (.inl x :: S) σ Q = oE d 75 23 [l0, .inl x, l2] S σ Q := pSt (i := 1) f_75_22 rfl rfl (show (1 : Nat) < 3 by decide) (oC1n c0) (oC1n c1) rfl
theorem f_75_23 : oFet 75 23 = some (.iinc 2 1, 3) := by decide +kernel
theorem s_75_23 {d : Nat} {l0 l1 : oV} {x : Int} {S : List oV} {σ : oSg} {Q : Option oV → (Nat → oC) → Prop} (c1 : oCat l1 = 1)  : oE d 75 23 [l0, l1, .inl x] S σ Q = oE d 75 26 [l0, l1, .inl (oAdd x (1))] S σ Q := pInc f_75_23 rfl (show (2 : Nat) < 3 by decide) (oC1n c1) (oC1n (v := .inl x) rfl) rfl
theorem f_75_26 : oFet 75 26 = some (.goto (-22), 3) := by decide +kernel
theorem s_75_26 {d : Nat} {l0 l1 l2 : oV} {S : List oV} {σ : oSg} {Q : Option oV → (Nat → oC) → Prop} : oE d 75 26 [l0, l1, l2] S σ Q = oE d 75 4 [l0, l1, l2] S σ Q := pGoto f_75_26 (by decide)
theorem f_75_29 : oFet 75 29 = some (.iload_n 1, 1) := by decide +kernel
theorem s_75_29 {d : Nat} {l0 l2 : oV} {x : Int} {S : List oV} {σ : oSg} {Q : Option oV → (Nat → oC) → Prop} : oE d 75 29 [l0, .inl x, l2] S σ Q = oE d 75 30 [l0, .inl x, l2] (.inl x :: S) σ Q := pLdN (k := 1) f_75_29 rfl rfl rfl
theorem f_75_30 : oFet 75 30 = some (.iconst 2, 1) := by decide +kernel
theorem s_75_30 {d : Nat} {l0 l1 l2 : oV} {S : List oV} {σ : oSg} {Q : Option oV → (Nat → oC) → Prop} : oE d 75 30 [l0, l1, l2] S σ Q = oE d 75 31 [l0, l1, l2] (.inl (2) :: S) σ Q := pKst f_75_30 (by decide)
theorem f_75_31 : oFet 75 31 = some (.idiv, 1) := by decide +kernel
theorem s_75_31 {d : Nat} {l0 l1 l2 : oV} {x y : Int} {S : List oV} {σ : oSg} {Q : Option oV → (Nat → oC) → Prop} (hy : y ≠ 0) : oE d 75 31 [l0, l1, l2] (.inl y :: .inl x :: S) σ Q = oE d 75 32 [l0, l1, l2] (.inl (oDiv x y) :: S) σ Q := pDiv f_75_31 hy
theorem f_75_32 : oFet 75 32 = some (.ireturn, 1) := by decide +kernel
theorem s_75_32 {d : Nat} {l0 l1 l2 : oV} {x : Int} {σ : oSg} {Q : Option oV → (Nat → oC) → Prop} : oE d 75 32 [l0, l1, l2] [.inl x] σ Q = Q (some (.inl x)) (oBld σ) := oIret f_75_32 rt_75
theorem ow_76 : (oMt 76).2.2.2.2.1 = 4 := by decide +kernel
theorem rt_76 : (oMt 76).2.2.2.1 = some .int := by decide +kernel
theorem nl_76 : (oMt 76).2.2.1 = 4 := by decide +kernel
theorem f_76_0 : oFet 76 0 = some (.iconst 0, 1) := by decide +kernel
theorem s_76_0 {d : Nat} {l0 l1 l2 l3 : oV} {S : List oV} {σ : oSg} {Q : Option oV → (Nat → oC) → Prop} : oE d 76 0 [l0, l1, l2, l3] S σ Q = oE d 76 1 [l0, l1, l2, l3] (.inl (0) :: S) σ Q := pKst f_76_0 (by decide)
theorem f_76_1 : oFet 76 1 = some (.istore_n 2, 1) := by decide +kernel
theorem s_76_1 {d : Nat} {l0 l1 l2 l3 : oV} {x : Int} {S : List oV} {σ : oSg} {Q : Option oV → (Nat → oC) → Prop} (c2 : oCat l2 = 1) (c1 : oCat l1 = 1)  : oE d 76 1 [l0, l1, l2, l3] (.inl x :: S) σ Q = oE d 76 2 [l0, l1, .inl x, l3] S σ Q := pSt (i := 2) f_76_1 rfl rfl (show (2 : Nat) < 4 by decide) (oC1n c1) (oC1n c2) rfl
theorem f_76_2 : oFet 76 2 = some (.iconst 0, 1) := by decide +kernel
theorem s_76_2 {d : Nat} {l0 l1 l2 l3 : oV} {S : List oV} {σ : oSg} {Q : Option oV → (Nat → oC) → Prop} : oE d 76 2 [l0, l1, l2, l3] S σ Q = oE d 76 3 [l0, l1, l2, l3] (.inl (0) :: S) σ Q := pKst f_76_2 (by decide)
theorem f_76_3 : oFet 76 3 = some (.istore_n 3, 1) := by decide +kernel
theorem s_76_3 {d : Nat} {l0 l1 l2 l3 : oV} {x : Int} {S : List oV} {σ : oSg} {Q : Option oV → (Nat → oC) → Prop} (c3 : oCat l3 = 1) (c2 : oCat l2 = 1)  : oE d 76 3 [l0, l1, l2, l3] (.inl x :: S) σ Q = oE d 76 4 [l0, l1, l2, .inl x] S σ Q := pSt (i := 3) f_76_3 rfl rfl (show (3 : Nat) < 4 by decide) (oC1n c2) (oC1n c3) rfl
theorem f_76_4 : oFet 76 4 = some (.iload_n 3, 1) := by decide +kernel
theorem s_76_4 {d : Nat} {l0 l1 l2 : oV} {x : Int} {S : List oV} {σ : oSg} {Q : Option oV → (Nat → oC) → Prop} : oE d 76 4 [l0, l1, l2, .inl x] S σ Q = oE d 76 5 [l0, l1, l2, .inl x] (.inl x :: S) σ Q := pLdN (k := 3) f_76_4 rfl rfl rfl
theorem f_76_5 : oFet 76 5 = some (.aload_n 0, 1) := by decide +kernel
theorem s_76_5 {d : Nat} {l1 l2 l3 : oV} {a : Nat} {S : List oV} {σ : oSg} {Q : Option oV → (Nat → oC) → Prop} : oE d 76 5 [.inr (.inr (.inl a)), l1, l2, l3] S σ Q = oE d 76 6 [.inr (.inr (.inl a)), l1, l2, l3] (.inr (.inr (.inl a)) :: S) σ Q := pLdN (k := 0) f_76_5 rfl rfl rfl
theorem f_76_6 : oFet 76 6 = some (.getfield 15, 3) := by decide +kernel
theorem s_76_6 {d : Nat} {l0 l1 l2 l3 : oV} {a : Nat} {S : List oV} {σ : oSg} {Q : Option oV → (Nat → oC) → Prop} (hk : oKd a = some 4) : oE d 76 6 [l0, l1, l2, l3] (.inr (.inr (.inl a)) :: S) σ Q = oE d 76 9 [l0, l1, l2, l3] (.inl (σ.1 a 0) :: S) σ Q := pGfI f_76_6 ow_76 fl_4_15 rfl (by decide) hk
theorem f_76_9 : oFet 76 9 = some (.if_icmp .ge 24, 3) := by decide +kernel
theorem s_76_9 {d : Nat} {l0 l1 l2 l3 : oV} {x y : Int} {S : List oV} {σ : oSg} {Q : Option oV → (Nat → oC) → Prop} : oE d 76 9 [l0, l1, l2, l3] (.inl y :: .inl x :: S) σ Q = if y ≤ x then oE d 76 33 [l0, l1, l2, l3] S σ Q else oE d 76 12 [l0, l1, l2, l3] S σ Q := oCmpGe f_76_9 (by decide)
theorem f_76_12 : oFet 76 12 = some (.aload_n 0, 1) := by decide +kernel
theorem s_76_12 {d : Nat} {l1 l2 l3 : oV} {a : Nat} {S : List oV} {σ : oSg} {Q : Option oV → (Nat → oC) → Prop} : oE d 76 12 [.inr (.inr (.inl a)), l1, l2, l3] S σ Q = oE d 76 13 [.inr (.inr (.inl a)), l1, l2, l3] (.inr (.inr (.inl a)) :: S) σ Q := pLdN (k := 0) f_76_12 rfl rfl rfl
theorem f_76_13 : oFet 76 13 = some (.iload_n 1, 1) := by decide +kernel
theorem s_76_13 {d : Nat} {l0 l2 l3 : oV} {x : Int} {S : List oV} {σ : oSg} {Q : Option oV → (Nat → oC) → Prop} : oE d 76 13 [l0, .inl x, l2, l3] S σ Q = oE d 76 14 [l0, .inl x, l2, l3] (.inl x :: S) σ Q := pLdN (k := 1) f_76_13 rfl rfl rfl
theorem f_76_14 : oFet 76 14 = some (.iload_n 3, 1) := by decide +kernel
theorem s_76_14 {d : Nat} {l0 l1 l2 : oV} {x : Int} {S : List oV} {σ : oSg} {Q : Option oV → (Nat → oC) → Prop} : oE d 76 14 [l0, l1, l2, .inl x] S σ Q = oE d 76 15 [l0, l1, l2, .inl x] (.inl x :: S) σ Q := pLdN (k := 3) f_76_14 rfl rfl rfl
theorem f_76_15 : oFet 76 15 = some (.invokevirtual 44, 3) := by decide +kernel
theorem c_76_15 {d : Nat} {l0 l1 l2 l3 : oV} {x0 x1 : oV} {a : Nat} {v : Option oV} {τ : oSg} {S : List oV} {σ : oSg} {Q : Option oV → (Nat → oC) → Prop} (hm : oMi d 22 [.inr (.inr (.inl a)), x0, x1] σ v τ) (hk : oKd a = some 4) (hs : oSmall S = true) : oE d 76 15 [l0, l1, l2, l3] (x1 :: x0 :: .inr (.inr (.inl a)) :: S) σ Q = oE d 76 18 [l0, l1, l2, l3] (v.toList ++ S) τ Q := pCallV f_76_15 ow_76 lk_4_44 mt_22 rfl rfl rfl hk hs hm
theorem f_76_18 : oFet 76 18 = some (.ifCond .eq 9, 3) := by decide +kernel
theorem s_76_18 {d : Nat} {l0 l1 l2 l3 : oV} {x : Int} {S : List oV} {σ : oSg} {Q : Option oV → (Nat → oC) → Prop} : oE d 76 18 [l0, l1, l2, l3] (.inl x :: S) σ Q = if x = 0 then oE d 76 27 [l0, l1, l2, l3] S σ Q else oE d 76 21 [l0, l1, l2, l3] S σ Q := oIfEq f_76_18 (by decide)
theorem f_76_21 : oFet 76 21 = some (.iload_n 2, 1) := by decide +kernel
theorem s_76_21 {d : Nat} {l0 l1 l3 : oV} {x : Int} {S : List oV} {σ : oSg} {Q : Option oV → (Nat → oC) → Prop} : oE d 76 21 [l0, l1, .inl x, l3] S σ Q = oE d 76 22 [l0, l1, .inl x, l3] (.inl x :: S) σ Q := pLdN (k := 2) f_76_21 rfl rfl rfl
theorem f_76_22 : oFet 76 22 = some (.iconst 1, 1) := by decide +kernel
theorem s_76_22 {d : Nat} {l0 l1 l2 l3 : oV} {S : List oV} {σ : oSg} {Q : Option oV → (Nat → oC) → Prop} : oE d 76 22 [l0, l1, l2, l3] S σ Q = oE d 76 23 [l0, l1, l2, l3] (.inl (1) :: S) σ Q := pKst f_76_22 (by decide)
theorem f_76_23 : oFet 76 23 = some (.iload_n 3, 1) := by decide +kernel
theorem s_76_23 {d : Nat} {l0 l1 l2 : oV} {x : Int} {S : List oV} {σ : oSg} {Q : Option oV → (Nat → oC) → Prop} : oE d 76 23 [l0, l1, l2, .inl x] S σ Q = oE d 76 24 [l0, l1, l2, .inl x] (.inl x :: S) σ Q := pLdN (k := 3) f_76_23 rfl rfl rfl
theorem f_76_24 : oFet 76 24 = some (.ishl, 1) := by decide +kernel
theorem s_76_24 {d : Nat} {l0 l1 l2 l3 : oV} {x y : Int} {S : List oV} {σ : oSg} {Q : Option oV → (Nat → oC) → Prop} : oE d 76 24 [l0, l1, l2, l3] (.inl y :: .inl x :: S) σ Q = oE d 76 25 [l0, l1, l2, l3] (.inl (oShl x y) :: S) σ Q := oS3 f_76_24 rfl rfl rfl
theorem f_76_25 : oFet 76 25 = some (.ior, 1) := by decide +kernel
theorem s_76_25 {d : Nat} {l0 l1 l2 l3 : oV} {x y : Int} {S : List oV} {σ : oSg} {Q : Option oV → (Nat → oC) → Prop} : oE d 76 25 [l0, l1, l2, l3] (.inl y :: .inl x :: S) σ Q = oE d 76 26 [l0, l1, l2, l3] (.inl (oOr x y) :: S) σ Q := oS3 f_76_25 rfl rfl rfl
theorem f_76_26 : oFet 76 26 = some (.istore_n 2, 1) := by decide +kernel
theorem s_76_26 {d : Nat} {l0 l1 l2 l3 : oV} {x : Int} {S : List oV} {σ : oSg} {Q : Option oV → (Nat → oC) → Prop} (c2 : oCat l2 = 1) (c1 : oCat l1 = 1)  : oE d 76 26 [l0, l1, l2, l3] (.inl x :: S) σ Q = oE d 76 27 [l0, l1, .inl x, l3] S σ Q := pSt (i := 2) f_76_26 rfl rfl (show (2 : Nat) < 4 by decide) (oC1n c1) (oC1n c2) rfl
theorem f_76_27 : oFet 76 27 = some (.iinc 3 1, 3) := by decide +kernel
theorem s_76_27 {d : Nat} {l0 l1 l2 : oV} {x : Int} {S : List oV} {σ : oSg} {Q : Option oV → (Nat → oC) → Prop} (c2 : oCat l2 = 1)  : oE d 76 27 [l0, l1, l2, .inl x] S σ Q = oE d 76 30 [l0, l1, l2, .inl (oAdd x (1))] S σ Q := pInc f_76_27 rfl (show (3 : Nat) < 4 by decide) (oC1n c2) (oC1n (v := .inl x) rfl) rfl
theorem f_76_30 : oFet 76 30 = some (.goto (-26), 3) := by decide +kernel
theorem s_76_30 {d : Nat} {l0 l1 l2 l3 : oV} {S : List oV} {σ : oSg} {Q : Option oV → (Nat → oC) → Prop} : oE d 76 30 [l0, l1, l2, l3] S σ Q = oE d 76 4 [l0, l1, l2, l3] S σ Q := pGoto f_76_30 (by decide)
theorem f_76_33 : oFet 76 33 = some (.iload_n 2, 1) := by decide +kernel
theorem s_76_33 {d : Nat} {l0 l1 l3 : oV} {x : Int} {S : List oV} {σ : oSg} {Q : Option oV → (Nat → oC) → Prop} : oE d 76 33 [l0, l1, .inl x, l3] S σ Q = oE d 76 34 [l0, l1, .inl x, l3] (.inl x :: S) σ Q := pLdN (k := 2) f_76_33 rfl rfl rfl
theorem f_76_34 : oFet 76 34 = some (.ireturn, 1) := by decide +kernel
theorem s_76_34 {d : Nat} {l0 l1 l2 l3 : oV} {x : Int} {σ : oSg} {Q : Option oV → (Nat → oC) → Prop} : oE d 76 34 [l0, l1, l2, l3] [.inl x] σ Q = Q (some (.inl x)) (oBld σ) := oIret f_76_34 rt_76
theorem ow_77 : (oMt 77).2.2.2.2.1 = 1 := by decide +kernel
theorem rt_77 : (oMt 77).2.2.2.1 = some .int := by decide +kernel
theorem nl_77 : (oMt 77).2.2.1 = 4 := by decide +kernel
theorem f_77_0 : oFet 77 0 = some (.iconst 0, 1) := by decide +kernel
theorem s_77_0 {d : Nat} {l0 l1 l2 l3 : oV} {S : List oV} {σ : oSg} {Q : Option oV → (Nat → oC) → Prop} : oE d 77 0 [l0, l1, l2, l3] S σ Q = oE d 77 1 [l0, l1, l2, l3] (.inl (0) :: S) σ Q := pKst f_77_0 (by decide)
theorem f_77_1 : oFet 77 1 = some (.istore_n 1, 1) := by decide +kernel
theorem s_77_1 {d : Nat} {l0 l1 l2 l3 : oV} {x : Int} {S : List oV} {σ : oSg} {Q : Option oV → (Nat → oC) → Prop} (c1 : oCat l1 = 1) (c0 : oCat l0 = 1)  : oE d 77 1 [l0, l1, l2, l3] (.inl x :: S) σ Q = oE d 77 2 [l0, .inl x, l2, l3] S σ Q := pSt (i := 1) f_77_1 rfl rfl (show (1 : Nat) < 4 by decide) (oC1n c0) (oC1n c1) rfl
theorem f_77_2 : oFet 77 2 = some (.iconst 0, 1) := by decide +kernel
theorem s_77_2 {d : Nat} {l0 l1 l2 l3 : oV} {S : List oV} {σ : oSg} {Q : Option oV → (Nat → oC) → Prop} : oE d 77 2 [l0, l1, l2, l3] S σ Q = oE d 77 3 [l0, l1, l2, l3] (.inl (0) :: S) σ Q := pKst f_77_2 (by decide)
theorem f_77_3 : oFet 77 3 = some (.istore_n 2, 1) := by decide +kernel
theorem s_77_3 {d : Nat} {l0 l1 l2 l3 : oV} {x : Int} {S : List oV} {σ : oSg} {Q : Option oV → (Nat → oC) → Prop} (c2 : oCat l2 = 1) (c1 : oCat l1 = 1)  : oE d 77 3 [l0, l1, l2, l3] (.inl x :: S) σ Q = oE d 77 4 [l0, l1, .inl x, l3] S σ Q := pSt (i := 2) f_77_3 rfl rfl (show (2 : Nat) < 4 by decide) (oC1n c1) (oC1n c2) rfl
theorem f_77_4 : oFet 77 4 = some (.iload_n 2, 1) := by decide +kernel
theorem s_77_4 {d : Nat} {l0 l1 l3 : oV} {x : Int} {S : List oV} {σ : oSg} {Q : Option oV → (Nat → oC) → Prop} : oE d 77 4 [l0, l1, .inl x, l3] S σ Q = oE d 77 5 [l0, l1, .inl x, l3] (.inl x :: S) σ Q := pLdN (k := 2) f_77_4 rfl rfl rfl
theorem f_77_5 : oFet 77 5 = some (.aload_n 0, 1) := by decide +kernel
theorem s_77_5 {d : Nat} {l1 l2 l3 : oV} {a : Nat} {S : List oV} {σ : oSg} {Q : Option oV → (Nat → oC) → Prop} : oE d 77 5 [.inr (.inr (.inl a)), l1, l2, l3] S σ Q = oE d 77 6 [.inr (.inr (.inl a)), l1, l2, l3] (.inr (.inr (.inl a)) :: S) σ Q := pLdN (k := 0) f_77_5 rfl rfl rfl
theorem f_77_6 : oFet 77 6 = some (.getfield 12, 3) := by decide +kernel
theorem s_77_6 {d : Nat} {l0 l1 l2 l3 : oV} {a : Nat} {S : List oV} {σ : oSg} {Q : Option oV → (Nat → oC) → Prop} (hk : oKd a = some 1) : oE d 77 6 [l0, l1, l2, l3] (.inr (.inr (.inl a)) :: S) σ Q = oE d 77 9 [l0, l1, l2, l3] (.inr (.inr (.inl (oRf a 0))) :: S) σ Q := pGfR f_77_6 ow_77 fl_1_12 rfl (by decide) hk
theorem f_77_9 : oFet 77 9 = some (.getfield 84, 3) := by decide +kernel
theorem s_77_9 {d : Nat} {l0 l1 l2 l3 : oV} {a : Nat} {S : List oV} {σ : oSg} {Q : Option oV → (Nat → oC) → Prop} (hk : oKd a = some 4) : oE d 77 9 [l0, l1, l2, l3] (.inr (.inr (.inl a)) :: S) σ Q = oE d 77 12 [l0, l1, l2, l3] (.inl (σ.1 a 0) :: S) σ Q := pGfI f_77_9 ow_77 fl_1_84 rfl (by decide) hk
theorem f_77_12 : oFet 77 12 = some (.if_icmp .ge 32, 3) := by decide +kernel
theorem s_77_12 {d : Nat} {l0 l1 l2 l3 : oV} {x y : Int} {S : List oV} {σ : oSg} {Q : Option oV → (Nat → oC) → Prop} : oE d 77 12 [l0, l1, l2, l3] (.inl y :: .inl x :: S) σ Q = if y ≤ x then oE d 77 44 [l0, l1, l2, l3] S σ Q else oE d 77 15 [l0, l1, l2, l3] S σ Q := oCmpGe f_77_12 (by decide)
theorem f_77_15 : oFet 77 15 = some (.aload_n 0, 1) := by decide +kernel
theorem s_77_15 {d : Nat} {l1 l2 l3 : oV} {a : Nat} {S : List oV} {σ : oSg} {Q : Option oV → (Nat → oC) → Prop} : oE d 77 15 [.inr (.inr (.inl a)), l1, l2, l3] S σ Q = oE d 77 16 [.inr (.inr (.inl a)), l1, l2, l3] (.inr (.inr (.inl a)) :: S) σ Q := pLdN (k := 0) f_77_15 rfl rfl rfl
theorem f_77_16 : oFet 77 16 = some (.iload_n 2, 1) := by decide +kernel
theorem s_77_16 {d : Nat} {l0 l1 l3 : oV} {x : Int} {S : List oV} {σ : oSg} {Q : Option oV → (Nat → oC) → Prop} : oE d 77 16 [l0, l1, .inl x, l3] S σ Q = oE d 77 17 [l0, l1, .inl x, l3] (.inl x :: S) σ Q := pLdN (k := 2) f_77_16 rfl rfl rfl
theorem f_77_17 : oFet 77 17 = some (.invokevirtual 49, 3) := by decide +kernel
theorem c_77_17 {d : Nat} {l0 l1 l2 l3 : oV} {x0 : oV} {a : Nat} {v : Option oV} {τ : oSg} {S : List oV} {σ : oSg} {Q : Option oV → (Nat → oC) → Prop} (hm : oMi d 18 [.inr (.inr (.inl a)), x0] σ v τ) (hk : oKd a = some 1) (hs : oSmall S = true) : oE d 77 17 [l0, l1, l2, l3] (x0 :: .inr (.inr (.inl a)) :: S) σ Q = oE d 77 20 [l0, l1, l2, l3] (v.toList ++ S) τ Q := pCallV f_77_17 ow_77 lk_1_49 mt_18 rfl rfl rfl hk hs hm
theorem f_77_20 : oFet 77 20 = some (.istore_n 3, 1) := by decide +kernel
theorem s_77_20 {d : Nat} {l0 l1 l2 l3 : oV} {x : Int} {S : List oV} {σ : oSg} {Q : Option oV → (Nat → oC) → Prop} (c3 : oCat l3 = 1) (c2 : oCat l2 = 1)  : oE d 77 20 [l0, l1, l2, l3] (.inl x :: S) σ Q = oE d 77 21 [l0, l1, l2, .inl x] S σ Q := pSt (i := 3) f_77_20 rfl rfl (show (3 : Nat) < 4 by decide) (oC1n c2) (oC1n c3) rfl
theorem f_77_21 : oFet 77 21 = some (.iload_n 3, 1) := by decide +kernel
theorem s_77_21 {d : Nat} {l0 l1 l2 : oV} {x : Int} {S : List oV} {σ : oSg} {Q : Option oV → (Nat → oC) → Prop} : oE d 77 21 [l0, l1, l2, .inl x] S σ Q = oE d 77 22 [l0, l1, l2, .inl x] (.inl x :: S) σ Q := pLdN (k := 3) f_77_21 rfl rfl rfl
theorem f_77_22 : oFet 77 22 = some (.iload_n 2, 1) := by decide +kernel
theorem s_77_22 {d : Nat} {l0 l1 l3 : oV} {x : Int} {S : List oV} {σ : oSg} {Q : Option oV → (Nat → oC) → Prop} : oE d 77 22 [l0, l1, .inl x, l3] S σ Q = oE d 77 23 [l0, l1, .inl x, l3] (.inl x :: S) σ Q := pLdN (k := 2) f_77_22 rfl rfl rfl
theorem f_77_23 : oFet 77 23 = some (.if_icmp .le 15, 3) := by decide +kernel
theorem s_77_23 {d : Nat} {l0 l1 l2 l3 : oV} {x y : Int} {S : List oV} {σ : oSg} {Q : Option oV → (Nat → oC) → Prop} : oE d 77 23 [l0, l1, l2, l3] (.inl y :: .inl x :: S) σ Q = if x ≤ y then oE d 77 38 [l0, l1, l2, l3] S σ Q else oE d 77 26 [l0, l1, l2, l3] S σ Q := oCmpLe f_77_23 (by decide)
theorem f_77_26 : oFet 77 26 = some (.iload_n 1, 1) := by decide +kernel
theorem s_77_26 {d : Nat} {l0 l2 l3 : oV} {x : Int} {S : List oV} {σ : oSg} {Q : Option oV → (Nat → oC) → Prop} : oE d 77 26 [l0, .inl x, l2, l3] S σ Q = oE d 77 27 [l0, .inl x, l2, l3] (.inl x :: S) σ Q := pLdN (k := 1) f_77_26 rfl rfl rfl
theorem f_77_27 : oFet 77 27 = some (.aload_n 0, 1) := by decide +kernel
theorem s_77_27 {d : Nat} {l1 l2 l3 : oV} {a : Nat} {S : List oV} {σ : oSg} {Q : Option oV → (Nat → oC) → Prop} : oE d 77 27 [.inr (.inr (.inl a)), l1, l2, l3] S σ Q = oE d 77 28 [.inr (.inr (.inl a)), l1, l2, l3] (.inr (.inr (.inl a)) :: S) σ Q := pLdN (k := 0) f_77_27 rfl rfl rfl
theorem f_77_28 : oFet 77 28 = some (.getfield 12, 3) := by decide +kernel
theorem s_77_28 {d : Nat} {l0 l1 l2 l3 : oV} {a : Nat} {S : List oV} {σ : oSg} {Q : Option oV → (Nat → oC) → Prop} (hk : oKd a = some 1) : oE d 77 28 [l0, l1, l2, l3] (.inr (.inr (.inl a)) :: S) σ Q = oE d 77 31 [l0, l1, l2, l3] (.inr (.inr (.inl (oRf a 0))) :: S) σ Q := pGfR f_77_28 ow_77 fl_1_12 rfl (by decide) hk
theorem f_77_31 : oFet 77 31 = some (.iload_n 2, 1) := by decide +kernel
theorem s_77_31 {d : Nat} {l0 l1 l3 : oV} {x : Int} {S : List oV} {σ : oSg} {Q : Option oV → (Nat → oC) → Prop} : oE d 77 31 [l0, l1, .inl x, l3] S σ Q = oE d 77 32 [l0, l1, .inl x, l3] (.inl x :: S) σ Q := pLdN (k := 2) f_77_31 rfl rfl rfl
theorem f_77_32 : oFet 77 32 = some (.iload_n 3, 1) := by decide +kernel
theorem s_77_32 {d : Nat} {l0 l1 l2 : oV} {x : Int} {S : List oV} {σ : oSg} {Q : Option oV → (Nat → oC) → Prop} : oE d 77 32 [l0, l1, l2, .inl x] S σ Q = oE d 77 33 [l0, l1, l2, .inl x] (.inl x :: S) σ Q := pLdN (k := 3) f_77_32 rfl rfl rfl
theorem f_77_33 : oFet 77 33 = some (.invokevirtual 90, 3) := by decide +kernel
theorem c_77_33 {d : Nat} {l0 l1 l2 l3 : oV} {x0 x1 : oV} {a : Nat} {v : Option oV} {τ : oSg} {S : List oV} {σ : oSg} {Q : Option oV → (Nat → oC) → Prop} (hm : oMi d 16 [.inr (.inr (.inl a)), x0, x1] σ v τ) (hk : oKd a = some 4) (hs : oSmall S = true) : oE d 77 33 [l0, l1, l2, l3] (x1 :: x0 :: .inr (.inr (.inl a)) :: S) σ Q = oE d 77 36 [l0, l1, l2, l3] (v.toList ++ S) τ Q := pCallV f_77_33 ow_77 lk_1_90 mt_16 rfl rfl rfl hk hs hm
theorem f_77_36 : oFet 77 36 = some (.iadd, 1) := by decide +kernel
theorem s_77_36 {d : Nat} {l0 l1 l2 l3 : oV} {x y : Int} {S : List oV} {σ : oSg} {Q : Option oV → (Nat → oC) → Prop} : oE d 77 36 [l0, l1, l2, l3] (.inl y :: .inl x :: S) σ Q = oE d 77 37 [l0, l1, l2, l3] (.inl (oAdd x y) :: S) σ Q := oS3 f_77_36 rfl rfl rfl
theorem f_77_37 : oFet 77 37 = some (.istore_n 1, 1) := by decide +kernel
theorem s_77_37 {d : Nat} {l0 l1 l2 l3 : oV} {x : Int} {S : List oV} {σ : oSg} {Q : Option oV → (Nat → oC) → Prop} (c1 : oCat l1 = 1) (c0 : oCat l0 = 1)  : oE d 77 37 [l0, l1, l2, l3] (.inl x :: S) σ Q = oE d 77 38 [l0, .inl x, l2, l3] S σ Q := pSt (i := 1) f_77_37 rfl rfl (show (1 : Nat) < 4 by decide) (oC1n c0) (oC1n c1) rfl
theorem f_77_38 : oFet 77 38 = some (.iinc 2 1, 3) := by decide +kernel
theorem s_77_38 {d : Nat} {l0 l1 l3 : oV} {x : Int} {S : List oV} {σ : oSg} {Q : Option oV → (Nat → oC) → Prop} (c1 : oCat l1 = 1)  : oE d 77 38 [l0, l1, .inl x, l3] S σ Q = oE d 77 41 [l0, l1, .inl (oAdd x (1)), l3] S σ Q := pInc f_77_38 rfl (show (2 : Nat) < 4 by decide) (oC1n c1) (oC1n (v := .inl x) rfl) rfl
theorem f_77_41 : oFet 77 41 = some (.goto (-37), 3) := by decide +kernel
theorem s_77_41 {d : Nat} {l0 l1 l2 l3 : oV} {S : List oV} {σ : oSg} {Q : Option oV → (Nat → oC) → Prop} : oE d 77 41 [l0, l1, l2, l3] S σ Q = oE d 77 4 [l0, l1, l2, l3] S σ Q := pGoto f_77_41 (by decide)
theorem f_77_44 : oFet 77 44 = some (.iload_n 1, 1) := by decide +kernel
theorem s_77_44 {d : Nat} {l0 l2 l3 : oV} {x : Int} {S : List oV} {σ : oSg} {Q : Option oV → (Nat → oC) → Prop} : oE d 77 44 [l0, .inl x, l2, l3] S σ Q = oE d 77 45 [l0, .inl x, l2, l3] (.inl x :: S) σ Q := pLdN (k := 1) f_77_44 rfl rfl rfl
theorem f_77_45 : oFet 77 45 = some (.ireturn, 1) := by decide +kernel
theorem s_77_45 {d : Nat} {l0 l1 l2 l3 : oV} {x : Int} {σ : oSg} {Q : Option oV → (Nat → oC) → Prop} : oE d 77 45 [l0, l1, l2, l3] [.inl x] σ Q = Q (some (.inl x)) (oBld σ) := oIret f_77_45 rt_77
theorem ow_78 : (oMt 78).2.2.2.2.1 = 1 := by decide +kernel
theorem rt_78 : (oMt 78).2.2.2.1 = some .int := by decide +kernel
theorem nl_78 : (oMt 78).2.2.1 = 4 := by decide +kernel
theorem f_78_0 : oFet 78 0 = some (.iconst 0, 1) := by decide +kernel
theorem s_78_0 {d : Nat} {l0 l1 l2 l3 : oV} {S : List oV} {σ : oSg} {Q : Option oV → (Nat → oC) → Prop} : oE d 78 0 [l0, l1, l2, l3] S σ Q = oE d 78 1 [l0, l1, l2, l3] (.inl (0) :: S) σ Q := pKst f_78_0 (by decide)
theorem f_78_1 : oFet 78 1 = some (.istore_n 1, 1) := by decide +kernel
theorem s_78_1 {d : Nat} {l0 l1 l2 l3 : oV} {x : Int} {S : List oV} {σ : oSg} {Q : Option oV → (Nat → oC) → Prop} (c1 : oCat l1 = 1) (c0 : oCat l0 = 1)  : oE d 78 1 [l0, l1, l2, l3] (.inl x :: S) σ Q = oE d 78 2 [l0, .inl x, l2, l3] S σ Q := pSt (i := 1) f_78_1 rfl rfl (show (1 : Nat) < 4 by decide) (oC1n c0) (oC1n c1) rfl
theorem f_78_2 : oFet 78 2 = some (.iconst 0, 1) := by decide +kernel
theorem s_78_2 {d : Nat} {l0 l1 l2 l3 : oV} {S : List oV} {σ : oSg} {Q : Option oV → (Nat → oC) → Prop} : oE d 78 2 [l0, l1, l2, l3] S σ Q = oE d 78 3 [l0, l1, l2, l3] (.inl (0) :: S) σ Q := pKst f_78_2 (by decide)
theorem f_78_3 : oFet 78 3 = some (.istore_n 2, 1) := by decide +kernel
theorem s_78_3 {d : Nat} {l0 l1 l2 l3 : oV} {x : Int} {S : List oV} {σ : oSg} {Q : Option oV → (Nat → oC) → Prop} (c2 : oCat l2 = 1) (c1 : oCat l1 = 1)  : oE d 78 3 [l0, l1, l2, l3] (.inl x :: S) σ Q = oE d 78 4 [l0, l1, .inl x, l3] S σ Q := pSt (i := 2) f_78_3 rfl rfl (show (2 : Nat) < 4 by decide) (oC1n c1) (oC1n c2) rfl
theorem f_78_4 : oFet 78 4 = some (.iload_n 2, 1) := by decide +kernel
theorem s_78_4 {d : Nat} {l0 l1 l3 : oV} {x : Int} {S : List oV} {σ : oSg} {Q : Option oV → (Nat → oC) → Prop} : oE d 78 4 [l0, l1, .inl x, l3] S σ Q = oE d 78 5 [l0, l1, .inl x, l3] (.inl x :: S) σ Q := pLdN (k := 2) f_78_4 rfl rfl rfl
theorem f_78_5 : oFet 78 5 = some (.aload_n 0, 1) := by decide +kernel
theorem s_78_5 {d : Nat} {l1 l2 l3 : oV} {a : Nat} {S : List oV} {σ : oSg} {Q : Option oV → (Nat → oC) → Prop} : oE d 78 5 [.inr (.inr (.inl a)), l1, l2, l3] S σ Q = oE d 78 6 [.inr (.inr (.inl a)), l1, l2, l3] (.inr (.inr (.inl a)) :: S) σ Q := pLdN (k := 0) f_78_5 rfl rfl rfl
theorem f_78_6 : oFet 78 6 = some (.getfield 12, 3) := by decide +kernel
theorem s_78_6 {d : Nat} {l0 l1 l2 l3 : oV} {a : Nat} {S : List oV} {σ : oSg} {Q : Option oV → (Nat → oC) → Prop} (hk : oKd a = some 1) : oE d 78 6 [l0, l1, l2, l3] (.inr (.inr (.inl a)) :: S) σ Q = oE d 78 9 [l0, l1, l2, l3] (.inr (.inr (.inl (oRf a 0))) :: S) σ Q := pGfR f_78_6 ow_78 fl_1_12 rfl (by decide) hk
theorem f_78_9 : oFet 78 9 = some (.getfield 84, 3) := by decide +kernel
theorem s_78_9 {d : Nat} {l0 l1 l2 l3 : oV} {a : Nat} {S : List oV} {σ : oSg} {Q : Option oV → (Nat → oC) → Prop} (hk : oKd a = some 4) : oE d 78 9 [l0, l1, l2, l3] (.inr (.inr (.inl a)) :: S) σ Q = oE d 78 12 [l0, l1, l2, l3] (.inl (σ.1 a 0) :: S) σ Q := pGfI f_78_9 ow_78 fl_1_84 rfl (by decide) hk
theorem f_78_12 : oFet 78 12 = some (.if_icmp .ge 54, 3) := by decide +kernel
theorem s_78_12 {d : Nat} {l0 l1 l2 l3 : oV} {x y : Int} {S : List oV} {σ : oSg} {Q : Option oV → (Nat → oC) → Prop} : oE d 78 12 [l0, l1, l2, l3] (.inl y :: .inl x :: S) σ Q = if y ≤ x then oE d 78 66 [l0, l1, l2, l3] S σ Q else oE d 78 15 [l0, l1, l2, l3] S σ Q := oCmpGe f_78_12 (by decide)
theorem f_78_15 : oFet 78 15 = some (.iload_n 2, 1) := by decide +kernel
theorem s_78_15 {d : Nat} {l0 l1 l3 : oV} {x : Int} {S : List oV} {σ : oSg} {Q : Option oV → (Nat → oC) → Prop} : oE d 78 15 [l0, l1, .inl x, l3] S σ Q = oE d 78 16 [l0, l1, .inl x, l3] (.inl x :: S) σ Q := pLdN (k := 2) f_78_15 rfl rfl rfl
theorem f_78_16 : oFet 78 16 = some (.iconst 1, 1) := by decide +kernel
theorem s_78_16 {d : Nat} {l0 l1 l2 l3 : oV} {S : List oV} {σ : oSg} {Q : Option oV → (Nat → oC) → Prop} : oE d 78 16 [l0, l1, l2, l3] S σ Q = oE d 78 17 [l0, l1, l2, l3] (.inl (1) :: S) σ Q := pKst f_78_16 (by decide)
theorem f_78_17 : oFet 78 17 = some (.iadd, 1) := by decide +kernel
theorem s_78_17 {d : Nat} {l0 l1 l2 l3 : oV} {x y : Int} {S : List oV} {σ : oSg} {Q : Option oV → (Nat → oC) → Prop} : oE d 78 17 [l0, l1, l2, l3] (.inl y :: .inl x :: S) σ Q = oE d 78 18 [l0, l1, l2, l3] (.inl (oAdd x y) :: S) σ Q := oS3 f_78_17 rfl rfl rfl
theorem f_78_18 : oFet 78 18 = some (.istore_n 3, 1) := by decide +kernel
theorem s_78_18 {d : Nat} {l0 l1 l2 l3 : oV} {x : Int} {S : List oV} {σ : oSg} {Q : Option oV → (Nat → oC) → Prop} (c3 : oCat l3 = 1) (c2 : oCat l2 = 1)  : oE d 78 18 [l0, l1, l2, l3] (.inl x :: S) σ Q = oE d 78 19 [l0, l1, l2, .inl x] S σ Q := pSt (i := 3) f_78_18 rfl rfl (show (3 : Nat) < 4 by decide) (oC1n c2) (oC1n c3) rfl
theorem f_78_19 : oFet 78 19 = some (.iload_n 3, 1) := by decide +kernel
theorem s_78_19 {d : Nat} {l0 l1 l2 : oV} {x : Int} {S : List oV} {σ : oSg} {Q : Option oV → (Nat → oC) → Prop} : oE d 78 19 [l0, l1, l2, .inl x] S σ Q = oE d 78 20 [l0, l1, l2, .inl x] (.inl x :: S) σ Q := pLdN (k := 3) f_78_19 rfl rfl rfl
theorem f_78_20 : oFet 78 20 = some (.aload_n 0, 1) := by decide +kernel
theorem s_78_20 {d : Nat} {l1 l2 l3 : oV} {a : Nat} {S : List oV} {σ : oSg} {Q : Option oV → (Nat → oC) → Prop} : oE d 78 20 [.inr (.inr (.inl a)), l1, l2, l3] S σ Q = oE d 78 21 [.inr (.inr (.inl a)), l1, l2, l3] (.inr (.inr (.inl a)) :: S) σ Q := pLdN (k := 0) f_78_20 rfl rfl rfl
theorem f_78_21 : oFet 78 21 = some (.getfield 12, 3) := by decide +kernel
theorem s_78_21 {d : Nat} {l0 l1 l2 l3 : oV} {a : Nat} {S : List oV} {σ : oSg} {Q : Option oV → (Nat → oC) → Prop} (hk : oKd a = some 1) : oE d 78 21 [l0, l1, l2, l3] (.inr (.inr (.inl a)) :: S) σ Q = oE d 78 24 [l0, l1, l2, l3] (.inr (.inr (.inl (oRf a 0))) :: S) σ Q := pGfR f_78_21 ow_78 fl_1_12 rfl (by decide) hk
theorem f_78_24 : oFet 78 24 = some (.getfield 84, 3) := by decide +kernel
theorem s_78_24 {d : Nat} {l0 l1 l2 l3 : oV} {a : Nat} {S : List oV} {σ : oSg} {Q : Option oV → (Nat → oC) → Prop} (hk : oKd a = some 4) : oE d 78 24 [l0, l1, l2, l3] (.inr (.inr (.inl a)) :: S) σ Q = oE d 78 27 [l0, l1, l2, l3] (.inl (σ.1 a 0) :: S) σ Q := pGfI f_78_24 ow_78 fl_1_84 rfl (by decide) hk
theorem f_78_27 : oFet 78 27 = some (.if_icmp .ge 33, 3) := by decide +kernel
theorem s_78_27 {d : Nat} {l0 l1 l2 l3 : oV} {x y : Int} {S : List oV} {σ : oSg} {Q : Option oV → (Nat → oC) → Prop} : oE d 78 27 [l0, l1, l2, l3] (.inl y :: .inl x :: S) σ Q = if y ≤ x then oE d 78 60 [l0, l1, l2, l3] S σ Q else oE d 78 30 [l0, l1, l2, l3] S σ Q := oCmpGe f_78_27 (by decide)
theorem f_78_30 : oFet 78 30 = some (.aload_n 0, 1) := by decide +kernel
theorem s_78_30 {d : Nat} {l1 l2 l3 : oV} {a : Nat} {S : List oV} {σ : oSg} {Q : Option oV → (Nat → oC) → Prop} : oE d 78 30 [.inr (.inr (.inl a)), l1, l2, l3] S σ Q = oE d 78 31 [.inr (.inr (.inl a)), l1, l2, l3] (.inr (.inr (.inl a)) :: S) σ Q := pLdN (k := 0) f_78_30 rfl rfl rfl
theorem f_78_31 : oFet 78 31 = some (.getfield 12, 3) := by decide +kernel
theorem s_78_31 {d : Nat} {l0 l1 l2 l3 : oV} {a : Nat} {S : List oV} {σ : oSg} {Q : Option oV → (Nat → oC) → Prop} (hk : oKd a = some 1) : oE d 78 31 [l0, l1, l2, l3] (.inr (.inr (.inl a)) :: S) σ Q = oE d 78 34 [l0, l1, l2, l3] (.inr (.inr (.inl (oRf a 0))) :: S) σ Q := pGfR f_78_31 ow_78 fl_1_12 rfl (by decide) hk
theorem f_78_34 : oFet 78 34 = some (.iload_n 2, 1) := by decide +kernel
theorem s_78_34 {d : Nat} {l0 l1 l3 : oV} {x : Int} {S : List oV} {σ : oSg} {Q : Option oV → (Nat → oC) → Prop} : oE d 78 34 [l0, l1, .inl x, l3] S σ Q = oE d 78 35 [l0, l1, .inl x, l3] (.inl x :: S) σ Q := pLdN (k := 2) f_78_34 rfl rfl rfl
theorem f_78_35 : oFet 78 35 = some (.iload_n 3, 1) := by decide +kernel
theorem s_78_35 {d : Nat} {l0 l1 l2 : oV} {x : Int} {S : List oV} {σ : oSg} {Q : Option oV → (Nat → oC) → Prop} : oE d 78 35 [l0, l1, l2, .inl x] S σ Q = oE d 78 36 [l0, l1, l2, .inl x] (.inl x :: S) σ Q := pLdN (k := 3) f_78_35 rfl rfl rfl
theorem f_78_36 : oFet 78 36 = some (.invokevirtual 104, 3) := by decide +kernel
theorem c_78_36 {d : Nat} {l0 l1 l2 l3 : oV} {x0 x1 : oV} {a : Nat} {v : Option oV} {τ : oSg} {S : List oV} {σ : oSg} {Q : Option oV → (Nat → oC) → Prop} (hm : oMi d 22 [.inr (.inr (.inl a)), x0, x1] σ v τ) (hk : oKd a = some 4) (hs : oSmall S = true) : oE d 78 36 [l0, l1, l2, l3] (x1 :: x0 :: .inr (.inr (.inl a)) :: S) σ Q = oE d 78 39 [l0, l1, l2, l3] (v.toList ++ S) τ Q := pCallV f_78_36 ow_78 lk_1_104 mt_22 rfl rfl rfl hk hs hm
theorem f_78_39 : oFet 78 39 = some (.ifCond .eq 15, 3) := by decide +kernel
theorem s_78_39 {d : Nat} {l0 l1 l2 l3 : oV} {x : Int} {S : List oV} {σ : oSg} {Q : Option oV → (Nat → oC) → Prop} : oE d 78 39 [l0, l1, l2, l3] (.inl x :: S) σ Q = if x = 0 then oE d 78 54 [l0, l1, l2, l3] S σ Q else oE d 78 42 [l0, l1, l2, l3] S σ Q := oIfEq f_78_39 (by decide)
theorem f_78_42 : oFet 78 42 = some (.aload_n 0, 1) := by decide +kernel
theorem s_78_42 {d : Nat} {l1 l2 l3 : oV} {a : Nat} {S : List oV} {σ : oSg} {Q : Option oV → (Nat → oC) → Prop} : oE d 78 42 [.inr (.inr (.inl a)), l1, l2, l3] S σ Q = oE d 78 43 [.inr (.inr (.inl a)), l1, l2, l3] (.inr (.inr (.inl a)) :: S) σ Q := pLdN (k := 0) f_78_42 rfl rfl rfl
theorem f_78_43 : oFet 78 43 = some (.iload_n 2, 1) := by decide +kernel
theorem s_78_43 {d : Nat} {l0 l1 l3 : oV} {x : Int} {S : List oV} {σ : oSg} {Q : Option oV → (Nat → oC) → Prop} : oE d 78 43 [l0, l1, .inl x, l3] S σ Q = oE d 78 44 [l0, l1, .inl x, l3] (.inl x :: S) σ Q := pLdN (k := 2) f_78_43 rfl rfl rfl
theorem f_78_44 : oFet 78 44 = some (.iload_n 3, 1) := by decide +kernel
theorem s_78_44 {d : Nat} {l0 l1 l2 : oV} {x : Int} {S : List oV} {σ : oSg} {Q : Option oV → (Nat → oC) → Prop} : oE d 78 44 [l0, l1, l2, .inl x] S σ Q = oE d 78 45 [l0, l1, l2, .inl x] (.inl x :: S) σ Q := pLdN (k := 3) f_78_44 rfl rfl rfl
theorem f_78_45 : oFet 78 45 = some (.invokevirtual 107, 3) := by decide +kernel
theorem c_78_45 {d : Nat} {l0 l1 l2 l3 : oV} {x0 x1 : oV} {a : Nat} {v : Option oV} {τ : oSg} {S : List oV} {σ : oSg} {Q : Option oV → (Nat → oC) → Prop} (hm : oMi d 79 [.inr (.inr (.inl a)), x0, x1] σ v τ) (hk : oKd a = some 1) (hs : oSmall S = true) : oE d 78 45 [l0, l1, l2, l3] (x1 :: x0 :: .inr (.inr (.inl a)) :: S) σ Q = oE d 78 48 [l0, l1, l2, l3] (v.toList ++ S) τ Q := pCallV f_78_45 ow_78 lk_1_107 mt_79 rfl rfl rfl hk hs hm
theorem f_78_48 : oFet 78 48 = some (.ifCond .ne 6, 3) := by decide +kernel
theorem s_78_48 {d : Nat} {l0 l1 l2 l3 : oV} {x : Int} {S : List oV} {σ : oSg} {Q : Option oV → (Nat → oC) → Prop} : oE d 78 48 [l0, l1, l2, l3] (.inl x :: S) σ Q = if ¬ x = 0 then oE d 78 54 [l0, l1, l2, l3] S σ Q else oE d 78 51 [l0, l1, l2, l3] S σ Q := oIfNe f_78_48 (by decide)
theorem f_78_51 : oFet 78 51 = some (.iinc 1 1, 3) := by decide +kernel
theorem s_78_51 {d : Nat} {l0 l2 l3 : oV} {x : Int} {S : List oV} {σ : oSg} {Q : Option oV → (Nat → oC) → Prop} (c0 : oCat l0 = 1)  : oE d 78 51 [l0, .inl x, l2, l3] S σ Q = oE d 78 54 [l0, .inl (oAdd x (1)), l2, l3] S σ Q := pInc f_78_51 rfl (show (1 : Nat) < 4 by decide) (oC1n c0) (oC1n (v := .inl x) rfl) rfl
theorem f_78_54 : oFet 78 54 = some (.iinc 3 1, 3) := by decide +kernel
theorem s_78_54 {d : Nat} {l0 l1 l2 : oV} {x : Int} {S : List oV} {σ : oSg} {Q : Option oV → (Nat → oC) → Prop} (c2 : oCat l2 = 1)  : oE d 78 54 [l0, l1, l2, .inl x] S σ Q = oE d 78 57 [l0, l1, l2, .inl (oAdd x (1))] S σ Q := pInc f_78_54 rfl (show (3 : Nat) < 4 by decide) (oC1n c2) (oC1n (v := .inl x) rfl) rfl
theorem f_78_57 : oFet 78 57 = some (.goto (-38), 3) := by decide +kernel
theorem s_78_57 {d : Nat} {l0 l1 l2 l3 : oV} {S : List oV} {σ : oSg} {Q : Option oV → (Nat → oC) → Prop} : oE d 78 57 [l0, l1, l2, l3] S σ Q = oE d 78 19 [l0, l1, l2, l3] S σ Q := pGoto f_78_57 (by decide)
theorem f_78_60 : oFet 78 60 = some (.iinc 2 1, 3) := by decide +kernel
theorem s_78_60 {d : Nat} {l0 l1 l3 : oV} {x : Int} {S : List oV} {σ : oSg} {Q : Option oV → (Nat → oC) → Prop} (c1 : oCat l1 = 1)  : oE d 78 60 [l0, l1, .inl x, l3] S σ Q = oE d 78 63 [l0, l1, .inl (oAdd x (1)), l3] S σ Q := pInc f_78_60 rfl (show (2 : Nat) < 4 by decide) (oC1n c1) (oC1n (v := .inl x) rfl) rfl
theorem f_78_63 : oFet 78 63 = some (.goto (-59), 3) := by decide +kernel
theorem s_78_63 {d : Nat} {l0 l1 l2 l3 : oV} {S : List oV} {σ : oSg} {Q : Option oV → (Nat → oC) → Prop} : oE d 78 63 [l0, l1, l2, l3] S σ Q = oE d 78 4 [l0, l1, l2, l3] S σ Q := pGoto f_78_63 (by decide)
theorem f_78_66 : oFet 78 66 = some (.iload_n 1, 1) := by decide +kernel
theorem s_78_66 {d : Nat} {l0 l2 l3 : oV} {x : Int} {S : List oV} {σ : oSg} {Q : Option oV → (Nat → oC) → Prop} : oE d 78 66 [l0, .inl x, l2, l3] S σ Q = oE d 78 67 [l0, .inl x, l2, l3] (.inl x :: S) σ Q := pLdN (k := 1) f_78_66 rfl rfl rfl
theorem f_78_67 : oFet 78 67 = some (.ireturn, 1) := by decide +kernel
theorem s_78_67 {d : Nat} {l0 l1 l2 l3 : oV} {x : Int} {σ : oSg} {Q : Option oV → (Nat → oC) → Prop} : oE d 78 67 [l0, l1, l2, l3] [.inl x] σ Q = Q (some (.inl x)) (oBld σ) := oIret f_78_67 rt_78
theorem ow_79 : (oMt 79).2.2.2.2.1 = 1 := by decide +kernel
theorem rt_79 : (oMt 79).2.2.2.1 = some .int := by decide +kernel
theorem nl_79 : (oMt 79).2.2.1 = 6 := by decide +kernel
theorem f_79_0 : oFet 79 0 = some (.aload_n 0, 1) := by decide +kernel
theorem s_79_0 {d : Nat} {l1 l2 l3 l4 l5 : oV} {a : Nat} {S : List oV} {σ : oSg} {Q : Option oV → (Nat → oC) → Prop} : oE d 79 0 [.inr (.inr (.inl a)), l1, l2, l3, l4, l5] S σ Q = oE d 79 1 [.inr (.inr (.inl a)), l1, l2, l3, l4, l5] (.inr (.inr (.inl a)) :: S) σ Q := pLdN (k := 0) f_79_0 rfl rfl rfl
theorem f_79_1 : oFet 79 1 = some (.iload_n 1, 1) := by decide +kernel
theorem s_79_1 {d : Nat} {l0 l2 l3 l4 l5 : oV} {x : Int} {S : List oV} {σ : oSg} {Q : Option oV → (Nat → oC) → Prop} : oE d 79 1 [l0, .inl x, l2, l3, l4, l5] S σ Q = oE d 79 2 [l0, .inl x, l2, l3, l4, l5] (.inl x :: S) σ Q := pLdN (k := 1) f_79_1 rfl rfl rfl
theorem f_79_2 : oFet 79 2 = some (.invokevirtual 94, 3) := by decide +kernel
theorem c_79_2 {d : Nat} {l0 l1 l2 l3 l4 l5 : oV} {x0 : oV} {a : Nat} {v : Option oV} {τ : oSg} {S : List oV} {σ : oSg} {Q : Option oV → (Nat → oC) → Prop} (hm : oMi d 63 [.inr (.inr (.inl a)), x0] σ v τ) (hk : oKd a = some 1) (hs : oSmall S = true) : oE d 79 2 [l0, l1, l2, l3, l4, l5] (x0 :: .inr (.inr (.inl a)) :: S) σ Q = oE d 79 5 [l0, l1, l2, l3, l4, l5] (v.toList ++ S) τ Q := pCallV f_79_2 ow_79 lk_1_94 mt_63 rfl rfl rfl hk hs hm
theorem f_79_5 : oFet 79 5 = some (.aload_n 0, 1) := by decide +kernel
theorem s_79_5 {d : Nat} {l1 l2 l3 l4 l5 : oV} {a : Nat} {S : List oV} {σ : oSg} {Q : Option oV → (Nat → oC) → Prop} : oE d 79 5 [.inr (.inr (.inl a)), l1, l2, l3, l4, l5] S σ Q = oE d 79 6 [.inr (.inr (.inl a)), l1, l2, l3, l4, l5] (.inr (.inr (.inl a)) :: S) σ Q := pLdN (k := 0) f_79_5 rfl rfl rfl
theorem f_79_6 : oFet 79 6 = some (.iload_n 2, 1) := by decide +kernel
theorem s_79_6 {d : Nat} {l0 l1 l3 l4 l5 : oV} {x : Int} {S : List oV} {σ : oSg} {Q : Option oV → (Nat → oC) → Prop} : oE d 79 6 [l0, l1, .inl x, l3, l4, l5] S σ Q = oE d 79 7 [l0, l1, .inl x, l3, l4, l5] (.inl x :: S) σ Q := pLdN (k := 2) f_79_6 rfl rfl rfl
theorem f_79_7 : oFet 79 7 = some (.invokevirtual 94, 3) := by decide +kernel
theorem c_79_7 {d : Nat} {l0 l1 l2 l3 l4 l5 : oV} {x0 : oV} {a : Nat} {v : Option oV} {τ : oSg} {S : List oV} {σ : oSg} {Q : Option oV → (Nat → oC) → Prop} (hm : oMi d 63 [.inr (.inr (.inl a)), x0] σ v τ) (hk : oKd a = some 1) (hs : oSmall S = true) : oE d 79 7 [l0, l1, l2, l3, l4, l5] (x0 :: .inr (.inr (.inl a)) :: S) σ Q = oE d 79 10 [l0, l1, l2, l3, l4, l5] (v.toList ++ S) τ Q := pCallV f_79_7 ow_79 lk_1_94 mt_63 rfl rfl rfl hk hs hm
theorem f_79_10 : oFet 79 10 = some (.iadd, 1) := by decide +kernel
theorem s_79_10 {d : Nat} {l0 l1 l2 l3 l4 l5 : oV} {x y : Int} {S : List oV} {σ : oSg} {Q : Option oV → (Nat → oC) → Prop} : oE d 79 10 [l0, l1, l2, l3, l4, l5] (.inl y :: .inl x :: S) σ Q = oE d 79 11 [l0, l1, l2, l3, l4, l5] (.inl (oAdd x y) :: S) σ Q := oS3 f_79_10 rfl rfl rfl
theorem f_79_11 : oFet 79 11 = some (.istore_n 3, 1) := by decide +kernel
theorem s_79_11 {d : Nat} {l0 l1 l2 l3 l4 l5 : oV} {x : Int} {S : List oV} {σ : oSg} {Q : Option oV → (Nat → oC) → Prop} (c3 : oCat l3 = 1) (c2 : oCat l2 = 1)  : oE d 79 11 [l0, l1, l2, l3, l4, l5] (.inl x :: S) σ Q = oE d 79 12 [l0, l1, l2, .inl x, l4, l5] S σ Q := pSt (i := 3) f_79_11 rfl rfl (show (3 : Nat) < 6 by decide) (oC1n c2) (oC1n c3) rfl
theorem f_79_12 : oFet 79 12 = some (.iconst 0, 1) := by decide +kernel
theorem s_79_12 {d : Nat} {l0 l1 l2 l3 l4 l5 : oV} {S : List oV} {σ : oSg} {Q : Option oV → (Nat → oC) → Prop} : oE d 79 12 [l0, l1, l2, l3, l4, l5] S σ Q = oE d 79 13 [l0, l1, l2, l3, l4, l5] (.inl (0) :: S) σ Q := pKst f_79_12 (by decide)
theorem f_79_13 : oFet 79 13 = some (.istore 4, 2) := by decide +kernel
theorem s_79_13 {d : Nat} {l0 l1 l2 l3 l4 l5 : oV} {x : Int} {S : List oV} {σ : oSg} {Q : Option oV → (Nat → oC) → Prop} (c4 : oCat l4 = 1) (c3 : oCat l3 = 1)  : oE d 79 13 [l0, l1, l2, l3, l4, l5] (.inl x :: S) σ Q = oE d 79 15 [l0, l1, l2, l3, .inl x, l5] S σ Q := pSt (i := 4) f_79_13 rfl rfl (show (4 : Nat) < 6 by decide) (oC1n c3) (oC1n c4) rfl
theorem f_79_15 : oFet 79 15 = some (.iload 4, 2) := by decide +kernel
theorem s_79_15 {d : Nat} {l0 l1 l2 l3 l5 : oV} {x : Int} {S : List oV} {σ : oSg} {Q : Option oV → (Nat → oC) → Prop} : oE d 79 15 [l0, l1, l2, l3, .inl x, l5] S σ Q = oE d 79 17 [l0, l1, l2, l3, .inl x, l5] (.inl x :: S) σ Q := pLd (i := 4) f_79_15 rfl rfl rfl
theorem f_79_17 : oFet 79 17 = some (.aload_n 0, 1) := by decide +kernel
theorem s_79_17 {d : Nat} {l1 l2 l3 l4 l5 : oV} {a : Nat} {S : List oV} {σ : oSg} {Q : Option oV → (Nat → oC) → Prop} : oE d 79 17 [.inr (.inr (.inl a)), l1, l2, l3, l4, l5] S σ Q = oE d 79 18 [.inr (.inr (.inl a)), l1, l2, l3, l4, l5] (.inr (.inr (.inl a)) :: S) σ Q := pLdN (k := 0) f_79_17 rfl rfl rfl
theorem f_79_18 : oFet 79 18 = some (.getfield 30, 3) := by decide +kernel
theorem s_79_18 {d : Nat} {l0 l1 l2 l3 l4 l5 : oV} {a : Nat} {S : List oV} {σ : oSg} {Q : Option oV → (Nat → oC) → Prop} (hk : oKd a = some 1) : oE d 79 18 [l0, l1, l2, l3, l4, l5] (.inr (.inr (.inl a)) :: S) σ Q = oE d 79 21 [l0, l1, l2, l3, l4, l5] (.inr (.inr (.inl (oRf a 3))) :: S) σ Q := pGfR f_79_18 ow_79 fl_1_30 rfl (by decide) hk
theorem f_79_21 : oFet 79 21 = some (.getfield 97, 3) := by decide +kernel
theorem s_79_21 {d : Nat} {l0 l1 l2 l3 l4 l5 : oV} {a : Nat} {S : List oV} {σ : oSg} {Q : Option oV → (Nat → oC) → Prop} (hk : oKd a = some 7) : oE d 79 21 [l0, l1, l2, l3, l4, l5] (.inr (.inr (.inl a)) :: S) σ Q = oE d 79 24 [l0, l1, l2, l3, l4, l5] (.inl (σ.1 a 0) :: S) σ Q := pGfI f_79_21 ow_79 fl_1_97 rfl (by decide) hk
theorem f_79_24 : oFet 79 24 = some (.if_icmp .ge 50, 3) := by decide +kernel
theorem s_79_24 {d : Nat} {l0 l1 l2 l3 l4 l5 : oV} {x y : Int} {S : List oV} {σ : oSg} {Q : Option oV → (Nat → oC) → Prop} : oE d 79 24 [l0, l1, l2, l3, l4, l5] (.inl y :: .inl x :: S) σ Q = if y ≤ x then oE d 79 74 [l0, l1, l2, l3, l4, l5] S σ Q else oE d 79 27 [l0, l1, l2, l3, l4, l5] S σ Q := oCmpGe f_79_24 (by decide)
theorem f_79_27 : oFet 79 27 = some (.aload_n 0, 1) := by decide +kernel
theorem s_79_27 {d : Nat} {l1 l2 l3 l4 l5 : oV} {a : Nat} {S : List oV} {σ : oSg} {Q : Option oV → (Nat → oC) → Prop} : oE d 79 27 [.inr (.inr (.inl a)), l1, l2, l3, l4, l5] S σ Q = oE d 79 28 [.inr (.inr (.inl a)), l1, l2, l3, l4, l5] (.inr (.inr (.inl a)) :: S) σ Q := pLdN (k := 0) f_79_27 rfl rfl rfl
theorem f_79_28 : oFet 79 28 = some (.getfield 30, 3) := by decide +kernel
theorem s_79_28 {d : Nat} {l0 l1 l2 l3 l4 l5 : oV} {a : Nat} {S : List oV} {σ : oSg} {Q : Option oV → (Nat → oC) → Prop} (hk : oKd a = some 1) : oE d 79 28 [l0, l1, l2, l3, l4, l5] (.inr (.inr (.inl a)) :: S) σ Q = oE d 79 31 [l0, l1, l2, l3, l4, l5] (.inr (.inr (.inl (oRf a 3))) :: S) σ Q := pGfR f_79_28 ow_79 fl_1_30 rfl (by decide) hk
theorem f_79_31 : oFet 79 31 = some (.iload 4, 2) := by decide +kernel
theorem s_79_31 {d : Nat} {l0 l1 l2 l3 l5 : oV} {x : Int} {S : List oV} {σ : oSg} {Q : Option oV → (Nat → oC) → Prop} : oE d 79 31 [l0, l1, l2, l3, .inl x, l5] S σ Q = oE d 79 33 [l0, l1, l2, l3, .inl x, l5] (.inl x :: S) σ Q := pLd (i := 4) f_79_31 rfl rfl rfl
theorem f_79_33 : oFet 79 33 = some (.invokevirtual 98, 3) := by decide +kernel
theorem c_79_33 {d : Nat} {l0 l1 l2 l3 l4 l5 : oV} {x0 : oV} {a : Nat} {v : Option oV} {τ : oSg} {S : List oV} {σ : oSg} {Q : Option oV → (Nat → oC) → Prop} (hm : oMi d 80 [.inr (.inr (.inl a)), x0] σ v τ) (hk : oKd a = some 7) (hs : oSmall S = true) : oE d 79 33 [l0, l1, l2, l3, l4, l5] (x0 :: .inr (.inr (.inl a)) :: S) σ Q = oE d 79 36 [l0, l1, l2, l3, l4, l5] (v.toList ++ S) τ Q := pCallV f_79_33 ow_79 lk_1_98 mt_80 rfl rfl rfl hk hs hm
theorem f_79_36 : oFet 79 36 = some (.istore 5, 2) := by decide +kernel
theorem s_79_36 {d : Nat} {l0 l1 l2 l3 l4 l5 : oV} {x : Int} {S : List oV} {σ : oSg} {Q : Option oV → (Nat → oC) → Prop} (c5 : oCat l5 = 1) (c4 : oCat l4 = 1)  : oE d 79 36 [l0, l1, l2, l3, l4, l5] (.inl x :: S) σ Q = oE d 79 38 [l0, l1, l2, l3, l4, .inl x] S σ Q := pSt (i := 5) f_79_36 rfl rfl (show (5 : Nat) < 6 by decide) (oC1n c4) (oC1n c5) rfl
theorem f_79_38 : oFet 79 38 = some (.iload_n 1, 1) := by decide +kernel
theorem s_79_38 {d : Nat} {l0 l2 l3 l4 l5 : oV} {x : Int} {S : List oV} {σ : oSg} {Q : Option oV → (Nat → oC) → Prop} : oE d 79 38 [l0, .inl x, l2, l3, l4, l5] S σ Q = oE d 79 39 [l0, .inl x, l2, l3, l4, l5] (.inl x :: S) σ Q := pLdN (k := 1) f_79_38 rfl rfl rfl
theorem f_79_39 : oFet 79 39 = some (.iload 5, 2) := by decide +kernel
theorem s_79_39 {d : Nat} {l0 l1 l2 l3 l4 : oV} {x : Int} {S : List oV} {σ : oSg} {Q : Option oV → (Nat → oC) → Prop} : oE d 79 39 [l0, l1, l2, l3, l4, .inl x] S σ Q = oE d 79 41 [l0, l1, l2, l3, l4, .inl x] (.inl x :: S) σ Q := pLd (i := 5) f_79_39 rfl rfl rfl
theorem f_79_41 : oFet 79 41 = some (.invokestatic 87, 3) := by decide +kernel
theorem c_79_41 {d : Nat} {l0 l1 l2 l3 l4 l5 : oV} {x0 x1 : oV} {v : Option oV} {τ : oSg} {S : List oV} {σ : oSg} {Q : Option oV → (Nat → oC) → Prop} (hm : oMi d 28 [x0, x1] σ v τ) (hs : oSmall S = true) : oE d 79 41 [l0, l1, l2, l3, l4, l5] (x1 :: x0 :: S) σ Q = oE d 79 44 [l0, l1, l2, l3, l4, l5] (v.toList ++ S) τ Q := pCallS f_79_41 ow_79 lk_1_87 mt_28 rfl rfl rfl hs hm
theorem f_79_44 : oFet 79 44 = some (.ifCond .eq 24, 3) := by decide +kernel
theorem s_79_44 {d : Nat} {l0 l1 l2 l3 l4 l5 : oV} {x : Int} {S : List oV} {σ : oSg} {Q : Option oV → (Nat → oC) → Prop} : oE d 79 44 [l0, l1, l2, l3, l4, l5] (.inl x :: S) σ Q = if x = 0 then oE d 79 68 [l0, l1, l2, l3, l4, l5] S σ Q else oE d 79 47 [l0, l1, l2, l3, l4, l5] S σ Q := oIfEq f_79_44 (by decide)
theorem f_79_47 : oFet 79 47 = some (.iload_n 2, 1) := by decide +kernel
theorem s_79_47 {d : Nat} {l0 l1 l3 l4 l5 : oV} {x : Int} {S : List oV} {σ : oSg} {Q : Option oV → (Nat → oC) → Prop} : oE d 79 47 [l0, l1, .inl x, l3, l4, l5] S σ Q = oE d 79 48 [l0, l1, .inl x, l3, l4, l5] (.inl x :: S) σ Q := pLdN (k := 2) f_79_47 rfl rfl rfl
theorem f_79_48 : oFet 79 48 = some (.iload 5, 2) := by decide +kernel
theorem s_79_48 {d : Nat} {l0 l1 l2 l3 l4 : oV} {x : Int} {S : List oV} {σ : oSg} {Q : Option oV → (Nat → oC) → Prop} : oE d 79 48 [l0, l1, l2, l3, l4, .inl x] S σ Q = oE d 79 50 [l0, l1, l2, l3, l4, .inl x] (.inl x :: S) σ Q := pLd (i := 5) f_79_48 rfl rfl rfl
theorem f_79_50 : oFet 79 50 = some (.invokestatic 87, 3) := by decide +kernel
theorem c_79_50 {d : Nat} {l0 l1 l2 l3 l4 l5 : oV} {x0 x1 : oV} {v : Option oV} {τ : oSg} {S : List oV} {σ : oSg} {Q : Option oV → (Nat → oC) → Prop} (hm : oMi d 28 [x0, x1] σ v τ) (hs : oSmall S = true) : oE d 79 50 [l0, l1, l2, l3, l4, l5] (x1 :: x0 :: S) σ Q = oE d 79 53 [l0, l1, l2, l3, l4, l5] (v.toList ++ S) τ Q := pCallS f_79_50 ow_79 lk_1_87 mt_28 rfl rfl rfl hs hm
theorem f_79_53 : oFet 79 53 = some (.ifCond .eq 15, 3) := by decide +kernel
theorem s_79_53 {d : Nat} {l0 l1 l2 l3 l4 l5 : oV} {x : Int} {S : List oV} {σ : oSg} {Q : Option oV → (Nat → oC) → Prop} : oE d 79 53 [l0, l1, l2, l3, l4, l5] (.inl x :: S) σ Q = if x = 0 then oE d 79 68 [l0, l1, l2, l3, l4, l5] S σ Q else oE d 79 56 [l0, l1, l2, l3, l4, l5] S σ Q := oIfEq f_79_53 (by decide)
theorem f_79_56 : oFet 79 56 = some (.iload_n 3, 1) := by decide +kernel
theorem s_79_56 {d : Nat} {l0 l1 l2 l4 l5 : oV} {x : Int} {S : List oV} {σ : oSg} {Q : Option oV → (Nat → oC) → Prop} : oE d 79 56 [l0, l1, l2, .inl x, l4, l5] S σ Q = oE d 79 57 [l0, l1, l2, .inl x, l4, l5] (.inl x :: S) σ Q := pLdN (k := 3) f_79_56 rfl rfl rfl
theorem f_79_57 : oFet 79 57 = some (.aload_n 0, 1) := by decide +kernel
theorem s_79_57 {d : Nat} {l1 l2 l3 l4 l5 : oV} {a : Nat} {S : List oV} {σ : oSg} {Q : Option oV → (Nat → oC) → Prop} : oE d 79 57 [.inr (.inr (.inl a)), l1, l2, l3, l4, l5] S σ Q = oE d 79 58 [.inr (.inr (.inl a)), l1, l2, l3, l4, l5] (.inr (.inr (.inl a)) :: S) σ Q := pLdN (k := 0) f_79_57 rfl rfl rfl
theorem f_79_58 : oFet 79 58 = some (.getfield 30, 3) := by decide +kernel
theorem s_79_58 {d : Nat} {l0 l1 l2 l3 l4 l5 : oV} {a : Nat} {S : List oV} {σ : oSg} {Q : Option oV → (Nat → oC) → Prop} (hk : oKd a = some 1) : oE d 79 58 [l0, l1, l2, l3, l4, l5] (.inr (.inr (.inl a)) :: S) σ Q = oE d 79 61 [l0, l1, l2, l3, l4, l5] (.inr (.inr (.inl (oRf a 3))) :: S) σ Q := pGfR f_79_58 ow_79 fl_1_30 rfl (by decide) hk
theorem f_79_61 : oFet 79 61 = some (.iload 4, 2) := by decide +kernel
theorem s_79_61 {d : Nat} {l0 l1 l2 l3 l5 : oV} {x : Int} {S : List oV} {σ : oSg} {Q : Option oV → (Nat → oC) → Prop} : oE d 79 61 [l0, l1, l2, l3, .inl x, l5] S σ Q = oE d 79 63 [l0, l1, l2, l3, .inl x, l5] (.inl x :: S) σ Q := pLd (i := 4) f_79_61 rfl rfl rfl
theorem f_79_63 : oFet 79 63 = some (.invokevirtual 101, 3) := by decide +kernel
theorem c_79_63 {d : Nat} {l0 l1 l2 l3 l4 l5 : oV} {x0 : oV} {a : Nat} {v : Option oV} {τ : oSg} {S : List oV} {σ : oSg} {Q : Option oV → (Nat → oC) → Prop} (hm : oMi d 81 [.inr (.inr (.inl a)), x0] σ v τ) (hk : oKd a = some 7) (hs : oSmall S = true) : oE d 79 63 [l0, l1, l2, l3, l4, l5] (x0 :: .inr (.inr (.inl a)) :: S) σ Q = oE d 79 66 [l0, l1, l2, l3, l4, l5] (v.toList ++ S) τ Q := pCallV f_79_63 ow_79 lk_1_101 mt_81 rfl rfl rfl hk hs hm
theorem f_79_66 : oFet 79 66 = some (.iadd, 1) := by decide +kernel
theorem s_79_66 {d : Nat} {l0 l1 l2 l3 l4 l5 : oV} {x y : Int} {S : List oV} {σ : oSg} {Q : Option oV → (Nat → oC) → Prop} : oE d 79 66 [l0, l1, l2, l3, l4, l5] (.inl y :: .inl x :: S) σ Q = oE d 79 67 [l0, l1, l2, l3, l4, l5] (.inl (oAdd x y) :: S) σ Q := oS3 f_79_66 rfl rfl rfl
theorem f_79_67 : oFet 79 67 = some (.istore_n 3, 1) := by decide +kernel
theorem s_79_67 {d : Nat} {l0 l1 l2 l3 l4 l5 : oV} {x : Int} {S : List oV} {σ : oSg} {Q : Option oV → (Nat → oC) → Prop} (c3 : oCat l3 = 1) (c2 : oCat l2 = 1)  : oE d 79 67 [l0, l1, l2, l3, l4, l5] (.inl x :: S) σ Q = oE d 79 68 [l0, l1, l2, .inl x, l4, l5] S σ Q := pSt (i := 3) f_79_67 rfl rfl (show (3 : Nat) < 6 by decide) (oC1n c2) (oC1n c3) rfl
theorem f_79_68 : oFet 79 68 = some (.iinc 4 1, 3) := by decide +kernel
theorem s_79_68 {d : Nat} {l0 l1 l2 l3 l5 : oV} {x : Int} {S : List oV} {σ : oSg} {Q : Option oV → (Nat → oC) → Prop} (c3 : oCat l3 = 1)  : oE d 79 68 [l0, l1, l2, l3, .inl x, l5] S σ Q = oE d 79 71 [l0, l1, l2, l3, .inl (oAdd x (1)), l5] S σ Q := pInc f_79_68 rfl (show (4 : Nat) < 6 by decide) (oC1n c3) (oC1n (v := .inl x) rfl) rfl
theorem f_79_71 : oFet 79 71 = some (.goto (-56), 3) := by decide +kernel
theorem s_79_71 {d : Nat} {l0 l1 l2 l3 l4 l5 : oV} {S : List oV} {σ : oSg} {Q : Option oV → (Nat → oC) → Prop} : oE d 79 71 [l0, l1, l2, l3, l4, l5] S σ Q = oE d 79 15 [l0, l1, l2, l3, l4, l5] S σ Q := pGoto f_79_71 (by decide)
theorem f_79_74 : oFet 79 74 = some (.iload_n 3, 1) := by decide +kernel
theorem s_79_74 {d : Nat} {l0 l1 l2 l4 l5 : oV} {x : Int} {S : List oV} {σ : oSg} {Q : Option oV → (Nat → oC) → Prop} : oE d 79 74 [l0, l1, l2, .inl x, l4, l5] S σ Q = oE d 79 75 [l0, l1, l2, .inl x, l4, l5] (.inl x :: S) σ Q := pLdN (k := 3) f_79_74 rfl rfl rfl
theorem f_79_75 : oFet 79 75 = some (.iconst 2, 1) := by decide +kernel
theorem s_79_75 {d : Nat} {l0 l1 l2 l3 l4 l5 : oV} {S : List oV} {σ : oSg} {Q : Option oV → (Nat → oC) → Prop} : oE d 79 75 [l0, l1, l2, l3, l4, l5] S σ Q = oE d 79 76 [l0, l1, l2, l3, l4, l5] (.inl (2) :: S) σ Q := pKst f_79_75 (by decide)
theorem f_79_76 : oFet 79 76 = some (.aload_n 0, 1) := by decide +kernel
theorem s_79_76 {d : Nat} {l1 l2 l3 l4 l5 : oV} {a : Nat} {S : List oV} {σ : oSg} {Q : Option oV → (Nat → oC) → Prop} : oE d 79 76 [.inr (.inr (.inl a)), l1, l2, l3, l4, l5] S σ Q = oE d 79 77 [.inr (.inr (.inl a)), l1, l2, l3, l4, l5] (.inr (.inr (.inl a)) :: S) σ Q := pLdN (k := 0) f_79_76 rfl rfl rfl
theorem f_79_77 : oFet 79 77 = some (.getfield 12, 3) := by decide +kernel
theorem s_79_77 {d : Nat} {l0 l1 l2 l3 l4 l5 : oV} {a : Nat} {S : List oV} {σ : oSg} {Q : Option oV → (Nat → oC) → Prop} (hk : oKd a = some 1) : oE d 79 77 [l0, l1, l2, l3, l4, l5] (.inr (.inr (.inl a)) :: S) σ Q = oE d 79 80 [l0, l1, l2, l3, l4, l5] (.inr (.inr (.inl (oRf a 0))) :: S) σ Q := pGfR f_79_77 ow_79 fl_1_12 rfl (by decide) hk
theorem f_79_80 : oFet 79 80 = some (.iload_n 1, 1) := by decide +kernel
theorem s_79_80 {d : Nat} {l0 l2 l3 l4 l5 : oV} {x : Int} {S : List oV} {σ : oSg} {Q : Option oV → (Nat → oC) → Prop} : oE d 79 80 [l0, .inl x, l2, l3, l4, l5] S σ Q = oE d 79 81 [l0, .inl x, l2, l3, l4, l5] (.inl x :: S) σ Q := pLdN (k := 1) f_79_80 rfl rfl rfl
theorem f_79_81 : oFet 79 81 = some (.iload_n 2, 1) := by decide +kernel
theorem s_79_81 {d : Nat} {l0 l1 l3 l4 l5 : oV} {x : Int} {S : List oV} {σ : oSg} {Q : Option oV → (Nat → oC) → Prop} : oE d 79 81 [l0, l1, .inl x, l3, l4, l5] S σ Q = oE d 79 82 [l0, l1, .inl x, l3, l4, l5] (.inl x :: S) σ Q := pLdN (k := 2) f_79_81 rfl rfl rfl
theorem f_79_82 : oFet 79 82 = some (.invokevirtual 90, 3) := by decide +kernel
theorem c_79_82 {d : Nat} {l0 l1 l2 l3 l4 l5 : oV} {x0 x1 : oV} {a : Nat} {v : Option oV} {τ : oSg} {S : List oV} {σ : oSg} {Q : Option oV → (Nat → oC) → Prop} (hm : oMi d 16 [.inr (.inr (.inl a)), x0, x1] σ v τ) (hk : oKd a = some 4) (hs : oSmall S = true) : oE d 79 82 [l0, l1, l2, l3, l4, l5] (x1 :: x0 :: .inr (.inr (.inl a)) :: S) σ Q = oE d 79 85 [l0, l1, l2, l3, l4, l5] (v.toList ++ S) τ Q := pCallV f_79_82 ow_79 lk_1_90 mt_16 rfl rfl rfl hk hs hm
theorem f_79_85 : oFet 79 85 = some (.imul, 1) := by decide +kernel
theorem s_79_85 {d : Nat} {l0 l1 l2 l3 l4 l5 : oV} {x y : Int} {S : List oV} {σ : oSg} {Q : Option oV → (Nat → oC) → Prop} : oE d 79 85 [l0, l1, l2, l3, l4, l5] (.inl y :: .inl x :: S) σ Q = oE d 79 86 [l0, l1, l2, l3, l4, l5] (.inl (oMul x y) :: S) σ Q := oS3 f_79_85 rfl rfl rfl
theorem f_79_86 : oFet 79 86 = some (.isub, 1) := by decide +kernel
theorem s_79_86 {d : Nat} {l0 l1 l2 l3 l4 l5 : oV} {x y : Int} {S : List oV} {σ : oSg} {Q : Option oV → (Nat → oC) → Prop} : oE d 79 86 [l0, l1, l2, l3, l4, l5] (.inl y :: .inl x :: S) σ Q = oE d 79 87 [l0, l1, l2, l3, l4, l5] (.inl (oSub x y) :: S) σ Q := oS3 f_79_86 rfl rfl rfl
theorem f_79_87 : oFet 79 87 = some (.ireturn, 1) := by decide +kernel
theorem s_79_87 {d : Nat} {l0 l1 l2 l3 l4 l5 : oV} {x : Int} {σ : oSg} {Q : Option oV → (Nat → oC) → Prop} : oE d 79 87 [l0, l1, l2, l3, l4, l5] [.inl x] σ Q = Q (some (.inl x)) (oBld σ) := oIret f_79_87 rt_79
theorem ow_80 : (oMt 80).2.2.2.2.1 = 7 := by decide +kernel
theorem rt_80 : (oMt 80).2.2.2.1 = some .int := by decide +kernel
theorem nl_80 : (oMt 80).2.2.1 = 2 := by decide +kernel
theorem f_80_0 : oFet 80 0 = some (.iload_n 1, 1) := by decide +kernel
theorem s_80_0 {d : Nat} {l0 : oV} {x : Int} {S : List oV} {σ : oSg} {Q : Option oV → (Nat → oC) → Prop} : oE d 80 0 [l0, .inl x] S σ Q = oE d 80 1 [l0, .inl x] (.inl x :: S) σ Q := pLdN (k := 1) f_80_0 rfl rfl rfl
theorem f_80_1 : oFet 80 1 = some (.ifCond .lt 21, 3) := by decide +kernel
theorem s_80_1 {d : Nat} {l0 l1 : oV} {x : Int} {S : List oV} {σ : oSg} {Q : Option oV → (Nat → oC) → Prop} : oE d 80 1 [l0, l1] (.inl x :: S) σ Q = if x < 0 then oE d 80 22 [l0, l1] S σ Q else oE d 80 4 [l0, l1] S σ Q := oIfLt f_80_1 (by decide)
theorem f_80_4 : oFet 80 4 = some (.iload_n 1, 1) := by decide +kernel
theorem s_80_4 {d : Nat} {l0 : oV} {x : Int} {S : List oV} {σ : oSg} {Q : Option oV → (Nat → oC) → Prop} : oE d 80 4 [l0, .inl x] S σ Q = oE d 80 5 [l0, .inl x] (.inl x :: S) σ Q := pLdN (k := 1) f_80_4 rfl rfl rfl
theorem f_80_5 : oFet 80 5 = some (.aload_n 0, 1) := by decide +kernel
theorem s_80_5 {d : Nat} {l1 : oV} {a : Nat} {S : List oV} {σ : oSg} {Q : Option oV → (Nat → oC) → Prop} : oE d 80 5 [.inr (.inr (.inl a)), l1] S σ Q = oE d 80 6 [.inr (.inr (.inl a)), l1] (.inr (.inr (.inl a)) :: S) σ Q := pLdN (k := 0) f_80_5 rfl rfl rfl
theorem f_80_6 : oFet 80 6 = some (.getfield 15, 3) := by decide +kernel
theorem s_80_6 {d : Nat} {l0 l1 : oV} {a : Nat} {S : List oV} {σ : oSg} {Q : Option oV → (Nat → oC) → Prop} (hk : oKd a = some 7) : oE d 80 6 [l0, l1] (.inr (.inr (.inl a)) :: S) σ Q = oE d 80 9 [l0, l1] (.inr (.inr (.inl (oRf a 1))) :: S) σ Q := pGfR f_80_6 ow_80 fl_7_15 rfl (by decide) hk
theorem f_80_9 : oFet 80 9 = some (.arraylength, 1) := by decide +kernel
theorem s_80_9 {d : Nat} {l0 l1 : oV} {a : Nat} {S : List oV} {σ : oSg} {Q : Option oV → (Nat → oC) → Prop} (hk : oAk a = some 0) : oE d 80 9 [l0, l1] (.inr (.inr (.inl a)) :: S) σ Q = oE d 80 10 [l0, l1] (.inl (oLn a : Int) :: S) σ Q := oAln f_80_9 hk (by decide)
theorem f_80_10 : oFet 80 10 = some (.if_icmp .ge 12, 3) := by decide +kernel
theorem s_80_10 {d : Nat} {l0 l1 : oV} {x y : Int} {S : List oV} {σ : oSg} {Q : Option oV → (Nat → oC) → Prop} : oE d 80 10 [l0, l1] (.inl y :: .inl x :: S) σ Q = if y ≤ x then oE d 80 22 [l0, l1] S σ Q else oE d 80 13 [l0, l1] S σ Q := oCmpGe f_80_10 (by decide)
theorem f_80_13 : oFet 80 13 = some (.aload_n 0, 1) := by decide +kernel
theorem s_80_13 {d : Nat} {l1 : oV} {a : Nat} {S : List oV} {σ : oSg} {Q : Option oV → (Nat → oC) → Prop} : oE d 80 13 [.inr (.inr (.inl a)), l1] S σ Q = oE d 80 14 [.inr (.inr (.inl a)), l1] (.inr (.inr (.inl a)) :: S) σ Q := pLdN (k := 0) f_80_13 rfl rfl rfl
theorem f_80_14 : oFet 80 14 = some (.getfield 15, 3) := by decide +kernel
theorem s_80_14 {d : Nat} {l0 l1 : oV} {a : Nat} {S : List oV} {σ : oSg} {Q : Option oV → (Nat → oC) → Prop} (hk : oKd a = some 7) : oE d 80 14 [l0, l1] (.inr (.inr (.inl a)) :: S) σ Q = oE d 80 17 [l0, l1] (.inr (.inr (.inl (oRf a 1))) :: S) σ Q := pGfR f_80_14 ow_80 fl_7_15 rfl (by decide) hk
theorem f_80_17 : oFet 80 17 = some (.iload_n 1, 1) := by decide +kernel
theorem s_80_17 {d : Nat} {l0 : oV} {x : Int} {S : List oV} {σ : oSg} {Q : Option oV → (Nat → oC) → Prop} : oE d 80 17 [l0, .inl x] S σ Q = oE d 80 18 [l0, .inl x] (.inl x :: S) σ Q := pLdN (k := 1) f_80_17 rfl rfl rfl
theorem f_80_18 : oFet 80 18 = some (.iaload, 1) := by decide +kernel
theorem s_80_18 {d : Nat} {l0 l1 : oV} {a : Nat} {i : Int} {S : List oV} {σ : oSg} {Q : Option oV → (Nat → oC) → Prop} (hk : oAk a = some 0) (h0 : 0 ≤ i) (h1 : i < (oLn a : Int)) : oE d 80 18 [l0, l1] (.inl i :: .inr (.inr (.inl a)) :: S) σ Q = oE d 80 19 [l0, l1] (.inl (σ.2 a i.toNat) :: S) σ Q := oIal f_80_18 hk h0 h1
theorem f_80_19 : oFet 80 19 = some (.goto 4, 3) := by decide +kernel
theorem s_80_19 {d : Nat} {l0 l1 : oV} {S : List oV} {σ : oSg} {Q : Option oV → (Nat → oC) → Prop} : oE d 80 19 [l0, l1] S σ Q = oE d 80 23 [l0, l1] S σ Q := pGoto f_80_19 (by decide)
theorem f_80_22 : oFet 80 22 = some (.iconst (-1), 1) := by decide +kernel
theorem s_80_22 {d : Nat} {l0 l1 : oV} {S : List oV} {σ : oSg} {Q : Option oV → (Nat → oC) → Prop} : oE d 80 22 [l0, l1] S σ Q = oE d 80 23 [l0, l1] (.inl (-1) :: S) σ Q := pKst f_80_22 (by decide)
theorem f_80_23 : oFet 80 23 = some (.ireturn, 1) := by decide +kernel
theorem s_80_23 {d : Nat} {l0 l1 : oV} {x : Int} {σ : oSg} {Q : Option oV → (Nat → oC) → Prop} : oE d 80 23 [l0, l1] [.inl x] σ Q = Q (some (.inl x)) (oBld σ) := oIret f_80_23 rt_80
theorem ow_81 : (oMt 81).2.2.2.2.1 = 7 := by decide +kernel
theorem rt_81 : (oMt 81).2.2.2.1 = some .int := by decide +kernel
theorem nl_81 : (oMt 81).2.2.1 = 2 := by decide +kernel
theorem f_81_0 : oFet 81 0 = some (.iload_n 1, 1) := by decide +kernel
theorem s_81_0 {d : Nat} {l0 : oV} {x : Int} {S : List oV} {σ : oSg} {Q : Option oV → (Nat → oC) → Prop} : oE d 81 0 [l0, .inl x] S σ Q = oE d 81 1 [l0, .inl x] (.inl x :: S) σ Q := pLdN (k := 1) f_81_0 rfl rfl rfl
theorem f_81_1 : oFet 81 1 = some (.ifCond .lt 21, 3) := by decide +kernel
theorem s_81_1 {d : Nat} {l0 l1 : oV} {x : Int} {S : List oV} {σ : oSg} {Q : Option oV → (Nat → oC) → Prop} : oE d 81 1 [l0, l1] (.inl x :: S) σ Q = if x < 0 then oE d 81 22 [l0, l1] S σ Q else oE d 81 4 [l0, l1] S σ Q := oIfLt f_81_1 (by decide)
theorem f_81_4 : oFet 81 4 = some (.iload_n 1, 1) := by decide +kernel
theorem s_81_4 {d : Nat} {l0 : oV} {x : Int} {S : List oV} {σ : oSg} {Q : Option oV → (Nat → oC) → Prop} : oE d 81 4 [l0, .inl x] S σ Q = oE d 81 5 [l0, .inl x] (.inl x :: S) σ Q := pLdN (k := 1) f_81_4 rfl rfl rfl
theorem f_81_5 : oFet 81 5 = some (.aload_n 0, 1) := by decide +kernel
theorem s_81_5 {d : Nat} {l1 : oV} {a : Nat} {S : List oV} {σ : oSg} {Q : Option oV → (Nat → oC) → Prop} : oE d 81 5 [.inr (.inr (.inl a)), l1] S σ Q = oE d 81 6 [.inr (.inr (.inl a)), l1] (.inr (.inr (.inl a)) :: S) σ Q := pLdN (k := 0) f_81_5 rfl rfl rfl
theorem f_81_6 : oFet 81 6 = some (.getfield 21, 3) := by decide +kernel
theorem s_81_6 {d : Nat} {l0 l1 : oV} {a : Nat} {S : List oV} {σ : oSg} {Q : Option oV → (Nat → oC) → Prop} (hk : oKd a = some 7) : oE d 81 6 [l0, l1] (.inr (.inr (.inl a)) :: S) σ Q = oE d 81 9 [l0, l1] (.inr (.inr (.inl (oRf a 2))) :: S) σ Q := pGfR f_81_6 ow_81 fl_7_21 rfl (by decide) hk
theorem f_81_9 : oFet 81 9 = some (.arraylength, 1) := by decide +kernel
theorem s_81_9 {d : Nat} {l0 l1 : oV} {a : Nat} {S : List oV} {σ : oSg} {Q : Option oV → (Nat → oC) → Prop} (hk : oAk a = some 0) : oE d 81 9 [l0, l1] (.inr (.inr (.inl a)) :: S) σ Q = oE d 81 10 [l0, l1] (.inl (oLn a : Int) :: S) σ Q := oAln f_81_9 hk (by decide)
theorem f_81_10 : oFet 81 10 = some (.if_icmp .ge 12, 3) := by decide +kernel
theorem s_81_10 {d : Nat} {l0 l1 : oV} {x y : Int} {S : List oV} {σ : oSg} {Q : Option oV → (Nat → oC) → Prop} : oE d 81 10 [l0, l1] (.inl y :: .inl x :: S) σ Q = if y ≤ x then oE d 81 22 [l0, l1] S σ Q else oE d 81 13 [l0, l1] S σ Q := oCmpGe f_81_10 (by decide)
theorem f_81_13 : oFet 81 13 = some (.aload_n 0, 1) := by decide +kernel
theorem s_81_13 {d : Nat} {l1 : oV} {a : Nat} {S : List oV} {σ : oSg} {Q : Option oV → (Nat → oC) → Prop} : oE d 81 13 [.inr (.inr (.inl a)), l1] S σ Q = oE d 81 14 [.inr (.inr (.inl a)), l1] (.inr (.inr (.inl a)) :: S) σ Q := pLdN (k := 0) f_81_13 rfl rfl rfl
theorem f_81_14 : oFet 81 14 = some (.getfield 21, 3) := by decide +kernel
theorem s_81_14 {d : Nat} {l0 l1 : oV} {a : Nat} {S : List oV} {σ : oSg} {Q : Option oV → (Nat → oC) → Prop} (hk : oKd a = some 7) : oE d 81 14 [l0, l1] (.inr (.inr (.inl a)) :: S) σ Q = oE d 81 17 [l0, l1] (.inr (.inr (.inl (oRf a 2))) :: S) σ Q := pGfR f_81_14 ow_81 fl_7_21 rfl (by decide) hk
theorem f_81_17 : oFet 81 17 = some (.iload_n 1, 1) := by decide +kernel
theorem s_81_17 {d : Nat} {l0 : oV} {x : Int} {S : List oV} {σ : oSg} {Q : Option oV → (Nat → oC) → Prop} : oE d 81 17 [l0, .inl x] S σ Q = oE d 81 18 [l0, .inl x] (.inl x :: S) σ Q := pLdN (k := 1) f_81_17 rfl rfl rfl
theorem f_81_18 : oFet 81 18 = some (.iaload, 1) := by decide +kernel
theorem s_81_18 {d : Nat} {l0 l1 : oV} {a : Nat} {i : Int} {S : List oV} {σ : oSg} {Q : Option oV → (Nat → oC) → Prop} (hk : oAk a = some 0) (h0 : 0 ≤ i) (h1 : i < (oLn a : Int)) : oE d 81 18 [l0, l1] (.inl i :: .inr (.inr (.inl a)) :: S) σ Q = oE d 81 19 [l0, l1] (.inl (σ.2 a i.toNat) :: S) σ Q := oIal f_81_18 hk h0 h1
theorem f_81_19 : oFet 81 19 = some (.goto 4, 3) := by decide +kernel
theorem s_81_19 {d : Nat} {l0 l1 : oV} {S : List oV} {σ : oSg} {Q : Option oV → (Nat → oC) → Prop} : oE d 81 19 [l0, l1] S σ Q = oE d 81 23 [l0, l1] S σ Q := pGoto f_81_19 (by decide)
theorem f_81_22 : oFet 81 22 = some (.iconst (-1), 1) := by decide +kernel
theorem s_81_22 {d : Nat} {l0 l1 : oV} {S : List oV} {σ : oSg} {Q : Option oV → (Nat → oC) → Prop} : oE d 81 22 [l0, l1] S σ Q = oE d 81 23 [l0, l1] (.inl (-1) :: S) σ Q := pKst f_81_22 (by decide)
theorem f_81_23 : oFet 81 23 = some (.ireturn, 1) := by decide +kernel
theorem s_81_23 {d : Nat} {l0 l1 : oV} {x : Int} {σ : oSg} {Q : Option oV → (Nat → oC) → Prop} : oE d 81 23 [l0, l1] [.inl x] σ Q = Q (some (.inl x)) (oBld σ) := oIret f_81_23 rt_81
theorem ow_82 : (oMt 82).2.2.2.2.1 = 1 := by decide +kernel
theorem rt_82 : (oMt 82).2.2.2.1 = some .int := by decide +kernel
theorem nl_82 : (oMt 82).2.2.1 = 3 := by decide +kernel
theorem f_82_0 : oFet 82 0 = some (.iconst 0, 1) := by decide +kernel
theorem s_82_0 {d : Nat} {l0 l1 l2 : oV} {S : List oV} {σ : oSg} {Q : Option oV → (Nat → oC) → Prop} : oE d 82 0 [l0, l1, l2] S σ Q = oE d 82 1 [l0, l1, l2] (.inl (0) :: S) σ Q := pKst f_82_0 (by decide)
theorem f_82_1 : oFet 82 1 = some (.istore_n 1, 1) := by decide +kernel
theorem s_82_1 {d : Nat} {l0 l1 l2 : oV} {x : Int} {S : List oV} {σ : oSg} {Q : Option oV → (Nat → oC) → Prop} (c1 : oCat l1 = 1) (c0 : oCat l0 = 1)  : oE d 82 1 [l0, l1, l2] (.inl x :: S) σ Q = oE d 82 2 [l0, .inl x, l2] S σ Q := pSt (i := 1) f_82_1 rfl rfl (show (1 : Nat) < 3 by decide) (oC1n c0) (oC1n c1) rfl
theorem f_82_2 : oFet 82 2 = some (.iconst 0, 1) := by decide +kernel
theorem s_82_2 {d : Nat} {l0 l1 l2 : oV} {S : List oV} {σ : oSg} {Q : Option oV → (Nat → oC) → Prop} : oE d 82 2 [l0, l1, l2] S σ Q = oE d 82 3 [l0, l1, l2] (.inl (0) :: S) σ Q := pKst f_82_2 (by decide)
theorem f_82_3 : oFet 82 3 = some (.istore_n 2, 1) := by decide +kernel
theorem s_82_3 {d : Nat} {l0 l1 l2 : oV} {x : Int} {S : List oV} {σ : oSg} {Q : Option oV → (Nat → oC) → Prop} (c2 : oCat l2 = 1) (c1 : oCat l1 = 1)  : oE d 82 3 [l0, l1, l2] (.inl x :: S) σ Q = oE d 82 4 [l0, l1, .inl x] S σ Q := pSt (i := 2) f_82_3 rfl rfl (show (2 : Nat) < 3 by decide) (oC1n c1) (oC1n c2) rfl
theorem f_82_4 : oFet 82 4 = some (.iload_n 2, 1) := by decide +kernel
theorem s_82_4 {d : Nat} {l0 l1 : oV} {x : Int} {S : List oV} {σ : oSg} {Q : Option oV → (Nat → oC) → Prop} : oE d 82 4 [l0, l1, .inl x] S σ Q = oE d 82 5 [l0, l1, .inl x] (.inl x :: S) σ Q := pLdN (k := 2) f_82_4 rfl rfl rfl
theorem f_82_5 : oFet 82 5 = some (.aload_n 0, 1) := by decide +kernel
theorem s_82_5 {d : Nat} {l1 l2 : oV} {a : Nat} {S : List oV} {σ : oSg} {Q : Option oV → (Nat → oC) → Prop} : oE d 82 5 [.inr (.inr (.inl a)), l1, l2] S σ Q = oE d 82 6 [.inr (.inr (.inl a)), l1, l2] (.inr (.inr (.inl a)) :: S) σ Q := pLdN (k := 0) f_82_5 rfl rfl rfl
theorem f_82_6 : oFet 82 6 = some (.getfield 12, 3) := by decide +kernel
theorem s_82_6 {d : Nat} {l0 l1 l2 : oV} {a : Nat} {S : List oV} {σ : oSg} {Q : Option oV → (Nat → oC) → Prop} (hk : oKd a = some 1) : oE d 82 6 [l0, l1, l2] (.inr (.inr (.inl a)) :: S) σ Q = oE d 82 9 [l0, l1, l2] (.inr (.inr (.inl (oRf a 0))) :: S) σ Q := pGfR f_82_6 ow_82 fl_1_12 rfl (by decide) hk
theorem f_82_9 : oFet 82 9 = some (.getfield 84, 3) := by decide +kernel
theorem s_82_9 {d : Nat} {l0 l1 l2 : oV} {a : Nat} {S : List oV} {σ : oSg} {Q : Option oV → (Nat → oC) → Prop} (hk : oKd a = some 4) : oE d 82 9 [l0, l1, l2] (.inr (.inr (.inl a)) :: S) σ Q = oE d 82 12 [l0, l1, l2] (.inl (σ.1 a 0) :: S) σ Q := pGfI f_82_9 ow_82 fl_1_84 rfl (by decide) hk
theorem f_82_12 : oFet 82 12 = some (.if_icmp .ge 17, 3) := by decide +kernel
theorem s_82_12 {d : Nat} {l0 l1 l2 : oV} {x y : Int} {S : List oV} {σ : oSg} {Q : Option oV → (Nat → oC) → Prop} : oE d 82 12 [l0, l1, l2] (.inl y :: .inl x :: S) σ Q = if y ≤ x then oE d 82 29 [l0, l1, l2] S σ Q else oE d 82 15 [l0, l1, l2] S σ Q := oCmpGe f_82_12 (by decide)
theorem f_82_15 : oFet 82 15 = some (.iload_n 1, 1) := by decide +kernel
theorem s_82_15 {d : Nat} {l0 l2 : oV} {x : Int} {S : List oV} {σ : oSg} {Q : Option oV → (Nat → oC) → Prop} : oE d 82 15 [l0, .inl x, l2] S σ Q = oE d 82 16 [l0, .inl x, l2] (.inl x :: S) σ Q := pLdN (k := 1) f_82_15 rfl rfl rfl
theorem f_82_16 : oFet 82 16 = some (.aload_n 0, 1) := by decide +kernel
theorem s_82_16 {d : Nat} {l1 l2 : oV} {a : Nat} {S : List oV} {σ : oSg} {Q : Option oV → (Nat → oC) → Prop} : oE d 82 16 [.inr (.inr (.inl a)), l1, l2] S σ Q = oE d 82 17 [.inr (.inr (.inl a)), l1, l2] (.inr (.inr (.inl a)) :: S) σ Q := pLdN (k := 0) f_82_16 rfl rfl rfl
theorem f_82_17 : oFet 82 17 = some (.iload_n 2, 1) := by decide +kernel
theorem s_82_17 {d : Nat} {l0 l1 : oV} {x : Int} {S : List oV} {σ : oSg} {Q : Option oV → (Nat → oC) → Prop} : oE d 82 17 [l0, l1, .inl x] S σ Q = oE d 82 18 [l0, l1, .inl x] (.inl x :: S) σ Q := pLdN (k := 2) f_82_17 rfl rfl rfl
theorem f_82_18 : oFet 82 18 = some (.invokevirtual 94, 3) := by decide +kernel
theorem c_82_18 {d : Nat} {l0 l1 l2 : oV} {x0 : oV} {a : Nat} {v : Option oV} {τ : oSg} {S : List oV} {σ : oSg} {Q : Option oV → (Nat → oC) → Prop} (hm : oMi d 63 [.inr (.inr (.inl a)), x0] σ v τ) (hk : oKd a = some 1) (hs : oSmall S = true) : oE d 82 18 [l0, l1, l2] (x0 :: .inr (.inr (.inl a)) :: S) σ Q = oE d 82 21 [l0, l1, l2] (v.toList ++ S) τ Q := pCallV f_82_18 ow_82 lk_1_94 mt_63 rfl rfl rfl hk hs hm
theorem f_82_21 : oFet 82 21 = some (.iadd, 1) := by decide +kernel
theorem s_82_21 {d : Nat} {l0 l1 l2 : oV} {x y : Int} {S : List oV} {σ : oSg} {Q : Option oV → (Nat → oC) → Prop} : oE d 82 21 [l0, l1, l2] (.inl y :: .inl x :: S) σ Q = oE d 82 22 [l0, l1, l2] (.inl (oAdd x y) :: S) σ Q := oS3 f_82_21 rfl rfl rfl
theorem f_82_22 : oFet 82 22 = some (.istore_n 1, 1) := by decide +kernel
theorem s_82_22 {d : Nat} {l0 l1 l2 : oV} {x : Int} {S : List oV} {σ : oSg} {Q : Option oV → (Nat → oC) → Prop} (c1 : oCat l1 = 1) (c0 : oCat l0 = 1)  : oE d 82 22 [l0, l1, l2] (.inl x :: S) σ Q = oE d 82 23 [l0, .inl x, l2] S σ Q := pSt (i := 1) f_82_22 rfl rfl (show (1 : Nat) < 3 by decide) (oC1n c0) (oC1n c1) rfl
theorem f_82_23 : oFet 82 23 = some (.iinc 2 1, 3) := by decide +kernel
theorem s_82_23 {d : Nat} {l0 l1 : oV} {x : Int} {S : List oV} {σ : oSg} {Q : Option oV → (Nat → oC) → Prop} (c1 : oCat l1 = 1)  : oE d 82 23 [l0, l1, .inl x] S σ Q = oE d 82 26 [l0, l1, .inl (oAdd x (1))] S σ Q := pInc f_82_23 rfl (show (2 : Nat) < 3 by decide) (oC1n c1) (oC1n (v := .inl x) rfl) rfl
theorem f_82_26 : oFet 82 26 = some (.goto (-22), 3) := by decide +kernel
theorem s_82_26 {d : Nat} {l0 l1 l2 : oV} {S : List oV} {σ : oSg} {Q : Option oV → (Nat → oC) → Prop} : oE d 82 26 [l0, l1, l2] S σ Q = oE d 82 4 [l0, l1, l2] S σ Q := pGoto f_82_26 (by decide)
theorem f_82_29 : oFet 82 29 = some (.iconst 0, 1) := by decide +kernel
theorem s_82_29 {d : Nat} {l0 l1 l2 : oV} {S : List oV} {σ : oSg} {Q : Option oV → (Nat → oC) → Prop} : oE d 82 29 [l0, l1, l2] S σ Q = oE d 82 30 [l0, l1, l2] (.inl (0) :: S) σ Q := pKst f_82_29 (by decide)
theorem f_82_30 : oFet 82 30 = some (.istore_n 2, 1) := by decide +kernel
theorem s_82_30 {d : Nat} {l0 l1 l2 : oV} {x : Int} {S : List oV} {σ : oSg} {Q : Option oV → (Nat → oC) → Prop} (c2 : oCat l2 = 1) (c1 : oCat l1 = 1)  : oE d 82 30 [l0, l1, l2] (.inl x :: S) σ Q = oE d 82 31 [l0, l1, .inl x] S σ Q := pSt (i := 2) f_82_30 rfl rfl (show (2 : Nat) < 3 by decide) (oC1n c1) (oC1n c2) rfl
theorem f_82_31 : oFet 82 31 = some (.iload_n 2, 1) := by decide +kernel
theorem s_82_31 {d : Nat} {l0 l1 : oV} {x : Int} {S : List oV} {σ : oSg} {Q : Option oV → (Nat → oC) → Prop} : oE d 82 31 [l0, l1, .inl x] S σ Q = oE d 82 32 [l0, l1, .inl x] (.inl x :: S) σ Q := pLdN (k := 2) f_82_31 rfl rfl rfl
theorem f_82_32 : oFet 82 32 = some (.aload_n 0, 1) := by decide +kernel
theorem s_82_32 {d : Nat} {l1 l2 : oV} {a : Nat} {S : List oV} {σ : oSg} {Q : Option oV → (Nat → oC) → Prop} : oE d 82 32 [.inr (.inr (.inl a)), l1, l2] S σ Q = oE d 82 33 [.inr (.inr (.inl a)), l1, l2] (.inr (.inr (.inl a)) :: S) σ Q := pLdN (k := 0) f_82_32 rfl rfl rfl
theorem f_82_33 : oFet 82 33 = some (.getfield 30, 3) := by decide +kernel
theorem s_82_33 {d : Nat} {l0 l1 l2 : oV} {a : Nat} {S : List oV} {σ : oSg} {Q : Option oV → (Nat → oC) → Prop} (hk : oKd a = some 1) : oE d 82 33 [l0, l1, l2] (.inr (.inr (.inl a)) :: S) σ Q = oE d 82 36 [l0, l1, l2] (.inr (.inr (.inl (oRf a 3))) :: S) σ Q := pGfR f_82_33 ow_82 fl_1_30 rfl (by decide) hk
theorem f_82_36 : oFet 82 36 = some (.getfield 97, 3) := by decide +kernel
theorem s_82_36 {d : Nat} {l0 l1 l2 : oV} {a : Nat} {S : List oV} {σ : oSg} {Q : Option oV → (Nat → oC) → Prop} (hk : oKd a = some 7) : oE d 82 36 [l0, l1, l2] (.inr (.inr (.inl a)) :: S) σ Q = oE d 82 39 [l0, l1, l2] (.inl (σ.1 a 0) :: S) σ Q := pGfI f_82_36 ow_82 fl_1_97 rfl (by decide) hk
theorem f_82_39 : oFet 82 39 = some (.if_icmp .ge 32, 3) := by decide +kernel
theorem s_82_39 {d : Nat} {l0 l1 l2 : oV} {x y : Int} {S : List oV} {σ : oSg} {Q : Option oV → (Nat → oC) → Prop} : oE d 82 39 [l0, l1, l2] (.inl y :: .inl x :: S) σ Q = if y ≤ x then oE d 82 71 [l0, l1, l2] S σ Q else oE d 82 42 [l0, l1, l2] S σ Q := oCmpGe f_82_39 (by decide)
theorem f_82_42 : oFet 82 42 = some (.iload_n 1, 1) := by decide +kernel
theorem s_82_42 {d : Nat} {l0 l2 : oV} {x : Int} {S : List oV} {σ : oSg} {Q : Option oV → (Nat → oC) → Prop} : oE d 82 42 [l0, .inl x, l2] S σ Q = oE d 82 43 [l0, .inl x, l2] (.inl x :: S) σ Q := pLdN (k := 1) f_82_42 rfl rfl rfl
theorem f_82_43 : oFet 82 43 = some (.aload_n 0, 1) := by decide +kernel
theorem s_82_43 {d : Nat} {l1 l2 : oV} {a : Nat} {S : List oV} {σ : oSg} {Q : Option oV → (Nat → oC) → Prop} : oE d 82 43 [.inr (.inr (.inl a)), l1, l2] S σ Q = oE d 82 44 [.inr (.inr (.inl a)), l1, l2] (.inr (.inr (.inl a)) :: S) σ Q := pLdN (k := 0) f_82_43 rfl rfl rfl
theorem f_82_44 : oFet 82 44 = some (.getfield 30, 3) := by decide +kernel
theorem s_82_44 {d : Nat} {l0 l1 l2 : oV} {a : Nat} {S : List oV} {σ : oSg} {Q : Option oV → (Nat → oC) → Prop} (hk : oKd a = some 1) : oE d 82 44 [l0, l1, l2] (.inr (.inr (.inl a)) :: S) σ Q = oE d 82 47 [l0, l1, l2] (.inr (.inr (.inl (oRf a 3))) :: S) σ Q := pGfR f_82_44 ow_82 fl_1_30 rfl (by decide) hk
theorem f_82_47 : oFet 82 47 = some (.iload_n 2, 1) := by decide +kernel
theorem s_82_47 {d : Nat} {l0 l1 : oV} {x : Int} {S : List oV} {σ : oSg} {Q : Option oV → (Nat → oC) → Prop} : oE d 82 47 [l0, l1, .inl x] S σ Q = oE d 82 48 [l0, l1, .inl x] (.inl x :: S) σ Q := pLdN (k := 2) f_82_47 rfl rfl rfl
theorem f_82_48 : oFet 82 48 = some (.invokevirtual 101, 3) := by decide +kernel
theorem c_82_48 {d : Nat} {l0 l1 l2 : oV} {x0 : oV} {a : Nat} {v : Option oV} {τ : oSg} {S : List oV} {σ : oSg} {Q : Option oV → (Nat → oC) → Prop} (hm : oMi d 81 [.inr (.inr (.inl a)), x0] σ v τ) (hk : oKd a = some 7) (hs : oSmall S = true) : oE d 82 48 [l0, l1, l2] (x0 :: .inr (.inr (.inl a)) :: S) σ Q = oE d 82 51 [l0, l1, l2] (v.toList ++ S) τ Q := pCallV f_82_48 ow_82 lk_1_101 mt_81 rfl rfl rfl hk hs hm
theorem f_82_51 : oFet 82 51 = some (.aload_n 0, 1) := by decide +kernel
theorem s_82_51 {d : Nat} {l1 l2 : oV} {a : Nat} {S : List oV} {σ : oSg} {Q : Option oV → (Nat → oC) → Prop} : oE d 82 51 [.inr (.inr (.inl a)), l1, l2] S σ Q = oE d 82 52 [.inr (.inr (.inl a)), l1, l2] (.inr (.inr (.inl a)) :: S) σ Q := pLdN (k := 0) f_82_51 rfl rfl rfl
theorem f_82_52 : oFet 82 52 = some (.getfield 30, 3) := by decide +kernel
theorem s_82_52 {d : Nat} {l0 l1 l2 : oV} {a : Nat} {S : List oV} {σ : oSg} {Q : Option oV → (Nat → oC) → Prop} (hk : oKd a = some 1) : oE d 82 52 [l0, l1, l2] (.inr (.inr (.inl a)) :: S) σ Q = oE d 82 55 [l0, l1, l2] (.inr (.inr (.inl (oRf a 3))) :: S) σ Q := pGfR f_82_52 ow_82 fl_1_30 rfl (by decide) hk
theorem f_82_55 : oFet 82 55 = some (.iload_n 2, 1) := by decide +kernel
theorem s_82_55 {d : Nat} {l0 l1 : oV} {x : Int} {S : List oV} {σ : oSg} {Q : Option oV → (Nat → oC) → Prop} : oE d 82 55 [l0, l1, .inl x] S σ Q = oE d 82 56 [l0, l1, .inl x] (.inl x :: S) σ Q := pLdN (k := 2) f_82_55 rfl rfl rfl
theorem f_82_56 : oFet 82 56 = some (.invokevirtual 98, 3) := by decide +kernel
theorem c_82_56 {d : Nat} {l0 l1 l2 : oV} {x0 : oV} {a : Nat} {v : Option oV} {τ : oSg} {S : List oV} {σ : oSg} {Q : Option oV → (Nat → oC) → Prop} (hm : oMi d 80 [.inr (.inr (.inl a)), x0] σ v τ) (hk : oKd a = some 7) (hs : oSmall S = true) : oE d 82 56 [l0, l1, l2] (x0 :: .inr (.inr (.inl a)) :: S) σ Q = oE d 82 59 [l0, l1, l2] (v.toList ++ S) τ Q := pCallV f_82_56 ow_82 lk_1_98 mt_80 rfl rfl rfl hk hs hm
theorem f_82_59 : oFet 82 59 = some (.invokestatic 110, 3) := by decide +kernel
theorem c_82_59 {d : Nat} {l0 l1 l2 : oV} {x0 : oV} {v : Option oV} {τ : oSg} {S : List oV} {σ : oSg} {Q : Option oV → (Nat → oC) → Prop} (hm : oMi d 83 [x0] σ v τ) (hs : oSmall S = true) : oE d 82 59 [l0, l1, l2] (x0 :: S) σ Q = oE d 82 62 [l0, l1, l2] (v.toList ++ S) τ Q := pCallS f_82_59 ow_82 lk_1_110 mt_83 rfl rfl rfl hs hm
theorem f_82_62 : oFet 82 62 = some (.imul, 1) := by decide +kernel
theorem s_82_62 {d : Nat} {l0 l1 l2 : oV} {x y : Int} {S : List oV} {σ : oSg} {Q : Option oV → (Nat → oC) → Prop} : oE d 82 62 [l0, l1, l2] (.inl y :: .inl x :: S) σ Q = oE d 82 63 [l0, l1, l2] (.inl (oMul x y) :: S) σ Q := oS3 f_82_62 rfl rfl rfl
theorem f_82_63 : oFet 82 63 = some (.iadd, 1) := by decide +kernel
theorem s_82_63 {d : Nat} {l0 l1 l2 : oV} {x y : Int} {S : List oV} {σ : oSg} {Q : Option oV → (Nat → oC) → Prop} : oE d 82 63 [l0, l1, l2] (.inl y :: .inl x :: S) σ Q = oE d 82 64 [l0, l1, l2] (.inl (oAdd x y) :: S) σ Q := oS3 f_82_63 rfl rfl rfl
theorem f_82_64 : oFet 82 64 = some (.istore_n 1, 1) := by decide +kernel
theorem s_82_64 {d : Nat} {l0 l1 l2 : oV} {x : Int} {S : List oV} {σ : oSg} {Q : Option oV → (Nat → oC) → Prop} (c1 : oCat l1 = 1) (c0 : oCat l0 = 1)  : oE d 82 64 [l0, l1, l2] (.inl x :: S) σ Q = oE d 82 65 [l0, .inl x, l2] S σ Q := pSt (i := 1) f_82_64 rfl rfl (show (1 : Nat) < 3 by decide) (oC1n c0) (oC1n c1) rfl
theorem f_82_65 : oFet 82 65 = some (.iinc 2 1, 3) := by decide +kernel
theorem s_82_65 {d : Nat} {l0 l1 : oV} {x : Int} {S : List oV} {σ : oSg} {Q : Option oV → (Nat → oC) → Prop} (c1 : oCat l1 = 1)  : oE d 82 65 [l0, l1, .inl x] S σ Q = oE d 82 68 [l0, l1, .inl (oAdd x (1))] S σ Q := pInc f_82_65 rfl (show (2 : Nat) < 3 by decide) (oC1n c1) (oC1n (v := .inl x) rfl) rfl
theorem f_82_68 : oFet 82 68 = some (.goto (-37), 3) := by decide +kernel
theorem s_82_68 {d : Nat} {l0 l1 l2 : oV} {S : List oV} {σ : oSg} {Q : Option oV → (Nat → oC) → Prop} : oE d 82 68 [l0, l1, l2] S σ Q = oE d 82 31 [l0, l1, l2] S σ Q := pGoto f_82_68 (by decide)
theorem f_82_71 : oFet 82 71 = some (.iload_n 1, 1) := by decide +kernel
theorem s_82_71 {d : Nat} {l0 l2 : oV} {x : Int} {S : List oV} {σ : oSg} {Q : Option oV → (Nat → oC) → Prop} : oE d 82 71 [l0, .inl x, l2] S σ Q = oE d 82 72 [l0, .inl x, l2] (.inl x :: S) σ Q := pLdN (k := 1) f_82_71 rfl rfl rfl
theorem f_82_72 : oFet 82 72 = some (.ireturn, 1) := by decide +kernel
theorem s_82_72 {d : Nat} {l0 l1 l2 : oV} {x : Int} {σ : oSg} {Q : Option oV → (Nat → oC) → Prop} : oE d 82 72 [l0, l1, l2] [.inl x] σ Q = Q (some (.inl x)) (oBld σ) := oIret f_82_72 rt_82
theorem ow_83 : (oMt 83).2.2.2.2.1 = 1 := by decide +kernel
theorem rt_83 : (oMt 83).2.2.2.1 = some .int := by decide +kernel
theorem nl_83 : (oMt 83).2.2.1 = 1 := by decide +kernel
theorem f_83_0 : oFet 83 0 = some (.iload_n 0, 1) := by decide +kernel
theorem s_83_0 {d : Nat} {x : Int} {S : List oV} {σ : oSg} {Q : Option oV → (Nat → oC) → Prop} : oE d 83 0 [.inl x] S σ Q = oE d 83 1 [.inl x] (.inl x :: S) σ Q := pLdN (k := 0) f_83_0 rfl rfl rfl
theorem f_83_1 : oFet 83 1 = some (.invokestatic 113, 3) := by decide +kernel
theorem c_83_1 {d : Nat} {l0 : oV} {x0 : oV} {v : Option oV} {τ : oSg} {S : List oV} {σ : oSg} {Q : Option oV → (Nat → oC) → Prop} (hm : oMi d 35 [x0] σ v τ) (hs : oSmall S = true) : oE d 83 1 [l0] (x0 :: S) σ Q = oE d 83 4 [l0] (v.toList ++ S) τ Q := pCallS f_83_1 ow_83 lk_1_113 mt_35 rfl rfl rfl hs hm
theorem f_83_4 : oFet 83 4 = some (.iconst 1, 1) := by decide +kernel
theorem s_83_4 {d : Nat} {l0 : oV} {S : List oV} {σ : oSg} {Q : Option oV → (Nat → oC) → Prop} : oE d 83 4 [l0] S σ Q = oE d 83 5 [l0] (.inl (1) :: S) σ Q := pKst f_83_4 (by decide)
theorem f_83_5 : oFet 83 5 = some (.isub, 1) := by decide +kernel
theorem s_83_5 {d : Nat} {l0 : oV} {x y : Int} {S : List oV} {σ : oSg} {Q : Option oV → (Nat → oC) → Prop} : oE d 83 5 [l0] (.inl y :: .inl x :: S) σ Q = oE d 83 6 [l0] (.inl (oSub x y) :: S) σ Q := oS3 f_83_5 rfl rfl rfl
theorem f_83_6 : oFet 83 6 = some (.iconst 2, 1) := by decide +kernel
theorem s_83_6 {d : Nat} {l0 : oV} {S : List oV} {σ : oSg} {Q : Option oV → (Nat → oC) → Prop} : oE d 83 6 [l0] S σ Q = oE d 83 7 [l0] (.inl (2) :: S) σ Q := pKst f_83_6 (by decide)
theorem f_83_7 : oFet 83 7 = some (.idiv, 1) := by decide +kernel
theorem s_83_7 {d : Nat} {l0 : oV} {x y : Int} {S : List oV} {σ : oSg} {Q : Option oV → (Nat → oC) → Prop} (hy : y ≠ 0) : oE d 83 7 [l0] (.inl y :: .inl x :: S) σ Q = oE d 83 8 [l0] (.inl (oDiv x y) :: S) σ Q := pDiv f_83_7 hy
theorem f_83_8 : oFet 83 8 = some (.ireturn, 1) := by decide +kernel
theorem s_83_8 {d : Nat} {l0 : oV} {x : Int} {σ : oSg} {Q : Option oV → (Nat → oC) → Prop} : oE d 83 8 [l0] [.inl x] σ Q = Q (some (.inl x)) (oBld σ) := oIret f_83_8 rt_83
theorem ow_84 : (oMt 84).2.2.2.2.1 = 10 := by decide +kernel
theorem rt_84 : (oMt 84).2.2.2.1 = some .int := by decide +kernel
theorem nl_84 : (oMt 84).2.2.1 = 2 := by decide +kernel
theorem f_84_0 : oFet 84 0 = some (.iload_n 1, 1) := by decide +kernel
theorem s_84_0 {d : Nat} {l0 : oV} {x : Int} {S : List oV} {σ : oSg} {Q : Option oV → (Nat → oC) → Prop} : oE d 84 0 [l0, .inl x] S σ Q = oE d 84 1 [l0, .inl x] (.inl x :: S) σ Q := pLdN (k := 1) f_84_0 rfl rfl rfl
theorem f_84_1 : oFet 84 1 = some (.ifCond .lt 8, 3) := by decide +kernel
theorem s_84_1 {d : Nat} {l0 l1 : oV} {x : Int} {S : List oV} {σ : oSg} {Q : Option oV → (Nat → oC) → Prop} : oE d 84 1 [l0, l1] (.inl x :: S) σ Q = if x < 0 then oE d 84 9 [l0, l1] S σ Q else oE d 84 4 [l0, l1] S σ Q := oIfLt f_84_1 (by decide)
theorem f_84_4 : oFet 84 4 = some (.iload_n 1, 1) := by decide +kernel
theorem s_84_4 {d : Nat} {l0 : oV} {x : Int} {S : List oV} {σ : oSg} {Q : Option oV → (Nat → oC) → Prop} : oE d 84 4 [l0, .inl x] S σ Q = oE d 84 5 [l0, .inl x] (.inl x :: S) σ Q := pLdN (k := 1) f_84_4 rfl rfl rfl
theorem f_84_5 : oFet 84 5 = some (.iconst 4, 1) := by decide +kernel
theorem s_84_5 {d : Nat} {l0 l1 : oV} {S : List oV} {σ : oSg} {Q : Option oV → (Nat → oC) → Prop} : oE d 84 5 [l0, l1] S σ Q = oE d 84 6 [l0, l1] (.inl (4) :: S) σ Q := pKst f_84_5 (by decide)
theorem f_84_6 : oFet 84 6 = some (.if_icmp .le 5, 3) := by decide +kernel
theorem s_84_6 {d : Nat} {l0 l1 : oV} {x y : Int} {S : List oV} {σ : oSg} {Q : Option oV → (Nat → oC) → Prop} : oE d 84 6 [l0, l1] (.inl y :: .inl x :: S) σ Q = if x ≤ y then oE d 84 11 [l0, l1] S σ Q else oE d 84 9 [l0, l1] S σ Q := oCmpLe f_84_6 (by decide)
theorem f_84_9 : oFet 84 9 = some (.iconst (-1), 1) := by decide +kernel
theorem s_84_9 {d : Nat} {l0 l1 : oV} {S : List oV} {σ : oSg} {Q : Option oV → (Nat → oC) → Prop} : oE d 84 9 [l0, l1] S σ Q = oE d 84 10 [l0, l1] (.inl (-1) :: S) σ Q := pKst f_84_9 (by decide)
theorem f_84_10 : oFet 84 10 = some (.ireturn, 1) := by decide +kernel
theorem s_84_10 {d : Nat} {l0 l1 : oV} {x : Int} {σ : oSg} {Q : Option oV → (Nat → oC) → Prop} : oE d 84 10 [l0, l1] [.inl x] σ Q = Q (some (.inl x)) (oBld σ) := oIret f_84_10 rt_84
theorem f_84_11 : oFet 84 11 = some (.iload_n 1, 1) := by decide +kernel
theorem s_84_11 {d : Nat} {l0 : oV} {x : Int} {S : List oV} {σ : oSg} {Q : Option oV → (Nat → oC) → Prop} : oE d 84 11 [l0, .inl x] S σ Q = oE d 84 12 [l0, .inl x] (.inl x :: S) σ Q := pLdN (k := 1) f_84_11 rfl rfl rfl
theorem f_84_12 : oFet 84 12 = some (.iconst 3, 1) := by decide +kernel
theorem s_84_12 {d : Nat} {l0 l1 : oV} {S : List oV} {σ : oSg} {Q : Option oV → (Nat → oC) → Prop} : oE d 84 12 [l0, l1] S σ Q = oE d 84 13 [l0, l1] (.inl (3) :: S) σ Q := pKst f_84_12 (by decide)
theorem f_84_13 : oFet 84 13 = some (.if_icmp .lt 40, 3) := by decide +kernel
theorem s_84_13 {d : Nat} {l0 l1 : oV} {x y : Int} {S : List oV} {σ : oSg} {Q : Option oV → (Nat → oC) → Prop} : oE d 84 13 [l0, l1] (.inl y :: .inl x :: S) σ Q = if x < y then oE d 84 53 [l0, l1] S σ Q else oE d 84 16 [l0, l1] S σ Q := oCmpLt f_84_13 (by decide)
theorem f_84_16 : oFet 84 16 = some (.aload_n 0, 1) := by decide +kernel
theorem s_84_16 {d : Nat} {l1 : oV} {a : Nat} {S : List oV} {σ : oSg} {Q : Option oV → (Nat → oC) → Prop} : oE d 84 16 [.inr (.inr (.inl a)), l1] S σ Q = oE d 84 17 [.inr (.inr (.inl a)), l1] (.inr (.inr (.inl a)) :: S) σ Q := pLdN (k := 0) f_84_16 rfl rfl rfl
theorem f_84_17 : oFet 84 17 = some (.getfield 62, 3) := by decide +kernel
theorem s_84_17 {d : Nat} {l0 l1 : oV} {a : Nat} {S : List oV} {σ : oSg} {Q : Option oV → (Nat → oC) → Prop} (hk : oKd a = some 10) : oE d 84 17 [l0, l1] (.inr (.inr (.inl a)) :: S) σ Q = oE d 84 20 [l0, l1] (.inr (.inr (.inl (oRf a 9))) :: S) σ Q := pGfR f_84_17 ow_84 fl_10_62 rfl (by decide) hk
theorem f_84_20 : oFet 84 20 = some (.aload_n 0, 1) := by decide +kernel
theorem s_84_20 {d : Nat} {l1 : oV} {a : Nat} {S : List oV} {σ : oSg} {Q : Option oV → (Nat → oC) → Prop} : oE d 84 20 [.inr (.inr (.inl a)), l1] S σ Q = oE d 84 21 [.inr (.inr (.inl a)), l1] (.inr (.inr (.inl a)) :: S) σ Q := pLdN (k := 0) f_84_20 rfl rfl rfl
theorem f_84_21 : oFet 84 21 = some (.getfield 12, 3) := by decide +kernel
theorem s_84_21 {d : Nat} {l0 l1 : oV} {a : Nat} {S : List oV} {σ : oSg} {Q : Option oV → (Nat → oC) → Prop} (hk : oKd a = some 10) : oE d 84 21 [l0, l1] (.inr (.inr (.inl a)) :: S) σ Q = oE d 84 24 [l0, l1] (.inr (.inr (.inl (oRf a 0))) :: S) σ Q := pGfR f_84_21 ow_84 fl_10_12 rfl (by decide) hk
theorem f_84_24 : oFet 84 24 = some (.getfield 73, 3) := by decide +kernel
theorem s_84_24 {d : Nat} {l0 l1 : oV} {a : Nat} {S : List oV} {σ : oSg} {Q : Option oV → (Nat → oC) → Prop} (hk : oKd a = some 1) : oE d 84 24 [l0, l1] (.inr (.inr (.inl a)) :: S) σ Q = oE d 84 27 [l0, l1] (.inr (.inr (.inl (oRf a 0))) :: S) σ Q := pGfR f_84_24 ow_84 fl_10_73 rfl (by decide) hk
theorem f_84_27 : oFet 84 27 = some (.invokevirtual 231, 3) := by decide +kernel
theorem c_84_27 {d : Nat} {l0 l1 : oV} {x0 : oV} {a : Nat} {v : Option oV} {τ : oSg} {S : List oV} {σ : oSg} {Q : Option oV → (Nat → oC) → Prop} (hm : oMi d 85 [.inr (.inr (.inl a)), x0] σ v τ) (hk : oKd a = some 5) (hs : oSmall S = true) : oE d 84 27 [l0, l1] (x0 :: .inr (.inr (.inl a)) :: S) σ Q = oE d 84 30 [l0, l1] (v.toList ++ S) τ Q := pCallV f_84_27 ow_84 lk_10_231 mt_85 rfl rfl rfl hk hs hm
theorem f_84_30 : oFet 84 30 = some (.iload_n 1, 1) := by decide +kernel
theorem s_84_30 {d : Nat} {l0 : oV} {x : Int} {S : List oV} {σ : oSg} {Q : Option oV → (Nat → oC) → Prop} : oE d 84 30 [l0, .inl x] S σ Q = oE d 84 31 [l0, .inl x] (.inl x :: S) σ Q := pLdN (k := 1) f_84_30 rfl rfl rfl
theorem f_84_31 : oFet 84 31 = some (.iconst 3, 1) := by decide +kernel
theorem s_84_31 {d : Nat} {l0 l1 : oV} {S : List oV} {σ : oSg} {Q : Option oV → (Nat → oC) → Prop} : oE d 84 31 [l0, l1] S σ Q = oE d 84 32 [l0, l1] (.inl (3) :: S) σ Q := pKst f_84_31 (by decide)
theorem f_84_32 : oFet 84 32 = some (.if_icmp .ne 13, 3) := by decide +kernel
theorem s_84_32 {d : Nat} {l0 l1 : oV} {x y : Int} {S : List oV} {σ : oSg} {Q : Option oV → (Nat → oC) → Prop} : oE d 84 32 [l0, l1] (.inl y :: .inl x :: S) σ Q = if ¬ x = y then oE d 84 45 [l0, l1] S σ Q else oE d 84 35 [l0, l1] S σ Q := oCmpNe f_84_32 (by decide)
theorem f_84_35 : oFet 84 35 = some (.aload_n 0, 1) := by decide +kernel
theorem s_84_35 {d : Nat} {l1 : oV} {a : Nat} {S : List oV} {σ : oSg} {Q : Option oV → (Nat → oC) → Prop} : oE d 84 35 [.inr (.inr (.inl a)), l1] S σ Q = oE d 84 36 [.inr (.inr (.inl a)), l1] (.inr (.inr (.inl a)) :: S) σ Q := pLdN (k := 0) f_84_35 rfl rfl rfl
theorem f_84_36 : oFet 84 36 = some (.getfield 62, 3) := by decide +kernel
theorem s_84_36 {d : Nat} {l0 l1 : oV} {a : Nat} {S : List oV} {σ : oSg} {Q : Option oV → (Nat → oC) → Prop} (hk : oKd a = some 10) : oE d 84 36 [l0, l1] (.inr (.inr (.inl a)) :: S) σ Q = oE d 84 39 [l0, l1] (.inr (.inr (.inl (oRf a 9))) :: S) σ Q := pGfR f_84_36 ow_84 fl_10_62 rfl (by decide) hk
theorem f_84_39 : oFet 84 39 = some (.getfield 234, 3) := by decide +kernel
theorem s_84_39 {d : Nat} {l0 l1 : oV} {a : Nat} {S : List oV} {σ : oSg} {Q : Option oV → (Nat → oC) → Prop} (hk : oKd a = some 5) : oE d 84 39 [l0, l1] (.inr (.inr (.inl a)) :: S) σ Q = oE d 84 42 [l0, l1] (.inl (σ.1 a 3) :: S) σ Q := pGfI f_84_39 ow_84 fl_10_234 rfl (by decide) hk
theorem f_84_42 : oFet 84 42 = some (.goto 10, 3) := by decide +kernel
theorem s_84_42 {d : Nat} {l0 l1 : oV} {S : List oV} {σ : oSg} {Q : Option oV → (Nat → oC) → Prop} : oE d 84 42 [l0, l1] S σ Q = oE d 84 52 [l0, l1] S σ Q := pGoto f_84_42 (by decide)
theorem f_84_45 : oFet 84 45 = some (.aload_n 0, 1) := by decide +kernel
theorem s_84_45 {d : Nat} {l1 : oV} {a : Nat} {S : List oV} {σ : oSg} {Q : Option oV → (Nat → oC) → Prop} : oE d 84 45 [.inr (.inr (.inl a)), l1] S σ Q = oE d 84 46 [.inr (.inr (.inl a)), l1] (.inr (.inr (.inl a)) :: S) σ Q := pLdN (k := 0) f_84_45 rfl rfl rfl
theorem f_84_46 : oFet 84 46 = some (.getfield 62, 3) := by decide +kernel
theorem s_84_46 {d : Nat} {l0 l1 : oV} {a : Nat} {S : List oV} {σ : oSg} {Q : Option oV → (Nat → oC) → Prop} (hk : oKd a = some 10) : oE d 84 46 [l0, l1] (.inr (.inr (.inl a)) :: S) σ Q = oE d 84 49 [l0, l1] (.inr (.inr (.inl (oRf a 9))) :: S) σ Q := pGfR f_84_46 ow_84 fl_10_62 rfl (by decide) hk
theorem f_84_49 : oFet 84 49 = some (.getfield 237, 3) := by decide +kernel
theorem s_84_49 {d : Nat} {l0 l1 : oV} {a : Nat} {S : List oV} {σ : oSg} {Q : Option oV → (Nat → oC) → Prop} (hk : oKd a = some 5) : oE d 84 49 [l0, l1] (.inr (.inr (.inl a)) :: S) σ Q = oE d 84 52 [l0, l1] (.inl (σ.1 a 4) :: S) σ Q := pGfI f_84_49 ow_84 fl_10_237 rfl (by decide) hk
theorem f_84_52 : oFet 84 52 = some (.ireturn, 1) := by decide +kernel
theorem s_84_52 {d : Nat} {l0 l1 : oV} {x : Int} {σ : oSg} {Q : Option oV → (Nat → oC) → Prop} : oE d 84 52 [l0, l1] [.inl x] σ Q = Q (some (.inl x)) (oBld σ) := oIret f_84_52 rt_84
theorem f_84_53 : oFet 84 53 = some (.aload_n 0, 1) := by decide +kernel
theorem s_84_53 {d : Nat} {l1 : oV} {a : Nat} {S : List oV} {σ : oSg} {Q : Option oV → (Nat → oC) → Prop} : oE d 84 53 [.inr (.inr (.inl a)), l1] S σ Q = oE d 84 54 [.inr (.inr (.inl a)), l1] (.inr (.inr (.inl a)) :: S) σ Q := pLdN (k := 0) f_84_53 rfl rfl rfl
theorem f_84_54 : oFet 84 54 = some (.getfield 45, 3) := by decide +kernel
theorem s_84_54 {d : Nat} {l0 l1 : oV} {a : Nat} {S : List oV} {σ : oSg} {Q : Option oV → (Nat → oC) → Prop} (hk : oKd a = some 10) : oE d 84 54 [l0, l1] (.inr (.inr (.inl a)) :: S) σ Q = oE d 84 57 [l0, l1] (.inr (.inr (.inl (oRf a 6))) :: S) σ Q := pGfR f_84_54 ow_84 fl_10_45 rfl (by decide) hk
theorem f_84_57 : oFet 84 57 = some (.aload_n 0, 1) := by decide +kernel
theorem s_84_57 {d : Nat} {l1 : oV} {a : Nat} {S : List oV} {σ : oSg} {Q : Option oV → (Nat → oC) → Prop} : oE d 84 57 [.inr (.inr (.inl a)), l1] S σ Q = oE d 84 58 [.inr (.inr (.inl a)), l1] (.inr (.inr (.inl a)) :: S) σ Q := pLdN (k := 0) f_84_57 rfl rfl rfl
theorem f_84_58 : oFet 84 58 = some (.getfield 12, 3) := by decide +kernel
theorem s_84_58 {d : Nat} {l0 l1 : oV} {a : Nat} {S : List oV} {σ : oSg} {Q : Option oV → (Nat → oC) → Prop} (hk : oKd a = some 10) : oE d 84 58 [l0, l1] (.inr (.inr (.inl a)) :: S) σ Q = oE d 84 61 [l0, l1] (.inr (.inr (.inl (oRf a 0))) :: S) σ Q := pGfR f_84_58 ow_84 fl_10_12 rfl (by decide) hk
theorem f_84_61 : oFet 84 61 = some (.getfield 73, 3) := by decide +kernel
theorem s_84_61 {d : Nat} {l0 l1 : oV} {a : Nat} {S : List oV} {σ : oSg} {Q : Option oV → (Nat → oC) → Prop} (hk : oKd a = some 1) : oE d 84 61 [l0, l1] (.inr (.inr (.inl a)) :: S) σ Q = oE d 84 64 [l0, l1] (.inr (.inr (.inl (oRf a 0))) :: S) σ Q := pGfR f_84_61 ow_84 fl_10_73 rfl (by decide) hk
theorem f_84_64 : oFet 84 64 = some (.iconst 1, 1) := by decide +kernel
theorem s_84_64 {d : Nat} {l0 l1 : oV} {S : List oV} {σ : oSg} {Q : Option oV → (Nat → oC) → Prop} : oE d 84 64 [l0, l1] S σ Q = oE d 84 65 [l0, l1] (.inl (1) :: S) σ Q := pKst f_84_64 (by decide)
theorem f_84_65 : oFet 84 65 = some (.invokevirtual 124, 3) := by decide +kernel
theorem c_84_65 {d : Nat} {l0 l1 : oV} {x0 x1 : oV} {a : Nat} {v : Option oV} {τ : oSg} {S : List oV} {σ : oSg} {Q : Option oV → (Nat → oC) → Prop} (hm : oMi d 33 [.inr (.inr (.inl a)), x0, x1] σ v τ) (hk : oKd a = some 3) (hs : oSmall S = true) : oE d 84 65 [l0, l1] (x1 :: x0 :: .inr (.inr (.inl a)) :: S) σ Q = oE d 84 68 [l0, l1] (v.toList ++ S) τ Q := pCallV f_84_65 ow_84 lk_10_124 mt_33 rfl rfl rfl hk hs hm
theorem f_84_68 : oFet 84 68 = some (.aload_n 0, 1) := by decide +kernel
theorem s_84_68 {d : Nat} {l1 : oV} {a : Nat} {S : List oV} {σ : oSg} {Q : Option oV → (Nat → oC) → Prop} : oE d 84 68 [.inr (.inr (.inl a)), l1] S σ Q = oE d 84 69 [.inr (.inr (.inl a)), l1] (.inr (.inr (.inl a)) :: S) σ Q := pLdN (k := 0) f_84_68 rfl rfl rfl
theorem f_84_69 : oFet 84 69 = some (.getfield 62, 3) := by decide +kernel
theorem s_84_69 {d : Nat} {l0 l1 : oV} {a : Nat} {S : List oV} {σ : oSg} {Q : Option oV → (Nat → oC) → Prop} (hk : oKd a = some 10) : oE d 84 69 [l0, l1] (.inr (.inr (.inl a)) :: S) σ Q = oE d 84 72 [l0, l1] (.inr (.inr (.inl (oRf a 9))) :: S) σ Q := pGfR f_84_69 ow_84 fl_10_62 rfl (by decide) hk
theorem f_84_72 : oFet 84 72 = some (.aload_n 0, 1) := by decide +kernel
theorem s_84_72 {d : Nat} {l1 : oV} {a : Nat} {S : List oV} {σ : oSg} {Q : Option oV → (Nat → oC) → Prop} : oE d 84 72 [.inr (.inr (.inl a)), l1] S σ Q = oE d 84 73 [.inr (.inr (.inl a)), l1] (.inr (.inr (.inl a)) :: S) σ Q := pLdN (k := 0) f_84_72 rfl rfl rfl
theorem f_84_73 : oFet 84 73 = some (.getfield 12, 3) := by decide +kernel
theorem s_84_73 {d : Nat} {l0 l1 : oV} {a : Nat} {S : List oV} {σ : oSg} {Q : Option oV → (Nat → oC) → Prop} (hk : oKd a = some 10) : oE d 84 73 [l0, l1] (.inr (.inr (.inl a)) :: S) σ Q = oE d 84 76 [l0, l1] (.inr (.inr (.inl (oRf a 0))) :: S) σ Q := pGfR f_84_73 ow_84 fl_10_12 rfl (by decide) hk
theorem f_84_76 : oFet 84 76 = some (.getfield 73, 3) := by decide +kernel
theorem s_84_76 {d : Nat} {l0 l1 : oV} {a : Nat} {S : List oV} {σ : oSg} {Q : Option oV → (Nat → oC) → Prop} (hk : oKd a = some 1) : oE d 84 76 [l0, l1] (.inr (.inr (.inl a)) :: S) σ Q = oE d 84 79 [l0, l1] (.inr (.inr (.inl (oRf a 0))) :: S) σ Q := pGfR f_84_76 ow_84 fl_10_73 rfl (by decide) hk
theorem f_84_79 : oFet 84 79 = some (.aload_n 0, 1) := by decide +kernel
theorem s_84_79 {d : Nat} {l1 : oV} {a : Nat} {S : List oV} {σ : oSg} {Q : Option oV → (Nat → oC) → Prop} : oE d 84 79 [.inr (.inr (.inl a)), l1] S σ Q = oE d 84 80 [.inr (.inr (.inl a)), l1] (.inr (.inr (.inl a)) :: S) σ Q := pLdN (k := 0) f_84_79 rfl rfl rfl
theorem f_84_80 : oFet 84 80 = some (.getfield 45, 3) := by decide +kernel
theorem s_84_80 {d : Nat} {l0 l1 : oV} {a : Nat} {S : List oV} {σ : oSg} {Q : Option oV → (Nat → oC) → Prop} (hk : oKd a = some 10) : oE d 84 80 [l0, l1] (.inr (.inr (.inl a)) :: S) σ Q = oE d 84 83 [l0, l1] (.inr (.inr (.inl (oRf a 6))) :: S) σ Q := pGfR f_84_80 ow_84 fl_10_45 rfl (by decide) hk
theorem f_84_83 : oFet 84 83 = some (.invokevirtual 240, 3) := by decide +kernel
theorem c_84_83 {d : Nat} {l0 l1 : oV} {x0 x1 : oV} {a : Nat} {v : Option oV} {τ : oSg} {S : List oV} {σ : oSg} {Q : Option oV → (Nat → oC) → Prop} (hm : oMi d 88 [.inr (.inr (.inl a)), x0, x1] σ v τ) (hk : oKd a = some 5) (hs : oSmall S = true) : oE d 84 83 [l0, l1] (x1 :: x0 :: .inr (.inr (.inl a)) :: S) σ Q = oE d 84 86 [l0, l1] (v.toList ++ S) τ Q := pCallV f_84_83 ow_84 lk_10_240 mt_88 rfl rfl rfl hk hs hm
theorem f_84_86 : oFet 84 86 = some (.iload_n 1, 1) := by decide +kernel
theorem s_84_86 {d : Nat} {l0 : oV} {x : Int} {S : List oV} {σ : oSg} {Q : Option oV → (Nat → oC) → Prop} : oE d 84 86 [l0, .inl x] S σ Q = oE d 84 87 [l0, .inl x] (.inl x :: S) σ Q := pLdN (k := 1) f_84_86 rfl rfl rfl
theorem f_84_87 : oFet 84 87 = some (.ifCond .ne 11, 3) := by decide +kernel
theorem s_84_87 {d : Nat} {l0 l1 : oV} {x : Int} {S : List oV} {σ : oSg} {Q : Option oV → (Nat → oC) → Prop} : oE d 84 87 [l0, l1] (.inl x :: S) σ Q = if ¬ x = 0 then oE d 84 98 [l0, l1] S σ Q else oE d 84 90 [l0, l1] S σ Q := oIfNe f_84_87 (by decide)
theorem f_84_90 : oFet 84 90 = some (.aload_n 0, 1) := by decide +kernel
theorem s_84_90 {d : Nat} {l1 : oV} {a : Nat} {S : List oV} {σ : oSg} {Q : Option oV → (Nat → oC) → Prop} : oE d 84 90 [.inr (.inr (.inl a)), l1] S σ Q = oE d 84 91 [.inr (.inr (.inl a)), l1] (.inr (.inr (.inl a)) :: S) σ Q := pLdN (k := 0) f_84_90 rfl rfl rfl
theorem f_84_91 : oFet 84 91 = some (.getfield 62, 3) := by decide +kernel
theorem s_84_91 {d : Nat} {l0 l1 : oV} {a : Nat} {S : List oV} {σ : oSg} {Q : Option oV → (Nat → oC) → Prop} (hk : oKd a = some 10) : oE d 84 91 [l0, l1] (.inr (.inr (.inl a)) :: S) σ Q = oE d 84 94 [l0, l1] (.inr (.inr (.inl (oRf a 9))) :: S) σ Q := pGfR f_84_91 ow_84 fl_10_62 rfl (by decide) hk
theorem f_84_94 : oFet 84 94 = some (.getfield 244, 3) := by decide +kernel
theorem s_84_94 {d : Nat} {l0 l1 : oV} {a : Nat} {S : List oV} {σ : oSg} {Q : Option oV → (Nat → oC) → Prop} (hk : oKd a = some 5) : oE d 84 94 [l0, l1] (.inr (.inr (.inl a)) :: S) σ Q = oE d 84 97 [l0, l1] (.inl (σ.1 a 0) :: S) σ Q := pGfI f_84_94 ow_84 fl_10_244 rfl (by decide) hk
theorem f_84_97 : oFet 84 97 = some (.ireturn, 1) := by decide +kernel
theorem s_84_97 {d : Nat} {l0 l1 : oV} {x : Int} {σ : oSg} {Q : Option oV → (Nat → oC) → Prop} : oE d 84 97 [l0, l1] [.inl x] σ Q = Q (some (.inl x)) (oBld σ) := oIret f_84_97 rt_84
theorem f_84_98 : oFet 84 98 = some (.iload_n 1, 1) := by decide +kernel
theorem s_84_98 {d : Nat} {l0 : oV} {x : Int} {S : List oV} {σ : oSg} {Q : Option oV → (Nat → oC) → Prop} : oE d 84 98 [l0, .inl x] S σ Q = oE d 84 99 [l0, .inl x] (.inl x :: S) σ Q := pLdN (k := 1) f_84_98 rfl rfl rfl
theorem f_84_99 : oFet 84 99 = some (.iconst 1, 1) := by decide +kernel
theorem s_84_99 {d : Nat} {l0 l1 : oV} {S : List oV} {σ : oSg} {Q : Option oV → (Nat → oC) → Prop} : oE d 84 99 [l0, l1] S σ Q = oE d 84 100 [l0, l1] (.inl (1) :: S) σ Q := pKst f_84_99 (by decide)
theorem f_84_100 : oFet 84 100 = some (.if_icmp .ne 13, 3) := by decide +kernel
theorem s_84_100 {d : Nat} {l0 l1 : oV} {x y : Int} {S : List oV} {σ : oSg} {Q : Option oV → (Nat → oC) → Prop} : oE d 84 100 [l0, l1] (.inl y :: .inl x :: S) σ Q = if ¬ x = y then oE d 84 113 [l0, l1] S σ Q else oE d 84 103 [l0, l1] S σ Q := oCmpNe f_84_100 (by decide)
theorem f_84_103 : oFet 84 103 = some (.aload_n 0, 1) := by decide +kernel
theorem s_84_103 {d : Nat} {l1 : oV} {a : Nat} {S : List oV} {σ : oSg} {Q : Option oV → (Nat → oC) → Prop} : oE d 84 103 [.inr (.inr (.inl a)), l1] S σ Q = oE d 84 104 [.inr (.inr (.inl a)), l1] (.inr (.inr (.inl a)) :: S) σ Q := pLdN (k := 0) f_84_103 rfl rfl rfl
theorem f_84_104 : oFet 84 104 = some (.getfield 62, 3) := by decide +kernel
theorem s_84_104 {d : Nat} {l0 l1 : oV} {a : Nat} {S : List oV} {σ : oSg} {Q : Option oV → (Nat → oC) → Prop} (hk : oKd a = some 10) : oE d 84 104 [l0, l1] (.inr (.inr (.inl a)) :: S) σ Q = oE d 84 107 [l0, l1] (.inr (.inr (.inl (oRf a 9))) :: S) σ Q := pGfR f_84_104 ow_84 fl_10_62 rfl (by decide) hk
theorem f_84_107 : oFet 84 107 = some (.getfield 247, 3) := by decide +kernel
theorem s_84_107 {d : Nat} {l0 l1 : oV} {a : Nat} {S : List oV} {σ : oSg} {Q : Option oV → (Nat → oC) → Prop} (hk : oKd a = some 5) : oE d 84 107 [l0, l1] (.inr (.inr (.inl a)) :: S) σ Q = oE d 84 110 [l0, l1] (.inl (σ.1 a 1) :: S) σ Q := pGfI f_84_107 ow_84 fl_10_247 rfl (by decide) hk
theorem f_84_110 : oFet 84 110 = some (.goto 10, 3) := by decide +kernel
theorem s_84_110 {d : Nat} {l0 l1 : oV} {S : List oV} {σ : oSg} {Q : Option oV → (Nat → oC) → Prop} : oE d 84 110 [l0, l1] S σ Q = oE d 84 120 [l0, l1] S σ Q := pGoto f_84_110 (by decide)
theorem f_84_113 : oFet 84 113 = some (.aload_n 0, 1) := by decide +kernel
theorem s_84_113 {d : Nat} {l1 : oV} {a : Nat} {S : List oV} {σ : oSg} {Q : Option oV → (Nat → oC) → Prop} : oE d 84 113 [.inr (.inr (.inl a)), l1] S σ Q = oE d 84 114 [.inr (.inr (.inl a)), l1] (.inr (.inr (.inl a)) :: S) σ Q := pLdN (k := 0) f_84_113 rfl rfl rfl
theorem f_84_114 : oFet 84 114 = some (.getfield 62, 3) := by decide +kernel
theorem s_84_114 {d : Nat} {l0 l1 : oV} {a : Nat} {S : List oV} {σ : oSg} {Q : Option oV → (Nat → oC) → Prop} (hk : oKd a = some 10) : oE d 84 114 [l0, l1] (.inr (.inr (.inl a)) :: S) σ Q = oE d 84 117 [l0, l1] (.inr (.inr (.inl (oRf a 9))) :: S) σ Q := pGfR f_84_114 ow_84 fl_10_62 rfl (by decide) hk
theorem f_84_117 : oFet 84 117 = some (.getfield 250, 3) := by decide +kernel
theorem s_84_117 {d : Nat} {l0 l1 : oV} {a : Nat} {S : List oV} {σ : oSg} {Q : Option oV → (Nat → oC) → Prop} (hk : oKd a = some 5) : oE d 84 117 [l0, l1] (.inr (.inr (.inl a)) :: S) σ Q = oE d 84 120 [l0, l1] (.inl (σ.1 a 2) :: S) σ Q := pGfI f_84_117 ow_84 fl_10_250 rfl (by decide) hk
theorem f_84_120 : oFet 84 120 = some (.ireturn, 1) := by decide +kernel
theorem s_84_120 {d : Nat} {l0 l1 : oV} {x : Int} {σ : oSg} {Q : Option oV → (Nat → oC) → Prop} : oE d 84 120 [l0, l1] [.inl x] σ Q = Q (some (.inl x)) (oBld σ) := oIret f_84_120 rt_84
theorem ow_85 : (oMt 85).2.2.2.2.1 = 5 := by decide +kernel
theorem rt_85 : (oMt 85).2.2.2.1 = none := by decide +kernel
theorem nl_85 : (oMt 85).2.2.1 = 6 := by decide +kernel
theorem f_85_0 : oFet 85 0 = some (.aload_n 1, 1) := by decide +kernel
theorem s_85_0 {d : Nat} {l0 l2 l3 l4 l5 : oV} {a : Nat} {S : List oV} {σ : oSg} {Q : Option oV → (Nat → oC) → Prop} : oE d 85 0 [l0, .inr (.inr (.inl a)), l2, l3, l4, l5] S σ Q = oE d 85 1 [l0, .inr (.inr (.inl a)), l2, l3, l4, l5] (.inr (.inr (.inl a)) :: S) σ Q := pLdN (k := 1) f_85_0 rfl rfl rfl
theorem f_85_1 : oFet 85 1 = some (.invokevirtual 15, 3) := by decide +kernel
theorem c_85_1 {d : Nat} {l0 l1 l2 l3 l4 l5 : oV} {a : Nat} {v : Option oV} {τ : oSg} {S : List oV} {σ : oSg} {Q : Option oV → (Nat → oC) → Prop} (hm : oMi d 26 [.inr (.inr (.inl a))] σ v τ) (hk : oKd a = some 4) (hs : oSmall S = true) : oE d 85 1 [l0, l1, l2, l3, l4, l5] (.inr (.inr (.inl a)) :: S) σ Q = oE d 85 4 [l0, l1, l2, l3, l4, l5] (v.toList ++ S) τ Q := pCallV f_85_1 ow_85 lk_5_15 mt_26 rfl rfl rfl hk hs hm
theorem f_85_4 : oFet 85 4 = some (.istore_n 2, 1) := by decide +kernel
theorem s_85_4 {d : Nat} {l0 l1 l2 l3 l4 l5 : oV} {x : Int} {S : List oV} {σ : oSg} {Q : Option oV → (Nat → oC) → Prop} (c2 : oCat l2 = 1) (c1 : oCat l1 = 1)  : oE d 85 4 [l0, l1, l2, l3, l4, l5] (.inl x :: S) σ Q = oE d 85 5 [l0, l1, .inl x, l3, l4, l5] S σ Q := pSt (i := 2) f_85_4 rfl rfl (show (2 : Nat) < 6 by decide) (oC1n c1) (oC1n c2) rfl
theorem f_85_5 : oFet 85 5 = some (.iconst 0, 1) := by decide +kernel
theorem s_85_5 {d : Nat} {l0 l1 l2 l3 l4 l5 : oV} {S : List oV} {σ : oSg} {Q : Option oV → (Nat → oC) → Prop} : oE d 85 5 [l0, l1, l2, l3, l4, l5] S σ Q = oE d 85 6 [l0, l1, l2, l3, l4, l5] (.inl (0) :: S) σ Q := pKst f_85_5 (by decide)
theorem f_85_6 : oFet 85 6 = some (.istore_n 3, 1) := by decide +kernel
theorem s_85_6 {d : Nat} {l0 l1 l2 l3 l4 l5 : oV} {x : Int} {S : List oV} {σ : oSg} {Q : Option oV → (Nat → oC) → Prop} (c3 : oCat l3 = 1) (c2 : oCat l2 = 1)  : oE d 85 6 [l0, l1, l2, l3, l4, l5] (.inl x :: S) σ Q = oE d 85 7 [l0, l1, l2, .inl x, l4, l5] S σ Q := pSt (i := 3) f_85_6 rfl rfl (show (3 : Nat) < 6 by decide) (oC1n c2) (oC1n c3) rfl
theorem f_85_7 : oFet 85 7 = some (.iload_n 3, 1) := by decide +kernel
theorem s_85_7 {d : Nat} {l0 l1 l2 l4 l5 : oV} {x : Int} {S : List oV} {σ : oSg} {Q : Option oV → (Nat → oC) → Prop} : oE d 85 7 [l0, l1, l2, .inl x, l4, l5] S σ Q = oE d 85 8 [l0, l1, l2, .inl x, l4, l5] (.inl x :: S) σ Q := pLdN (k := 3) f_85_7 rfl rfl rfl
theorem f_85_8 : oFet 85 8 = some (.bipush 7, 2) := by decide +kernel
theorem s_85_8 {d : Nat} {l0 l1 l2 l3 l4 l5 : oV} {S : List oV} {σ : oSg} {Q : Option oV → (Nat → oC) → Prop} : oE d 85 8 [l0, l1, l2, l3, l4, l5] S σ Q = oE d 85 10 [l0, l1, l2, l3, l4, l5] (.inl (7) :: S) σ Q := pBip f_85_8 (by decide)
theorem f_85_10 : oFet 85 10 = some (.if_icmp .ge 20, 3) := by decide +kernel
theorem s_85_10 {d : Nat} {l0 l1 l2 l3 l4 l5 : oV} {x y : Int} {S : List oV} {σ : oSg} {Q : Option oV → (Nat → oC) → Prop} : oE d 85 10 [l0, l1, l2, l3, l4, l5] (.inl y :: .inl x :: S) σ Q = if y ≤ x then oE d 85 30 [l0, l1, l2, l3, l4, l5] S σ Q else oE d 85 13 [l0, l1, l2, l3, l4, l5] S σ Q := oCmpGe f_85_10 (by decide)
theorem f_85_13 : oFet 85 13 = some (.aload_n 0, 1) := by decide +kernel
theorem s_85_13 {d : Nat} {l1 l2 l3 l4 l5 : oV} {a : Nat} {S : List oV} {σ : oSg} {Q : Option oV → (Nat → oC) → Prop} : oE d 85 13 [.inr (.inr (.inl a)), l1, l2, l3, l4, l5] S σ Q = oE d 85 14 [.inr (.inr (.inl a)), l1, l2, l3, l4, l5] (.inr (.inr (.inl a)) :: S) σ Q := pLdN (k := 0) f_85_13 rfl rfl rfl
theorem f_85_14 : oFet 85 14 = some (.getfield 9, 3) := by decide +kernel
theorem s_85_14 {d : Nat} {l0 l1 l2 l3 l4 l5 : oV} {a : Nat} {S : List oV} {σ : oSg} {Q : Option oV → (Nat → oC) → Prop} (hk : oKd a = some 5) : oE d 85 14 [l0, l1, l2, l3, l4, l5] (.inr (.inr (.inl a)) :: S) σ Q = oE d 85 17 [l0, l1, l2, l3, l4, l5] (.inr (.inr (.inl (oRf a 5))) :: S) σ Q := pGfR f_85_14 ow_85 fl_5_9 rfl (by decide) hk
theorem f_85_17 : oFet 85 17 = some (.iload_n 3, 1) := by decide +kernel
theorem s_85_17 {d : Nat} {l0 l1 l2 l4 l5 : oV} {x : Int} {S : List oV} {σ : oSg} {Q : Option oV → (Nat → oC) → Prop} : oE d 85 17 [l0, l1, l2, .inl x, l4, l5] S σ Q = oE d 85 18 [l0, l1, l2, .inl x, l4, l5] (.inl x :: S) σ Q := pLdN (k := 3) f_85_17 rfl rfl rfl
theorem f_85_18 : oFet 85 18 = some (.aload_n 1, 1) := by decide +kernel
theorem s_85_18 {d : Nat} {l0 l2 l3 l4 l5 : oV} {a : Nat} {S : List oV} {σ : oSg} {Q : Option oV → (Nat → oC) → Prop} : oE d 85 18 [l0, .inr (.inr (.inl a)), l2, l3, l4, l5] S σ Q = oE d 85 19 [l0, .inr (.inr (.inl a)), l2, l3, l4, l5] (.inr (.inr (.inl a)) :: S) σ Q := pLdN (k := 1) f_85_18 rfl rfl rfl
theorem f_85_19 : oFet 85 19 = some (.iload_n 3, 1) := by decide +kernel
theorem s_85_19 {d : Nat} {l0 l1 l2 l4 l5 : oV} {x : Int} {S : List oV} {σ : oSg} {Q : Option oV → (Nat → oC) → Prop} : oE d 85 19 [l0, l1, l2, .inl x, l4, l5] S σ Q = oE d 85 20 [l0, l1, l2, .inl x, l4, l5] (.inl x :: S) σ Q := pLdN (k := 3) f_85_19 rfl rfl rfl
theorem f_85_20 : oFet 85 20 = some (.invokevirtual 46, 3) := by decide +kernel
theorem c_85_20 {d : Nat} {l0 l1 l2 l3 l4 l5 : oV} {x0 : oV} {a : Nat} {v : Option oV} {τ : oSg} {S : List oV} {σ : oSg} {Q : Option oV → (Nat → oC) → Prop} (hm : oMi d 76 [.inr (.inr (.inl a)), x0] σ v τ) (hk : oKd a = some 4) (hs : oSmall S = true) : oE d 85 20 [l0, l1, l2, l3, l4, l5] (x0 :: .inr (.inr (.inl a)) :: S) σ Q = oE d 85 23 [l0, l1, l2, l3, l4, l5] (v.toList ++ S) τ Q := pCallV f_85_20 ow_85 lk_5_46 mt_76 rfl rfl rfl hk hs hm
theorem f_85_23 : oFet 85 23 = some (.iastore, 1) := by decide +kernel
theorem s_85_23 {d : Nat} {l0 l1 l2 l3 l4 l5 : oV} {a : Nat} {i v : Int} {S : List oV} {σ : oSg} {Q : Option oV → (Nat → oC) → Prop} (hk : oAk a = some 0) (h0 : 0 ≤ i) (h1 : i < (oLn a : Int)) : oE d 85 23 [l0, l1, l2, l3, l4, l5] (.inl v :: .inl i :: .inr (.inr (.inl a)) :: S) σ Q = oE d 85 24 [l0, l1, l2, l3, l4, l5] S (oSA σ a i.toNat v) Q := oIas f_85_23 hk h0 h1
theorem f_85_24 : oFet 85 24 = some (.iinc 3 1, 3) := by decide +kernel
theorem s_85_24 {d : Nat} {l0 l1 l2 l4 l5 : oV} {x : Int} {S : List oV} {σ : oSg} {Q : Option oV → (Nat → oC) → Prop} (c2 : oCat l2 = 1)  : oE d 85 24 [l0, l1, l2, .inl x, l4, l5] S σ Q = oE d 85 27 [l0, l1, l2, .inl (oAdd x (1)), l4, l5] S σ Q := pInc f_85_24 rfl (show (3 : Nat) < 6 by decide) (oC1n c2) (oC1n (v := .inl x) rfl) rfl
theorem f_85_27 : oFet 85 27 = some (.goto (-20), 3) := by decide +kernel
theorem s_85_27 {d : Nat} {l0 l1 l2 l3 l4 l5 : oV} {S : List oV} {σ : oSg} {Q : Option oV → (Nat → oC) → Prop} : oE d 85 27 [l0, l1, l2, l3, l4, l5] S σ Q = oE d 85 7 [l0, l1, l2, l3, l4, l5] S σ Q := pGoto f_85_27 (by decide)
theorem f_85_30 : oFet 85 30 = some (.aload_n 0, 1) := by decide +kernel
theorem s_85_30 {d : Nat} {l1 l2 l3 l4 l5 : oV} {a : Nat} {S : List oV} {σ : oSg} {Q : Option oV → (Nat → oC) → Prop} : oE d 85 30 [.inr (.inr (.inl a)), l1, l2, l3, l4, l5] S σ Q = oE d 85 31 [.inr (.inr (.inl a)), l1, l2, l3, l4, l5] (.inr (.inr (.inl a)) :: S) σ Q := pLdN (k := 0) f_85_30 rfl rfl rfl
theorem f_85_31 : oFet 85 31 = some (.iconst 0, 1) := by decide +kernel
theorem s_85_31 {d : Nat} {l0 l1 l2 l3 l4 l5 : oV} {S : List oV} {σ : oSg} {Q : Option oV → (Nat → oC) → Prop} : oE d 85 31 [l0, l1, l2, l3, l4, l5] S σ Q = oE d 85 32 [l0, l1, l2, l3, l4, l5] (.inl (0) :: S) σ Q := pKst f_85_31 (by decide)
theorem f_85_32 : oFet 85 32 = some (.putfield 52, 3) := by decide +kernel
theorem s_85_32 {d : Nat} {l0 l1 l2 l3 l4 l5 : oV} {a : Nat} {v : Int} {S : List oV} {σ : oSg} {Q : Option oV → (Nat → oC) → Prop} (hk : oKd a = some 5) : oE d 85 32 [l0, l1, l2, l3, l4, l5] (.inl v :: .inr (.inr (.inl a)) :: S) σ Q = oE d 85 35 [l0, l1, l2, l3, l4, l5] S (oSF σ a 3 v) Q := pPfI f_85_32 ow_85 fl_5_52 rfl (by decide) rfl rfl hk
theorem f_85_35 : oFet 85 35 = some (.aload_n 0, 1) := by decide +kernel
theorem s_85_35 {d : Nat} {l1 l2 l3 l4 l5 : oV} {a : Nat} {S : List oV} {σ : oSg} {Q : Option oV → (Nat → oC) → Prop} : oE d 85 35 [.inr (.inr (.inl a)), l1, l2, l3, l4, l5] S σ Q = oE d 85 36 [.inr (.inr (.inl a)), l1, l2, l3, l4, l5] (.inr (.inr (.inl a)) :: S) σ Q := pLdN (k := 0) f_85_35 rfl rfl rfl
theorem f_85_36 : oFet 85 36 = some (.aload_n 0, 1) := by decide +kernel
theorem s_85_36 {d : Nat} {l1 l2 l3 l4 l5 : oV} {a : Nat} {S : List oV} {σ : oSg} {Q : Option oV → (Nat → oC) → Prop} : oE d 85 36 [.inr (.inr (.inl a)), l1, l2, l3, l4, l5] S σ Q = oE d 85 37 [.inr (.inr (.inl a)), l1, l2, l3, l4, l5] (.inr (.inr (.inl a)) :: S) σ Q := pLdN (k := 0) f_85_36 rfl rfl rfl
theorem f_85_37 : oFet 85 37 = some (.iload_n 2, 1) := by decide +kernel
theorem s_85_37 {d : Nat} {l0 l1 l3 l4 l5 : oV} {x : Int} {S : List oV} {σ : oSg} {Q : Option oV → (Nat → oC) → Prop} : oE d 85 37 [l0, l1, .inl x, l3, l4, l5] S σ Q = oE d 85 38 [l0, l1, .inl x, l3, l4, l5] (.inl x :: S) σ Q := pLdN (k := 2) f_85_37 rfl rfl rfl
theorem f_85_38 : oFet 85 38 = some (.invokevirtual 55, 3) := by decide +kernel
theorem c_85_38 {d : Nat} {l0 l1 l2 l3 l4 l5 : oV} {x0 : oV} {a : Nat} {v : Option oV} {τ : oSg} {S : List oV} {σ : oSg} {Q : Option oV → (Nat → oC) → Prop} (hm : oMi d 86 [.inr (.inr (.inl a)), x0] σ v τ) (hk : oKd a = some 5) (hs : oSmall S = true) : oE d 85 38 [l0, l1, l2, l3, l4, l5] (x0 :: .inr (.inr (.inl a)) :: S) σ Q = oE d 85 41 [l0, l1, l2, l3, l4, l5] (v.toList ++ S) τ Q := pCallV f_85_38 ow_85 lk_5_55 mt_86 rfl rfl rfl hk hs hm
theorem f_85_41 : oFet 85 41 = some (.putfield 58, 3) := by decide +kernel
theorem s_85_41 {d : Nat} {l0 l1 l2 l3 l4 l5 : oV} {a : Nat} {v : Int} {S : List oV} {σ : oSg} {Q : Option oV → (Nat → oC) → Prop} (hk : oKd a = some 5) : oE d 85 41 [l0, l1, l2, l3, l4, l5] (.inl v :: .inr (.inr (.inl a)) :: S) σ Q = oE d 85 44 [l0, l1, l2, l3, l4, l5] S (oSF σ a 4 v) Q := pPfI f_85_41 ow_85 fl_5_58 rfl (by decide) rfl rfl hk
theorem f_85_44 : oFet 85 44 = some (.iconst 1, 1) := by decide +kernel
theorem s_85_44 {d : Nat} {l0 l1 l2 l3 l4 l5 : oV} {S : List oV} {σ : oSg} {Q : Option oV → (Nat → oC) → Prop} : oE d 85 44 [l0, l1, l2, l3, l4, l5] S σ Q = oE d 85 45 [l0, l1, l2, l3, l4, l5] (.inl (1) :: S) σ Q := pKst f_85_44 (by decide)
theorem f_85_45 : oFet 85 45 = some (.istore_n 3, 1) := by decide +kernel
theorem s_85_45 {d : Nat} {l0 l1 l2 l3 l4 l5 : oV} {x : Int} {S : List oV} {σ : oSg} {Q : Option oV → (Nat → oC) → Prop} (c3 : oCat l3 = 1) (c2 : oCat l2 = 1)  : oE d 85 45 [l0, l1, l2, l3, l4, l5] (.inl x :: S) σ Q = oE d 85 46 [l0, l1, l2, .inl x, l4, l5] S σ Q := pSt (i := 3) f_85_45 rfl rfl (show (3 : Nat) < 6 by decide) (oC1n c2) (oC1n c3) rfl
theorem f_85_46 : oFet 85 46 = some (.iload_n 3, 1) := by decide +kernel
theorem s_85_46 {d : Nat} {l0 l1 l2 l4 l5 : oV} {x : Int} {S : List oV} {σ : oSg} {Q : Option oV → (Nat → oC) → Prop} : oE d 85 46 [l0, l1, l2, .inl x, l4, l5] S σ Q = oE d 85 47 [l0, l1, l2, .inl x, l4, l5] (.inl x :: S) σ Q := pLdN (k := 3) f_85_46 rfl rfl rfl
theorem f_85_47 : oFet 85 47 = some (.iload_n 2, 1) := by decide +kernel
theorem s_85_47 {d : Nat} {l0 l1 l3 l4 l5 : oV} {x : Int} {S : List oV} {σ : oSg} {Q : Option oV → (Nat → oC) → Prop} : oE d 85 47 [l0, l1, .inl x, l3, l4, l5] S σ Q = oE d 85 48 [l0, l1, .inl x, l3, l4, l5] (.inl x :: S) σ Q := pLdN (k := 2) f_85_47 rfl rfl rfl
theorem f_85_48 : oFet 85 48 = some (.if_icmp .gt 70, 3) := by decide +kernel
theorem s_85_48 {d : Nat} {l0 l1 l2 l3 l4 l5 : oV} {x y : Int} {S : List oV} {σ : oSg} {Q : Option oV → (Nat → oC) → Prop} : oE d 85 48 [l0, l1, l2, l3, l4, l5] (.inl y :: .inl x :: S) σ Q = if y < x then oE d 85 118 [l0, l1, l2, l3, l4, l5] S σ Q else oE d 85 51 [l0, l1, l2, l3, l4, l5] S σ Q := oCmpGt f_85_48 (by decide)
theorem f_85_51 : oFet 85 51 = some (.iload_n 3, 1) := by decide +kernel
theorem s_85_51 {d : Nat} {l0 l1 l2 l4 l5 : oV} {x : Int} {S : List oV} {σ : oSg} {Q : Option oV → (Nat → oC) → Prop} : oE d 85 51 [l0, l1, l2, .inl x, l4, l5] S σ Q = oE d 85 52 [l0, l1, l2, .inl x, l4, l5] (.inl x :: S) σ Q := pLdN (k := 3) f_85_51 rfl rfl rfl
theorem f_85_52 : oFet 85 52 = some (.invokestatic 61, 3) := by decide +kernel
theorem c_85_52 {d : Nat} {l0 l1 l2 l3 l4 l5 : oV} {x0 : oV} {v : Option oV} {τ : oSg} {S : List oV} {σ : oSg} {Q : Option oV → (Nat → oC) → Prop} (hm : oMi d 35 [x0] σ v τ) (hs : oSmall S = true) : oE d 85 52 [l0, l1, l2, l3, l4, l5] (x0 :: S) σ Q = oE d 85 55 [l0, l1, l2, l3, l4, l5] (v.toList ++ S) τ Q := pCallS f_85_52 ow_85 lk_5_61 mt_35 rfl rfl rfl hs hm
theorem f_85_55 : oFet 85 55 = some (.istore 4, 2) := by decide +kernel
theorem s_85_55 {d : Nat} {l0 l1 l2 l3 l4 l5 : oV} {x : Int} {S : List oV} {σ : oSg} {Q : Option oV → (Nat → oC) → Prop} (c4 : oCat l4 = 1) (c3 : oCat l3 = 1)  : oE d 85 55 [l0, l1, l2, l3, l4, l5] (.inl x :: S) σ Q = oE d 85 57 [l0, l1, l2, l3, .inl x, l5] S σ Q := pSt (i := 4) f_85_55 rfl rfl (show (4 : Nat) < 6 by decide) (oC1n c3) (oC1n c4) rfl
theorem f_85_57 : oFet 85 57 = some (.aload_n 0, 1) := by decide +kernel
theorem s_85_57 {d : Nat} {l1 l2 l3 l4 l5 : oV} {a : Nat} {S : List oV} {σ : oSg} {Q : Option oV → (Nat → oC) → Prop} : oE d 85 57 [.inr (.inr (.inl a)), l1, l2, l3, l4, l5] S σ Q = oE d 85 58 [.inr (.inr (.inl a)), l1, l2, l3, l4, l5] (.inr (.inr (.inl a)) :: S) σ Q := pLdN (k := 0) f_85_57 rfl rfl rfl
theorem f_85_58 : oFet 85 58 = some (.iload_n 2, 1) := by decide +kernel
theorem s_85_58 {d : Nat} {l0 l1 l3 l4 l5 : oV} {x : Int} {S : List oV} {σ : oSg} {Q : Option oV → (Nat → oC) → Prop} : oE d 85 58 [l0, l1, .inl x, l3, l4, l5] S σ Q = oE d 85 59 [l0, l1, .inl x, l3, l4, l5] (.inl x :: S) σ Q := pLdN (k := 2) f_85_58 rfl rfl rfl
theorem f_85_59 : oFet 85 59 = some (.iload_n 3, 1) := by decide +kernel
theorem s_85_59 {d : Nat} {l0 l1 l2 l4 l5 : oV} {x : Int} {S : List oV} {σ : oSg} {Q : Option oV → (Nat → oC) → Prop} : oE d 85 59 [l0, l1, l2, .inl x, l4, l5] S σ Q = oE d 85 60 [l0, l1, l2, .inl x, l4, l5] (.inl x :: S) σ Q := pLdN (k := 3) f_85_59 rfl rfl rfl
theorem f_85_60 : oFet 85 60 = some (.iconst (-1), 1) := by decide +kernel
theorem s_85_60 {d : Nat} {l0 l1 l2 l3 l4 l5 : oV} {S : List oV} {σ : oSg} {Q : Option oV → (Nat → oC) → Prop} : oE d 85 60 [l0, l1, l2, l3, l4, l5] S σ Q = oE d 85 61 [l0, l1, l2, l3, l4, l5] (.inl (-1) :: S) σ Q := pKst f_85_60 (by decide)
theorem f_85_61 : oFet 85 61 = some (.ixor, 1) := by decide +kernel
theorem s_85_61 {d : Nat} {l0 l1 l2 l3 l4 l5 : oV} {x y : Int} {S : List oV} {σ : oSg} {Q : Option oV → (Nat → oC) → Prop} : oE d 85 61 [l0, l1, l2, l3, l4, l5] (.inl y :: .inl x :: S) σ Q = oE d 85 62 [l0, l1, l2, l3, l4, l5] (.inl (oXor x y) :: S) σ Q := oS3 f_85_61 rfl rfl rfl
theorem f_85_62 : oFet 85 62 = some (.iand, 1) := by decide +kernel
theorem s_85_62 {d : Nat} {l0 l1 l2 l3 l4 l5 : oV} {x y : Int} {S : List oV} {σ : oSg} {Q : Option oV → (Nat → oC) → Prop} : oE d 85 62 [l0, l1, l2, l3, l4, l5] (.inl y :: .inl x :: S) σ Q = oE d 85 63 [l0, l1, l2, l3, l4, l5] (.inl (oAnd x y) :: S) σ Q := oS3 f_85_62 rfl rfl rfl
theorem f_85_63 : oFet 85 63 = some (.invokevirtual 55, 3) := by decide +kernel
theorem c_85_63 {d : Nat} {l0 l1 l2 l3 l4 l5 : oV} {x0 : oV} {a : Nat} {v : Option oV} {τ : oSg} {S : List oV} {σ : oSg} {Q : Option oV → (Nat → oC) → Prop} (hm : oMi d 86 [.inr (.inr (.inl a)), x0] σ v τ) (hk : oKd a = some 5) (hs : oSmall S = true) : oE d 85 63 [l0, l1, l2, l3, l4, l5] (x0 :: .inr (.inr (.inl a)) :: S) σ Q = oE d 85 66 [l0, l1, l2, l3, l4, l5] (v.toList ++ S) τ Q := pCallV f_85_63 ow_85 lk_5_55 mt_86 rfl rfl rfl hk hs hm
theorem f_85_66 : oFet 85 66 = some (.iload 4, 2) := by decide +kernel
theorem s_85_66 {d : Nat} {l0 l1 l2 l3 l5 : oV} {x : Int} {S : List oV} {σ : oSg} {Q : Option oV → (Nat → oC) → Prop} : oE d 85 66 [l0, l1, l2, l3, .inl x, l5] S σ Q = oE d 85 68 [l0, l1, l2, l3, .inl x, l5] (.inl x :: S) σ Q := pLd (i := 4) f_85_66 rfl rfl rfl
theorem f_85_68 : oFet 85 68 = some (.isub, 1) := by decide +kernel
theorem s_85_68 {d : Nat} {l0 l1 l2 l3 l4 l5 : oV} {x y : Int} {S : List oV} {σ : oSg} {Q : Option oV → (Nat → oC) → Prop} : oE d 85 68 [l0, l1, l2, l3, l4, l5] (.inl y :: .inl x :: S) σ Q = oE d 85 69 [l0, l1, l2, l3, l4, l5] (.inl (oSub x y) :: S) σ Q := oS3 f_85_68 rfl rfl rfl
theorem f_85_69 : oFet 85 69 = some (.istore 5, 2) := by decide +kernel
theorem s_85_69 {d : Nat} {l0 l1 l2 l3 l4 l5 : oV} {x : Int} {S : List oV} {σ : oSg} {Q : Option oV → (Nat → oC) → Prop} (c5 : oCat l5 = 1) (c4 : oCat l4 = 1)  : oE d 85 69 [l0, l1, l2, l3, l4, l5] (.inl x :: S) σ Q = oE d 85 71 [l0, l1, l2, l3, l4, .inl x] S σ Q := pSt (i := 5) f_85_69 rfl rfl (show (5 : Nat) < 6 by decide) (oC1n c4) (oC1n c5) rfl
theorem f_85_71 : oFet 85 71 = some (.iload 5, 2) := by decide +kernel
theorem s_85_71 {d : Nat} {l0 l1 l2 l3 l4 : oV} {x : Int} {S : List oV} {σ : oSg} {Q : Option oV → (Nat → oC) → Prop} : oE d 85 71 [l0, l1, l2, l3, l4, .inl x] S σ Q = oE d 85 73 [l0, l1, l2, l3, l4, .inl x] (.inl x :: S) σ Q := pLd (i := 5) f_85_71 rfl rfl rfl
theorem f_85_73 : oFet 85 73 = some (.aload_n 0, 1) := by decide +kernel
theorem s_85_73 {d : Nat} {l1 l2 l3 l4 l5 : oV} {a : Nat} {S : List oV} {σ : oSg} {Q : Option oV → (Nat → oC) → Prop} : oE d 85 73 [.inr (.inr (.inl a)), l1, l2, l3, l4, l5] S σ Q = oE d 85 74 [.inr (.inr (.inl a)), l1, l2, l3, l4, l5] (.inr (.inr (.inl a)) :: S) σ Q := pLdN (k := 0) f_85_73 rfl rfl rfl
theorem f_85_74 : oFet 85 74 = some (.getfield 58, 3) := by decide +kernel
theorem s_85_74 {d : Nat} {l0 l1 l2 l3 l4 l5 : oV} {a : Nat} {S : List oV} {σ : oSg} {Q : Option oV → (Nat → oC) → Prop} (hk : oKd a = some 5) : oE d 85 74 [l0, l1, l2, l3, l4, l5] (.inr (.inr (.inl a)) :: S) σ Q = oE d 85 77 [l0, l1, l2, l3, l4, l5] (.inl (σ.1 a 4) :: S) σ Q := pGfI f_85_74 ow_85 fl_5_58 rfl (by decide) hk
theorem f_85_77 : oFet 85 77 = some (.if_icmp .gt 24, 3) := by decide +kernel
theorem s_85_77 {d : Nat} {l0 l1 l2 l3 l4 l5 : oV} {x y : Int} {S : List oV} {σ : oSg} {Q : Option oV → (Nat → oC) → Prop} : oE d 85 77 [l0, l1, l2, l3, l4, l5] (.inl y :: .inl x :: S) σ Q = if y < x then oE d 85 101 [l0, l1, l2, l3, l4, l5] S σ Q else oE d 85 80 [l0, l1, l2, l3, l4, l5] S σ Q := oCmpGt f_85_77 (by decide)
theorem f_85_80 : oFet 85 80 = some (.iload 5, 2) := by decide +kernel
theorem s_85_80 {d : Nat} {l0 l1 l2 l3 l4 : oV} {x : Int} {S : List oV} {σ : oSg} {Q : Option oV → (Nat → oC) → Prop} : oE d 85 80 [l0, l1, l2, l3, l4, .inl x] S σ Q = oE d 85 82 [l0, l1, l2, l3, l4, .inl x] (.inl x :: S) σ Q := pLd (i := 5) f_85_80 rfl rfl rfl
theorem f_85_82 : oFet 85 82 = some (.aload_n 0, 1) := by decide +kernel
theorem s_85_82 {d : Nat} {l1 l2 l3 l4 l5 : oV} {a : Nat} {S : List oV} {σ : oSg} {Q : Option oV → (Nat → oC) → Prop} : oE d 85 82 [.inr (.inr (.inl a)), l1, l2, l3, l4, l5] S σ Q = oE d 85 83 [.inr (.inr (.inl a)), l1, l2, l3, l4, l5] (.inr (.inr (.inl a)) :: S) σ Q := pLdN (k := 0) f_85_82 rfl rfl rfl
theorem f_85_83 : oFet 85 83 = some (.getfield 58, 3) := by decide +kernel
theorem s_85_83 {d : Nat} {l0 l1 l2 l3 l4 l5 : oV} {a : Nat} {S : List oV} {σ : oSg} {Q : Option oV → (Nat → oC) → Prop} (hk : oKd a = some 5) : oE d 85 83 [l0, l1, l2, l3, l4, l5] (.inr (.inr (.inl a)) :: S) σ Q = oE d 85 86 [l0, l1, l2, l3, l4, l5] (.inl (σ.1 a 4) :: S) σ Q := pGfI f_85_83 ow_85 fl_5_58 rfl (by decide) hk
theorem f_85_86 : oFet 85 86 = some (.if_icmp .ne 26, 3) := by decide +kernel
theorem s_85_86 {d : Nat} {l0 l1 l2 l3 l4 l5 : oV} {x y : Int} {S : List oV} {σ : oSg} {Q : Option oV → (Nat → oC) → Prop} : oE d 85 86 [l0, l1, l2, l3, l4, l5] (.inl y :: .inl x :: S) σ Q = if ¬ x = y then oE d 85 112 [l0, l1, l2, l3, l4, l5] S σ Q else oE d 85 89 [l0, l1, l2, l3, l4, l5] S σ Q := oCmpNe f_85_86 (by decide)
theorem f_85_89 : oFet 85 89 = some (.iload 4, 2) := by decide +kernel
theorem s_85_89 {d : Nat} {l0 l1 l2 l3 l5 : oV} {x : Int} {S : List oV} {σ : oSg} {Q : Option oV → (Nat → oC) → Prop} : oE d 85 89 [l0, l1, l2, l3, .inl x, l5] S σ Q = oE d 85 91 [l0, l1, l2, l3, .inl x, l5] (.inl x :: S) σ Q := pLd (i := 4) f_85_89 rfl rfl rfl
theorem f_85_91 : oFet 85 91 = some (.aload_n 0, 1) := by decide +kernel
theorem s_85_91 {d : Nat} {l1 l2 l3 l4 l5 : oV} {a : Nat} {S : List oV} {σ : oSg} {Q : Option oV → (Nat → oC) → Prop} : oE d 85 91 [.inr (.inr (.inl a)), l1, l2, l3, l4, l5] S σ Q = oE d 85 92 [.inr (.inr (.inl a)), l1, l2, l3, l4, l5] (.inr (.inr (.inl a)) :: S) σ Q := pLdN (k := 0) f_85_91 rfl rfl rfl
theorem f_85_92 : oFet 85 92 = some (.getfield 52, 3) := by decide +kernel
theorem s_85_92 {d : Nat} {l0 l1 l2 l3 l4 l5 : oV} {a : Nat} {S : List oV} {σ : oSg} {Q : Option oV → (Nat → oC) → Prop} (hk : oKd a = some 5) : oE d 85 92 [l0, l1, l2, l3, l4, l5] (.inr (.inr (.inl a)) :: S) σ Q = oE d 85 95 [l0, l1, l2, l3, l4, l5] (.inl (σ.1 a 3) :: S) σ Q := pGfI f_85_92 ow_85 fl_5_52 rfl (by decide) hk
theorem f_85_95 : oFet 85 95 = some (.invokestatic 61, 3) := by decide +kernel
theorem c_85_95 {d : Nat} {l0 l1 l2 l3 l4 l5 : oV} {x0 : oV} {v : Option oV} {τ : oSg} {S : List oV} {σ : oSg} {Q : Option oV → (Nat → oC) → Prop} (hm : oMi d 35 [x0] σ v τ) (hs : oSmall S = true) : oE d 85 95 [l0, l1, l2, l3, l4, l5] (x0 :: S) σ Q = oE d 85 98 [l0, l1, l2, l3, l4, l5] (v.toList ++ S) τ Q := pCallS f_85_95 ow_85 lk_5_61 mt_35 rfl rfl rfl hs hm
theorem f_85_98 : oFet 85 98 = some (.if_icmp .ge 14, 3) := by decide +kernel
theorem s_85_98 {d : Nat} {l0 l1 l2 l3 l4 l5 : oV} {x y : Int} {S : List oV} {σ : oSg} {Q : Option oV → (Nat → oC) → Prop} : oE d 85 98 [l0, l1, l2, l3, l4, l5] (.inl y :: .inl x :: S) σ Q = if y ≤ x then oE d 85 112 [l0, l1, l2, l3, l4, l5] S σ Q else oE d 85 101 [l0, l1, l2, l3, l4, l5] S σ Q := oCmpGe f_85_98 (by decide)
theorem f_85_101 : oFet 85 101 = some (.aload_n 0, 1) := by decide +kernel
theorem s_85_101 {d : Nat} {l1 l2 l3 l4 l5 : oV} {a : Nat} {S : List oV} {σ : oSg} {Q : Option oV → (Nat → oC) → Prop} : oE d 85 101 [.inr (.inr (.inl a)), l1, l2, l3, l4, l5] S σ Q = oE d 85 102 [.inr (.inr (.inl a)), l1, l2, l3, l4, l5] (.inr (.inr (.inl a)) :: S) σ Q := pLdN (k := 0) f_85_101 rfl rfl rfl
theorem f_85_102 : oFet 85 102 = some (.iload_n 3, 1) := by decide +kernel
theorem s_85_102 {d : Nat} {l0 l1 l2 l4 l5 : oV} {x : Int} {S : List oV} {σ : oSg} {Q : Option oV → (Nat → oC) → Prop} : oE d 85 102 [l0, l1, l2, .inl x, l4, l5] S σ Q = oE d 85 103 [l0, l1, l2, .inl x, l4, l5] (.inl x :: S) σ Q := pLdN (k := 3) f_85_102 rfl rfl rfl
theorem f_85_103 : oFet 85 103 = some (.putfield 52, 3) := by decide +kernel
theorem s_85_103 {d : Nat} {l0 l1 l2 l3 l4 l5 : oV} {a : Nat} {v : Int} {S : List oV} {σ : oSg} {Q : Option oV → (Nat → oC) → Prop} (hk : oKd a = some 5) : oE d 85 103 [l0, l1, l2, l3, l4, l5] (.inl v :: .inr (.inr (.inl a)) :: S) σ Q = oE d 85 106 [l0, l1, l2, l3, l4, l5] S (oSF σ a 3 v) Q := pPfI f_85_103 ow_85 fl_5_52 rfl (by decide) rfl rfl hk
theorem f_85_106 : oFet 85 106 = some (.aload_n 0, 1) := by decide +kernel
theorem s_85_106 {d : Nat} {l1 l2 l3 l4 l5 : oV} {a : Nat} {S : List oV} {σ : oSg} {Q : Option oV → (Nat → oC) → Prop} : oE d 85 106 [.inr (.inr (.inl a)), l1, l2, l3, l4, l5] S σ Q = oE d 85 107 [.inr (.inr (.inl a)), l1, l2, l3, l4, l5] (.inr (.inr (.inl a)) :: S) σ Q := pLdN (k := 0) f_85_106 rfl rfl rfl
theorem f_85_107 : oFet 85 107 = some (.iload 5, 2) := by decide +kernel
theorem s_85_107 {d : Nat} {l0 l1 l2 l3 l4 : oV} {x : Int} {S : List oV} {σ : oSg} {Q : Option oV → (Nat → oC) → Prop} : oE d 85 107 [l0, l1, l2, l3, l4, .inl x] S σ Q = oE d 85 109 [l0, l1, l2, l3, l4, .inl x] (.inl x :: S) σ Q := pLd (i := 5) f_85_107 rfl rfl rfl
theorem f_85_109 : oFet 85 109 = some (.putfield 58, 3) := by decide +kernel
theorem s_85_109 {d : Nat} {l0 l1 l2 l3 l4 l5 : oV} {a : Nat} {v : Int} {S : List oV} {σ : oSg} {Q : Option oV → (Nat → oC) → Prop} (hk : oKd a = some 5) : oE d 85 109 [l0, l1, l2, l3, l4, l5] (.inl v :: .inr (.inr (.inl a)) :: S) σ Q = oE d 85 112 [l0, l1, l2, l3, l4, l5] S (oSF σ a 4 v) Q := pPfI f_85_109 ow_85 fl_5_58 rfl (by decide) rfl rfl hk
theorem f_85_112 : oFet 85 112 = some (.iinc 3 1, 3) := by decide +kernel
theorem s_85_112 {d : Nat} {l0 l1 l2 l4 l5 : oV} {x : Int} {S : List oV} {σ : oSg} {Q : Option oV → (Nat → oC) → Prop} (c2 : oCat l2 = 1)  : oE d 85 112 [l0, l1, l2, .inl x, l4, l5] S σ Q = oE d 85 115 [l0, l1, l2, .inl (oAdd x (1)), l4, l5] S σ Q := pInc f_85_112 rfl (show (3 : Nat) < 6 by decide) (oC1n c2) (oC1n (v := .inl x) rfl) rfl
theorem f_85_115 : oFet 85 115 = some (.goto (-69), 3) := by decide +kernel
theorem s_85_115 {d : Nat} {l0 l1 l2 l3 l4 l5 : oV} {S : List oV} {σ : oSg} {Q : Option oV → (Nat → oC) → Prop} : oE d 85 115 [l0, l1, l2, l3, l4, l5] S σ Q = oE d 85 46 [l0, l1, l2, l3, l4, l5] S σ Q := pGoto f_85_115 (by decide)
theorem f_85_118 : oFet 85 118 = some (.return_, 1) := by decide +kernel
theorem s_85_118 {d : Nat} {l0 l1 l2 l3 l4 l5 : oV} {σ : oSg} {Q : Option oV → (Nat → oC) → Prop} : oE d 85 118 [l0, l1, l2, l3, l4, l5] [] σ Q = Q none (oBld σ) := oVret f_85_118 rt_85
theorem ow_86 : (oMt 86).2.2.2.2.1 = 5 := by decide +kernel
theorem rt_86 : (oMt 86).2.2.2.1 = some .int := by decide +kernel
theorem nl_86 : (oMt 86).2.2.1 = 6 := by decide +kernel
theorem f_86_0 : oFet 86 0 = some (.iconst 0, 1) := by decide +kernel
theorem s_86_0 {d : Nat} {l0 l1 l2 l3 l4 l5 : oV} {S : List oV} {σ : oSg} {Q : Option oV → (Nat → oC) → Prop} : oE d 86 0 [l0, l1, l2, l3, l4, l5] S σ Q = oE d 86 1 [l0, l1, l2, l3, l4, l5] (.inl (0) :: S) σ Q := pKst f_86_0 (by decide)
theorem f_86_1 : oFet 86 1 = some (.istore_n 2, 1) := by decide +kernel
theorem s_86_1 {d : Nat} {l0 l1 l2 l3 l4 l5 : oV} {x : Int} {S : List oV} {σ : oSg} {Q : Option oV → (Nat → oC) → Prop} (c2 : oCat l2 = 1) (c1 : oCat l1 = 1)  : oE d 86 1 [l0, l1, l2, l3, l4, l5] (.inl x :: S) σ Q = oE d 86 2 [l0, l1, .inl x, l3, l4, l5] S σ Q := pSt (i := 2) f_86_1 rfl rfl (show (2 : Nat) < 6 by decide) (oC1n c1) (oC1n c2) rfl
theorem f_86_2 : oFet 86 2 = some (.iload_n 1, 1) := by decide +kernel
theorem s_86_2 {d : Nat} {l0 l2 l3 l4 l5 : oV} {x : Int} {S : List oV} {σ : oSg} {Q : Option oV → (Nat → oC) → Prop} : oE d 86 2 [l0, .inl x, l2, l3, l4, l5] S σ Q = oE d 86 3 [l0, .inl x, l2, l3, l4, l5] (.inl x :: S) σ Q := pLdN (k := 1) f_86_2 rfl rfl rfl
theorem f_86_3 : oFet 86 3 = some (.istore_n 3, 1) := by decide +kernel
theorem s_86_3 {d : Nat} {l0 l1 l2 l3 l4 l5 : oV} {x : Int} {S : List oV} {σ : oSg} {Q : Option oV → (Nat → oC) → Prop} (c3 : oCat l3 = 1) (c2 : oCat l2 = 1)  : oE d 86 3 [l0, l1, l2, l3, l4, l5] (.inl x :: S) σ Q = oE d 86 4 [l0, l1, l2, .inl x, l4, l5] S σ Q := pSt (i := 3) f_86_3 rfl rfl (show (3 : Nat) < 6 by decide) (oC1n c2) (oC1n c3) rfl
theorem f_86_4 : oFet 86 4 = some (.iconst 0, 1) := by decide +kernel
theorem s_86_4 {d : Nat} {l0 l1 l2 l3 l4 l5 : oV} {S : List oV} {σ : oSg} {Q : Option oV → (Nat → oC) → Prop} : oE d 86 4 [l0, l1, l2, l3, l4, l5] S σ Q = oE d 86 5 [l0, l1, l2, l3, l4, l5] (.inl (0) :: S) σ Q := pKst f_86_4 (by decide)
theorem f_86_5 : oFet 86 5 = some (.istore 4, 2) := by decide +kernel
theorem s_86_5 {d : Nat} {l0 l1 l2 l3 l4 l5 : oV} {x : Int} {S : List oV} {σ : oSg} {Q : Option oV → (Nat → oC) → Prop} (c4 : oCat l4 = 1) (c3 : oCat l3 = 1)  : oE d 86 5 [l0, l1, l2, l3, l4, l5] (.inl x :: S) σ Q = oE d 86 7 [l0, l1, l2, l3, .inl x, l5] S σ Q := pSt (i := 4) f_86_5 rfl rfl (show (4 : Nat) < 6 by decide) (oC1n c3) (oC1n c4) rfl
theorem f_86_7 : oFet 86 7 = some (.iload 4, 2) := by decide +kernel
theorem s_86_7 {d : Nat} {l0 l1 l2 l3 l5 : oV} {x : Int} {S : List oV} {σ : oSg} {Q : Option oV → (Nat → oC) → Prop} : oE d 86 7 [l0, l1, l2, l3, .inl x, l5] S σ Q = oE d 86 9 [l0, l1, l2, l3, .inl x, l5] (.inl x :: S) σ Q := pLd (i := 4) f_86_7 rfl rfl rfl
theorem f_86_9 : oFet 86 9 = some (.bipush 7, 2) := by decide +kernel
theorem s_86_9 {d : Nat} {l0 l1 l2 l3 l4 l5 : oV} {S : List oV} {σ : oSg} {Q : Option oV → (Nat → oC) → Prop} : oE d 86 9 [l0, l1, l2, l3, l4, l5] S σ Q = oE d 86 11 [l0, l1, l2, l3, l4, l5] (.inl (7) :: S) σ Q := pBip f_86_9 (by decide)
theorem f_86_11 : oFet 86 11 = some (.if_icmp .ge 44, 3) := by decide +kernel
theorem s_86_11 {d : Nat} {l0 l1 l2 l3 l4 l5 : oV} {x y : Int} {S : List oV} {σ : oSg} {Q : Option oV → (Nat → oC) → Prop} : oE d 86 11 [l0, l1, l2, l3, l4, l5] (.inl y :: .inl x :: S) σ Q = if y ≤ x then oE d 86 55 [l0, l1, l2, l3, l4, l5] S σ Q else oE d 86 14 [l0, l1, l2, l3, l4, l5] S σ Q := oCmpGe f_86_11 (by decide)
theorem f_86_14 : oFet 86 14 = some (.iload 4, 2) := by decide +kernel
theorem s_86_14 {d : Nat} {l0 l1 l2 l3 l5 : oV} {x : Int} {S : List oV} {σ : oSg} {Q : Option oV → (Nat → oC) → Prop} : oE d 86 14 [l0, l1, l2, l3, .inl x, l5] S σ Q = oE d 86 16 [l0, l1, l2, l3, .inl x, l5] (.inl x :: S) σ Q := pLd (i := 4) f_86_14 rfl rfl rfl
theorem f_86_16 : oFet 86 16 = some (.iload_n 3, 1) := by decide +kernel
theorem s_86_16 {d : Nat} {l0 l1 l2 l4 l5 : oV} {x : Int} {S : List oV} {σ : oSg} {Q : Option oV → (Nat → oC) → Prop} : oE d 86 16 [l0, l1, l2, .inl x, l4, l5] S σ Q = oE d 86 17 [l0, l1, l2, .inl x, l4, l5] (.inl x :: S) σ Q := pLdN (k := 3) f_86_16 rfl rfl rfl
theorem f_86_17 : oFet 86 17 = some (.invokestatic 40, 3) := by decide +kernel
theorem c_86_17 {d : Nat} {l0 l1 l2 l3 l4 l5 : oV} {x0 x1 : oV} {v : Option oV} {τ : oSg} {S : List oV} {σ : oSg} {Q : Option oV → (Nat → oC) → Prop} (hm : oMi d 28 [x0, x1] σ v τ) (hs : oSmall S = true) : oE d 86 17 [l0, l1, l2, l3, l4, l5] (x1 :: x0 :: S) σ Q = oE d 86 20 [l0, l1, l2, l3, l4, l5] (v.toList ++ S) τ Q := pCallS f_86_17 ow_86 lk_5_40 mt_28 rfl rfl rfl hs hm
theorem f_86_20 : oFet 86 20 = some (.ifCond .eq 29, 3) := by decide +kernel
theorem s_86_20 {d : Nat} {l0 l1 l2 l3 l4 l5 : oV} {x : Int} {S : List oV} {σ : oSg} {Q : Option oV → (Nat → oC) → Prop} : oE d 86 20 [l0, l1, l2, l3, l4, l5] (.inl x :: S) σ Q = if x = 0 then oE d 86 49 [l0, l1, l2, l3, l4, l5] S σ Q else oE d 86 23 [l0, l1, l2, l3, l4, l5] S σ Q := oIfEq f_86_20 (by decide)
theorem f_86_23 : oFet 86 23 = some (.aload_n 0, 1) := by decide +kernel
theorem s_86_23 {d : Nat} {l1 l2 l3 l4 l5 : oV} {a : Nat} {S : List oV} {σ : oSg} {Q : Option oV → (Nat → oC) → Prop} : oE d 86 23 [.inr (.inr (.inl a)), l1, l2, l3, l4, l5] S σ Q = oE d 86 24 [.inr (.inr (.inl a)), l1, l2, l3, l4, l5] (.inr (.inr (.inl a)) :: S) σ Q := pLdN (k := 0) f_86_23 rfl rfl rfl
theorem f_86_24 : oFet 86 24 = some (.iload 4, 2) := by decide +kernel
theorem s_86_24 {d : Nat} {l0 l1 l2 l3 l5 : oV} {x : Int} {S : List oV} {σ : oSg} {Q : Option oV → (Nat → oC) → Prop} : oE d 86 24 [l0, l1, l2, l3, .inl x, l5] S σ Q = oE d 86 26 [l0, l1, l2, l3, .inl x, l5] (.inl x :: S) σ Q := pLd (i := 4) f_86_24 rfl rfl rfl
theorem f_86_26 : oFet 86 26 = some (.iload_n 3, 1) := by decide +kernel
theorem s_86_26 {d : Nat} {l0 l1 l2 l4 l5 : oV} {x : Int} {S : List oV} {σ : oSg} {Q : Option oV → (Nat → oC) → Prop} : oE d 86 26 [l0, l1, l2, .inl x, l4, l5] S σ Q = oE d 86 27 [l0, l1, l2, .inl x, l4, l5] (.inl x :: S) σ Q := pLdN (k := 3) f_86_26 rfl rfl rfl
theorem f_86_27 : oFet 86 27 = some (.invokevirtual 66, 3) := by decide +kernel
theorem c_86_27 {d : Nat} {l0 l1 l2 l3 l4 l5 : oV} {x0 x1 : oV} {a : Nat} {v : Option oV} {τ : oSg} {S : List oV} {σ : oSg} {Q : Option oV → (Nat → oC) → Prop} (hm : oMi d 87 [.inr (.inr (.inl a)), x0, x1] σ v τ) (hk : oKd a = some 5) (hs : oSmall S = true) : oE d 86 27 [l0, l1, l2, l3, l4, l5] (x1 :: x0 :: .inr (.inr (.inl a)) :: S) σ Q = oE d 86 30 [l0, l1, l2, l3, l4, l5] (v.toList ++ S) τ Q := pCallV f_86_27 ow_86 lk_5_66 mt_87 rfl rfl rfl hk hs hm
theorem f_86_30 : oFet 86 30 = some (.istore 5, 2) := by decide +kernel
theorem s_86_30 {d : Nat} {l0 l1 l2 l3 l4 l5 : oV} {x : Int} {S : List oV} {σ : oSg} {Q : Option oV → (Nat → oC) → Prop} (c5 : oCat l5 = 1) (c4 : oCat l4 = 1)  : oE d 86 30 [l0, l1, l2, l3, l4, l5] (.inl x :: S) σ Q = oE d 86 32 [l0, l1, l2, l3, l4, .inl x] S σ Q := pSt (i := 5) f_86_30 rfl rfl (show (5 : Nat) < 6 by decide) (oC1n c4) (oC1n c5) rfl
theorem f_86_32 : oFet 86 32 = some (.iload_n 2, 1) := by decide +kernel
theorem s_86_32 {d : Nat} {l0 l1 l3 l4 l5 : oV} {x : Int} {S : List oV} {σ : oSg} {Q : Option oV → (Nat → oC) → Prop} : oE d 86 32 [l0, l1, .inl x, l3, l4, l5] S σ Q = oE d 86 33 [l0, l1, .inl x, l3, l4, l5] (.inl x :: S) σ Q := pLdN (k := 2) f_86_32 rfl rfl rfl
theorem f_86_33 : oFet 86 33 = some (.iload 5, 2) := by decide +kernel
theorem s_86_33 {d : Nat} {l0 l1 l2 l3 l4 : oV} {x : Int} {S : List oV} {σ : oSg} {Q : Option oV → (Nat → oC) → Prop} : oE d 86 33 [l0, l1, l2, l3, l4, .inl x] S σ Q = oE d 86 35 [l0, l1, l2, l3, l4, .inl x] (.inl x :: S) σ Q := pLd (i := 5) f_86_33 rfl rfl rfl
theorem f_86_35 : oFet 86 35 = some (.invokestatic 61, 3) := by decide +kernel
theorem c_86_35 {d : Nat} {l0 l1 l2 l3 l4 l5 : oV} {x0 : oV} {v : Option oV} {τ : oSg} {S : List oV} {σ : oSg} {Q : Option oV → (Nat → oC) → Prop} (hm : oMi d 35 [x0] σ v τ) (hs : oSmall S = true) : oE d 86 35 [l0, l1, l2, l3, l4, l5] (x0 :: S) σ Q = oE d 86 38 [l0, l1, l2, l3, l4, l5] (v.toList ++ S) τ Q := pCallS f_86_35 ow_86 lk_5_61 mt_35 rfl rfl rfl hs hm
theorem f_86_38 : oFet 86 38 = some (.iconst 2, 1) := by decide +kernel
theorem s_86_38 {d : Nat} {l0 l1 l2 l3 l4 l5 : oV} {S : List oV} {σ : oSg} {Q : Option oV → (Nat → oC) → Prop} : oE d 86 38 [l0, l1, l2, l3, l4, l5] S σ Q = oE d 86 39 [l0, l1, l2, l3, l4, l5] (.inl (2) :: S) σ Q := pKst f_86_38 (by decide)
theorem f_86_39 : oFet 86 39 = some (.irem, 1) := by decide +kernel
theorem s_86_39 {d : Nat} {l0 l1 l2 l3 l4 l5 : oV} {x y : Int} {S : List oV} {σ : oSg} {Q : Option oV → (Nat → oC) → Prop} (hy : y ≠ 0) : oE d 86 39 [l0, l1, l2, l3, l4, l5] (.inl y :: .inl x :: S) σ Q = oE d 86 40 [l0, l1, l2, l3, l4, l5] (.inl (oRem x y) :: S) σ Q := pRem f_86_39 hy
theorem f_86_40 : oFet 86 40 = some (.iadd, 1) := by decide +kernel
theorem s_86_40 {d : Nat} {l0 l1 l2 l3 l4 l5 : oV} {x y : Int} {S : List oV} {σ : oSg} {Q : Option oV → (Nat → oC) → Prop} : oE d 86 40 [l0, l1, l2, l3, l4, l5] (.inl y :: .inl x :: S) σ Q = oE d 86 41 [l0, l1, l2, l3, l4, l5] (.inl (oAdd x y) :: S) σ Q := oS3 f_86_40 rfl rfl rfl
theorem f_86_41 : oFet 86 41 = some (.istore_n 2, 1) := by decide +kernel
theorem s_86_41 {d : Nat} {l0 l1 l2 l3 l4 l5 : oV} {x : Int} {S : List oV} {σ : oSg} {Q : Option oV → (Nat → oC) → Prop} (c2 : oCat l2 = 1) (c1 : oCat l1 = 1)  : oE d 86 41 [l0, l1, l2, l3, l4, l5] (.inl x :: S) σ Q = oE d 86 42 [l0, l1, .inl x, l3, l4, l5] S σ Q := pSt (i := 2) f_86_41 rfl rfl (show (2 : Nat) < 6 by decide) (oC1n c1) (oC1n c2) rfl
theorem f_86_42 : oFet 86 42 = some (.iload_n 3, 1) := by decide +kernel
theorem s_86_42 {d : Nat} {l0 l1 l2 l4 l5 : oV} {x : Int} {S : List oV} {σ : oSg} {Q : Option oV → (Nat → oC) → Prop} : oE d 86 42 [l0, l1, l2, .inl x, l4, l5] S σ Q = oE d 86 43 [l0, l1, l2, .inl x, l4, l5] (.inl x :: S) σ Q := pLdN (k := 3) f_86_42 rfl rfl rfl
theorem f_86_43 : oFet 86 43 = some (.iload 5, 2) := by decide +kernel
theorem s_86_43 {d : Nat} {l0 l1 l2 l3 l4 : oV} {x : Int} {S : List oV} {σ : oSg} {Q : Option oV → (Nat → oC) → Prop} : oE d 86 43 [l0, l1, l2, l3, l4, .inl x] S σ Q = oE d 86 45 [l0, l1, l2, l3, l4, .inl x] (.inl x :: S) σ Q := pLd (i := 5) f_86_43 rfl rfl rfl
theorem f_86_45 : oFet 86 45 = some (.iconst (-1), 1) := by decide +kernel
theorem s_86_45 {d : Nat} {l0 l1 l2 l3 l4 l5 : oV} {S : List oV} {σ : oSg} {Q : Option oV → (Nat → oC) → Prop} : oE d 86 45 [l0, l1, l2, l3, l4, l5] S σ Q = oE d 86 46 [l0, l1, l2, l3, l4, l5] (.inl (-1) :: S) σ Q := pKst f_86_45 (by decide)
theorem f_86_46 : oFet 86 46 = some (.ixor, 1) := by decide +kernel
theorem s_86_46 {d : Nat} {l0 l1 l2 l3 l4 l5 : oV} {x y : Int} {S : List oV} {σ : oSg} {Q : Option oV → (Nat → oC) → Prop} : oE d 86 46 [l0, l1, l2, l3, l4, l5] (.inl y :: .inl x :: S) σ Q = oE d 86 47 [l0, l1, l2, l3, l4, l5] (.inl (oXor x y) :: S) σ Q := oS3 f_86_46 rfl rfl rfl
theorem f_86_47 : oFet 86 47 = some (.iand, 1) := by decide +kernel
theorem s_86_47 {d : Nat} {l0 l1 l2 l3 l4 l5 : oV} {x y : Int} {S : List oV} {σ : oSg} {Q : Option oV → (Nat → oC) → Prop} : oE d 86 47 [l0, l1, l2, l3, l4, l5] (.inl y :: .inl x :: S) σ Q = oE d 86 48 [l0, l1, l2, l3, l4, l5] (.inl (oAnd x y) :: S) σ Q := oS3 f_86_47 rfl rfl rfl
theorem f_86_48 : oFet 86 48 = some (.istore_n 3, 1) := by decide +kernel
theorem s_86_48 {d : Nat} {l0 l1 l2 l3 l4 l5 : oV} {x : Int} {S : List oV} {σ : oSg} {Q : Option oV → (Nat → oC) → Prop} (c3 : oCat l3 = 1) (c2 : oCat l2 = 1)  : oE d 86 48 [l0, l1, l2, l3, l4, l5] (.inl x :: S) σ Q = oE d 86 49 [l0, l1, l2, .inl x, l4, l5] S σ Q := pSt (i := 3) f_86_48 rfl rfl (show (3 : Nat) < 6 by decide) (oC1n c2) (oC1n c3) rfl
theorem f_86_49 : oFet 86 49 = some (.iinc 4 1, 3) := by decide +kernel
theorem s_86_49 {d : Nat} {l0 l1 l2 l3 l5 : oV} {x : Int} {S : List oV} {σ : oSg} {Q : Option oV → (Nat → oC) → Prop} (c3 : oCat l3 = 1)  : oE d 86 49 [l0, l1, l2, l3, .inl x, l5] S σ Q = oE d 86 52 [l0, l1, l2, l3, .inl (oAdd x (1)), l5] S σ Q := pInc f_86_49 rfl (show (4 : Nat) < 6 by decide) (oC1n c3) (oC1n (v := .inl x) rfl) rfl
theorem f_86_52 : oFet 86 52 = some (.goto (-45), 3) := by decide +kernel
theorem s_86_52 {d : Nat} {l0 l1 l2 l3 l4 l5 : oV} {S : List oV} {σ : oSg} {Q : Option oV → (Nat → oC) → Prop} : oE d 86 52 [l0, l1, l2, l3, l4, l5] S σ Q = oE d 86 7 [l0, l1, l2, l3, l4, l5] S σ Q := pGoto f_86_52 (by decide)
theorem f_86_55 : oFet 86 55 = some (.iload_n 2, 1) := by decide +kernel
theorem s_86_55 {d : Nat} {l0 l1 l3 l4 l5 : oV} {x : Int} {S : List oV} {σ : oSg} {Q : Option oV → (Nat → oC) → Prop} : oE d 86 55 [l0, l1, .inl x, l3, l4, l5] S σ Q = oE d 86 56 [l0, l1, .inl x, l3, l4, l5] (.inl x :: S) σ Q := pLdN (k := 2) f_86_55 rfl rfl rfl
theorem f_86_56 : oFet 86 56 = some (.ireturn, 1) := by decide +kernel
theorem s_86_56 {d : Nat} {l0 l1 l2 l3 l4 l5 : oV} {x : Int} {σ : oSg} {Q : Option oV → (Nat → oC) → Prop} : oE d 86 56 [l0, l1, l2, l3, l4, l5] [.inl x] σ Q = Q (some (.inl x)) (oBld σ) := oIret f_86_56 rt_86
theorem ow_87 : (oMt 87).2.2.2.2.1 = 5 := by decide +kernel
theorem rt_87 : (oMt 87).2.2.2.1 = some .int := by decide +kernel
theorem nl_87 : (oMt 87).2.2.1 = 8 := by decide +kernel
theorem f_87_0 : oFet 87 0 = some (.iconst 1, 1) := by decide +kernel
theorem s_87_0 {d : Nat} {l0 l1 l2 l3 l4 l5 l6 l7 : oV} {S : List oV} {σ : oSg} {Q : Option oV → (Nat → oC) → Prop} : oE d 87 0 [l0, l1, l2, l3, l4, l5, l6, l7] S σ Q = oE d 87 1 [l0, l1, l2, l3, l4, l5, l6, l7] (.inl (1) :: S) σ Q := pKst f_87_0 (by decide)
theorem f_87_1 : oFet 87 1 = some (.iload_n 1, 1) := by decide +kernel
theorem s_87_1 {d : Nat} {l0 l2 l3 l4 l5 l6 l7 : oV} {x : Int} {S : List oV} {σ : oSg} {Q : Option oV → (Nat → oC) → Prop} : oE d 87 1 [l0, .inl x, l2, l3, l4, l5, l6, l7] S σ Q = oE d 87 2 [l0, .inl x, l2, l3, l4, l5, l6, l7] (.inl x :: S) σ Q := pLdN (k := 1) f_87_1 rfl rfl rfl
theorem f_87_2 : oFet 87 2 = some (.ishl, 1) := by decide +kernel
theorem s_87_2 {d : Nat} {l0 l1 l2 l3 l4 l5 l6 l7 : oV} {x y : Int} {S : List oV} {σ : oSg} {Q : Option oV → (Nat → oC) → Prop} : oE d 87 2 [l0, l1, l2, l3, l4, l5, l6, l7] (.inl y :: .inl x :: S) σ Q = oE d 87 3 [l0, l1, l2, l3, l4, l5, l6, l7] (.inl (oShl x y) :: S) σ Q := oS3 f_87_2 rfl rfl rfl
theorem f_87_3 : oFet 87 3 = some (.istore_n 3, 1) := by decide +kernel
theorem s_87_3 {d : Nat} {l0 l1 l2 l3 l4 l5 l6 l7 : oV} {x : Int} {S : List oV} {σ : oSg} {Q : Option oV → (Nat → oC) → Prop} (c3 : oCat l3 = 1) (c2 : oCat l2 = 1)  : oE d 87 3 [l0, l1, l2, l3, l4, l5, l6, l7] (.inl x :: S) σ Q = oE d 87 4 [l0, l1, l2, .inl x, l4, l5, l6, l7] S σ Q := pSt (i := 3) f_87_3 rfl rfl (show (3 : Nat) < 8 by decide) (oC1n c2) (oC1n c3) rfl
theorem f_87_4 : oFet 87 4 = some (.iload_n 3, 1) := by decide +kernel
theorem s_87_4 {d : Nat} {l0 l1 l2 l4 l5 l6 l7 : oV} {x : Int} {S : List oV} {σ : oSg} {Q : Option oV → (Nat → oC) → Prop} : oE d 87 4 [l0, l1, l2, .inl x, l4, l5, l6, l7] S σ Q = oE d 87 5 [l0, l1, l2, .inl x, l4, l5, l6, l7] (.inl x :: S) σ Q := pLdN (k := 3) f_87_4 rfl rfl rfl
theorem f_87_5 : oFet 87 5 = some (.istore 4, 2) := by decide +kernel
theorem s_87_5 {d : Nat} {l0 l1 l2 l3 l4 l5 l6 l7 : oV} {x : Int} {S : List oV} {σ : oSg} {Q : Option oV → (Nat → oC) → Prop} (c4 : oCat l4 = 1) (c3 : oCat l3 = 1)  : oE d 87 5 [l0, l1, l2, l3, l4, l5, l6, l7] (.inl x :: S) σ Q = oE d 87 7 [l0, l1, l2, l3, .inl x, l5, l6, l7] S σ Q := pSt (i := 4) f_87_5 rfl rfl (show (4 : Nat) < 8 by decide) (oC1n c3) (oC1n c4) rfl
theorem f_87_7 : oFet 87 7 = some (.iconst 0, 1) := by decide +kernel
theorem s_87_7 {d : Nat} {l0 l1 l2 l3 l4 l5 l6 l7 : oV} {S : List oV} {σ : oSg} {Q : Option oV → (Nat → oC) → Prop} : oE d 87 7 [l0, l1, l2, l3, l4, l5, l6, l7] S σ Q = oE d 87 8 [l0, l1, l2, l3, l4, l5, l6, l7] (.inl (0) :: S) σ Q := pKst f_87_7 (by decide)
theorem f_87_8 : oFet 87 8 = some (.istore 5, 2) := by decide +kernel
theorem s_87_8 {d : Nat} {l0 l1 l2 l3 l4 l5 l6 l7 : oV} {x : Int} {S : List oV} {σ : oSg} {Q : Option oV → (Nat → oC) → Prop} (c5 : oCat l5 = 1) (c4 : oCat l4 = 1)  : oE d 87 8 [l0, l1, l2, l3, l4, l5, l6, l7] (.inl x :: S) σ Q = oE d 87 10 [l0, l1, l2, l3, l4, .inl x, l6, l7] S σ Q := pSt (i := 5) f_87_8 rfl rfl (show (5 : Nat) < 8 by decide) (oC1n c4) (oC1n c5) rfl
theorem f_87_10 : oFet 87 10 = some (.iload 5, 2) := by decide +kernel
theorem s_87_10 {d : Nat} {l0 l1 l2 l3 l4 l6 l7 : oV} {x : Int} {S : List oV} {σ : oSg} {Q : Option oV → (Nat → oC) → Prop} : oE d 87 10 [l0, l1, l2, l3, l4, .inl x, l6, l7] S σ Q = oE d 87 12 [l0, l1, l2, l3, l4, .inl x, l6, l7] (.inl x :: S) σ Q := pLd (i := 5) f_87_10 rfl rfl rfl
theorem f_87_12 : oFet 87 12 = some (.bipush 7, 2) := by decide +kernel
theorem s_87_12 {d : Nat} {l0 l1 l2 l3 l4 l5 l6 l7 : oV} {S : List oV} {σ : oSg} {Q : Option oV → (Nat → oC) → Prop} : oE d 87 12 [l0, l1, l2, l3, l4, l5, l6, l7] S σ Q = oE d 87 14 [l0, l1, l2, l3, l4, l5, l6, l7] (.inl (7) :: S) σ Q := pBip f_87_12 (by decide)
theorem f_87_14 : oFet 87 14 = some (.if_icmp .ge 70, 3) := by decide +kernel
theorem s_87_14 {d : Nat} {l0 l1 l2 l3 l4 l5 l6 l7 : oV} {x y : Int} {S : List oV} {σ : oSg} {Q : Option oV → (Nat → oC) → Prop} : oE d 87 14 [l0, l1, l2, l3, l4, l5, l6, l7] (.inl y :: .inl x :: S) σ Q = if y ≤ x then oE d 87 84 [l0, l1, l2, l3, l4, l5, l6, l7] S σ Q else oE d 87 17 [l0, l1, l2, l3, l4, l5, l6, l7] S σ Q := oCmpGe f_87_14 (by decide)
theorem f_87_17 : oFet 87 17 = some (.iload 4, 2) := by decide +kernel
theorem s_87_17 {d : Nat} {l0 l1 l2 l3 l5 l6 l7 : oV} {x : Int} {S : List oV} {σ : oSg} {Q : Option oV → (Nat → oC) → Prop} : oE d 87 17 [l0, l1, l2, l3, .inl x, l5, l6, l7] S σ Q = oE d 87 19 [l0, l1, l2, l3, .inl x, l5, l6, l7] (.inl x :: S) σ Q := pLd (i := 4) f_87_17 rfl rfl rfl
theorem f_87_19 : oFet 87 19 = some (.ifCond .eq 65, 3) := by decide +kernel
theorem s_87_19 {d : Nat} {l0 l1 l2 l3 l4 l5 l6 l7 : oV} {x : Int} {S : List oV} {σ : oSg} {Q : Option oV → (Nat → oC) → Prop} : oE d 87 19 [l0, l1, l2, l3, l4, l5, l6, l7] (.inl x :: S) σ Q = if x = 0 then oE d 87 84 [l0, l1, l2, l3, l4, l5, l6, l7] S σ Q else oE d 87 22 [l0, l1, l2, l3, l4, l5, l6, l7] S σ Q := oIfEq f_87_19 (by decide)
theorem f_87_22 : oFet 87 22 = some (.iload 4, 2) := by decide +kernel
theorem s_87_22 {d : Nat} {l0 l1 l2 l3 l5 l6 l7 : oV} {x : Int} {S : List oV} {σ : oSg} {Q : Option oV → (Nat → oC) → Prop} : oE d 87 22 [l0, l1, l2, l3, .inl x, l5, l6, l7] S σ Q = oE d 87 24 [l0, l1, l2, l3, .inl x, l5, l6, l7] (.inl x :: S) σ Q := pLd (i := 4) f_87_22 rfl rfl rfl
theorem f_87_24 : oFet 87 24 = some (.iload 4, 2) := by decide +kernel
theorem s_87_24 {d : Nat} {l0 l1 l2 l3 l5 l6 l7 : oV} {x : Int} {S : List oV} {σ : oSg} {Q : Option oV → (Nat → oC) → Prop} : oE d 87 24 [l0, l1, l2, l3, .inl x, l5, l6, l7] S σ Q = oE d 87 26 [l0, l1, l2, l3, .inl x, l5, l6, l7] (.inl x :: S) σ Q := pLd (i := 4) f_87_24 rfl rfl rfl
theorem f_87_26 : oFet 87 26 = some (.ineg, 1) := by decide +kernel
theorem s_87_26 {d : Nat} {l0 l1 l2 l3 l4 l5 l6 l7 : oV} {x : Int} {S : List oV} {σ : oSg} {Q : Option oV → (Nat → oC) → Prop} : oE d 87 26 [l0, l1, l2, l3, l4, l5, l6, l7] (.inl x :: S) σ Q = oE d 87 27 [l0, l1, l2, l3, l4, l5, l6, l7] (.inl (oNeg x) :: S) σ Q := oS3 f_87_26 rfl rfl rfl
theorem f_87_27 : oFet 87 27 = some (.iand, 1) := by decide +kernel
theorem s_87_27 {d : Nat} {l0 l1 l2 l3 l4 l5 l6 l7 : oV} {x y : Int} {S : List oV} {σ : oSg} {Q : Option oV → (Nat → oC) → Prop} : oE d 87 27 [l0, l1, l2, l3, l4, l5, l6, l7] (.inl y :: .inl x :: S) σ Q = oE d 87 28 [l0, l1, l2, l3, l4, l5, l6, l7] (.inl (oAnd x y) :: S) σ Q := oS3 f_87_27 rfl rfl rfl
theorem f_87_28 : oFet 87 28 = some (.iconst 1, 1) := by decide +kernel
theorem s_87_28 {d : Nat} {l0 l1 l2 l3 l4 l5 l6 l7 : oV} {S : List oV} {σ : oSg} {Q : Option oV → (Nat → oC) → Prop} : oE d 87 28 [l0, l1, l2, l3, l4, l5, l6, l7] S σ Q = oE d 87 29 [l0, l1, l2, l3, l4, l5, l6, l7] (.inl (1) :: S) σ Q := pKst f_87_28 (by decide)
theorem f_87_29 : oFet 87 29 = some (.isub, 1) := by decide +kernel
theorem s_87_29 {d : Nat} {l0 l1 l2 l3 l4 l5 l6 l7 : oV} {x y : Int} {S : List oV} {σ : oSg} {Q : Option oV → (Nat → oC) → Prop} : oE d 87 29 [l0, l1, l2, l3, l4, l5, l6, l7] (.inl y :: .inl x :: S) σ Q = oE d 87 30 [l0, l1, l2, l3, l4, l5, l6, l7] (.inl (oSub x y) :: S) σ Q := oS3 f_87_29 rfl rfl rfl
theorem f_87_30 : oFet 87 30 = some (.invokestatic 61, 3) := by decide +kernel
theorem c_87_30 {d : Nat} {l0 l1 l2 l3 l4 l5 l6 l7 : oV} {x0 : oV} {v : Option oV} {τ : oSg} {S : List oV} {σ : oSg} {Q : Option oV → (Nat → oC) → Prop} (hm : oMi d 35 [x0] σ v τ) (hs : oSmall S = true) : oE d 87 30 [l0, l1, l2, l3, l4, l5, l6, l7] (x0 :: S) σ Q = oE d 87 33 [l0, l1, l2, l3, l4, l5, l6, l7] (v.toList ++ S) τ Q := pCallS f_87_30 ow_87 lk_5_61 mt_35 rfl rfl rfl hs hm
theorem f_87_33 : oFet 87 33 = some (.istore 6, 2) := by decide +kernel
theorem s_87_33 {d : Nat} {l0 l1 l2 l3 l4 l5 l6 l7 : oV} {x : Int} {S : List oV} {σ : oSg} {Q : Option oV → (Nat → oC) → Prop} (c6 : oCat l6 = 1) (c5 : oCat l5 = 1)  : oE d 87 33 [l0, l1, l2, l3, l4, l5, l6, l7] (.inl x :: S) σ Q = oE d 87 35 [l0, l1, l2, l3, l4, l5, .inl x, l7] S σ Q := pSt (i := 6) f_87_33 rfl rfl (show (6 : Nat) < 8 by decide) (oC1n c5) (oC1n c6) rfl
theorem f_87_35 : oFet 87 35 = some (.iload 6, 2) := by decide +kernel
theorem s_87_35 {d : Nat} {l0 l1 l2 l3 l4 l5 l7 : oV} {x : Int} {S : List oV} {σ : oSg} {Q : Option oV → (Nat → oC) → Prop} : oE d 87 35 [l0, l1, l2, l3, l4, l5, .inl x, l7] S σ Q = oE d 87 37 [l0, l1, l2, l3, l4, l5, .inl x, l7] (.inl x :: S) σ Q := pLd (i := 6) f_87_35 rfl rfl rfl
theorem f_87_37 : oFet 87 37 = some (.bipush 7, 2) := by decide +kernel
theorem s_87_37 {d : Nat} {l0 l1 l2 l3 l4 l5 l6 l7 : oV} {S : List oV} {σ : oSg} {Q : Option oV → (Nat → oC) → Prop} : oE d 87 37 [l0, l1, l2, l3, l4, l5, l6, l7] S σ Q = oE d 87 39 [l0, l1, l2, l3, l4, l5, l6, l7] (.inl (7) :: S) σ Q := pBip f_87_37 (by decide)
theorem f_87_39 : oFet 87 39 = some (.if_icmp .ge 19, 3) := by decide +kernel
theorem s_87_39 {d : Nat} {l0 l1 l2 l3 l4 l5 l6 l7 : oV} {x y : Int} {S : List oV} {σ : oSg} {Q : Option oV → (Nat → oC) → Prop} : oE d 87 39 [l0, l1, l2, l3, l4, l5, l6, l7] (.inl y :: .inl x :: S) σ Q = if y ≤ x then oE d 87 58 [l0, l1, l2, l3, l4, l5, l6, l7] S σ Q else oE d 87 42 [l0, l1, l2, l3, l4, l5, l6, l7] S σ Q := oCmpGe f_87_39 (by decide)
theorem f_87_42 : oFet 87 42 = some (.aload_n 0, 1) := by decide +kernel
theorem s_87_42 {d : Nat} {l1 l2 l3 l4 l5 l6 l7 : oV} {a : Nat} {S : List oV} {σ : oSg} {Q : Option oV → (Nat → oC) → Prop} : oE d 87 42 [.inr (.inr (.inl a)), l1, l2, l3, l4, l5, l6, l7] S σ Q = oE d 87 43 [.inr (.inr (.inl a)), l1, l2, l3, l4, l5, l6, l7] (.inr (.inr (.inl a)) :: S) σ Q := pLdN (k := 0) f_87_42 rfl rfl rfl
theorem f_87_43 : oFet 87 43 = some (.getfield 9, 3) := by decide +kernel
theorem s_87_43 {d : Nat} {l0 l1 l2 l3 l4 l5 l6 l7 : oV} {a : Nat} {S : List oV} {σ : oSg} {Q : Option oV → (Nat → oC) → Prop} (hk : oKd a = some 5) : oE d 87 43 [l0, l1, l2, l3, l4, l5, l6, l7] (.inr (.inr (.inl a)) :: S) σ Q = oE d 87 46 [l0, l1, l2, l3, l4, l5, l6, l7] (.inr (.inr (.inl (oRf a 5))) :: S) σ Q := pGfR f_87_43 ow_87 fl_5_9 rfl (by decide) hk
theorem f_87_46 : oFet 87 46 = some (.iload 6, 2) := by decide +kernel
theorem s_87_46 {d : Nat} {l0 l1 l2 l3 l4 l5 l7 : oV} {x : Int} {S : List oV} {σ : oSg} {Q : Option oV → (Nat → oC) → Prop} : oE d 87 46 [l0, l1, l2, l3, l4, l5, .inl x, l7] S σ Q = oE d 87 48 [l0, l1, l2, l3, l4, l5, .inl x, l7] (.inl x :: S) σ Q := pLd (i := 6) f_87_46 rfl rfl rfl
theorem f_87_48 : oFet 87 48 = some (.iaload, 1) := by decide +kernel
theorem s_87_48 {d : Nat} {l0 l1 l2 l3 l4 l5 l6 l7 : oV} {a : Nat} {i : Int} {S : List oV} {σ : oSg} {Q : Option oV → (Nat → oC) → Prop} (hk : oAk a = some 0) (h0 : 0 ≤ i) (h1 : i < (oLn a : Int)) : oE d 87 48 [l0, l1, l2, l3, l4, l5, l6, l7] (.inl i :: .inr (.inr (.inl a)) :: S) σ Q = oE d 87 49 [l0, l1, l2, l3, l4, l5, l6, l7] (.inl (σ.2 a i.toNat) :: S) σ Q := oIal f_87_48 hk h0 h1
theorem f_87_49 : oFet 87 49 = some (.iload_n 2, 1) := by decide +kernel
theorem s_87_49 {d : Nat} {l0 l1 l3 l4 l5 l6 l7 : oV} {x : Int} {S : List oV} {σ : oSg} {Q : Option oV → (Nat → oC) → Prop} : oE d 87 49 [l0, l1, .inl x, l3, l4, l5, l6, l7] S σ Q = oE d 87 50 [l0, l1, .inl x, l3, l4, l5, l6, l7] (.inl x :: S) σ Q := pLdN (k := 2) f_87_49 rfl rfl rfl
theorem f_87_50 : oFet 87 50 = some (.iand, 1) := by decide +kernel
theorem s_87_50 {d : Nat} {l0 l1 l2 l3 l4 l5 l6 l7 : oV} {x y : Int} {S : List oV} {σ : oSg} {Q : Option oV → (Nat → oC) → Prop} : oE d 87 50 [l0, l1, l2, l3, l4, l5, l6, l7] (.inl y :: .inl x :: S) σ Q = oE d 87 51 [l0, l1, l2, l3, l4, l5, l6, l7] (.inl (oAnd x y) :: S) σ Q := oS3 f_87_50 rfl rfl rfl
theorem f_87_51 : oFet 87 51 = some (.iload_n 3, 1) := by decide +kernel
theorem s_87_51 {d : Nat} {l0 l1 l2 l4 l5 l6 l7 : oV} {x : Int} {S : List oV} {σ : oSg} {Q : Option oV → (Nat → oC) → Prop} : oE d 87 51 [l0, l1, l2, .inl x, l4, l5, l6, l7] S σ Q = oE d 87 52 [l0, l1, l2, .inl x, l4, l5, l6, l7] (.inl x :: S) σ Q := pLdN (k := 3) f_87_51 rfl rfl rfl
theorem f_87_52 : oFet 87 52 = some (.iconst (-1), 1) := by decide +kernel
theorem s_87_52 {d : Nat} {l0 l1 l2 l3 l4 l5 l6 l7 : oV} {S : List oV} {σ : oSg} {Q : Option oV → (Nat → oC) → Prop} : oE d 87 52 [l0, l1, l2, l3, l4, l5, l6, l7] S σ Q = oE d 87 53 [l0, l1, l2, l3, l4, l5, l6, l7] (.inl (-1) :: S) σ Q := pKst f_87_52 (by decide)
theorem f_87_53 : oFet 87 53 = some (.ixor, 1) := by decide +kernel
theorem s_87_53 {d : Nat} {l0 l1 l2 l3 l4 l5 l6 l7 : oV} {x y : Int} {S : List oV} {σ : oSg} {Q : Option oV → (Nat → oC) → Prop} : oE d 87 53 [l0, l1, l2, l3, l4, l5, l6, l7] (.inl y :: .inl x :: S) σ Q = oE d 87 54 [l0, l1, l2, l3, l4, l5, l6, l7] (.inl (oXor x y) :: S) σ Q := oS3 f_87_53 rfl rfl rfl
theorem f_87_54 : oFet 87 54 = some (.iand, 1) := by decide +kernel
theorem s_87_54 {d : Nat} {l0 l1 l2 l3 l4 l5 l6 l7 : oV} {x y : Int} {S : List oV} {σ : oSg} {Q : Option oV → (Nat → oC) → Prop} : oE d 87 54 [l0, l1, l2, l3, l4, l5, l6, l7] (.inl y :: .inl x :: S) σ Q = oE d 87 55 [l0, l1, l2, l3, l4, l5, l6, l7] (.inl (oAnd x y) :: S) σ Q := oS3 f_87_54 rfl rfl rfl
theorem f_87_55 : oFet 87 55 = some (.goto 4, 3) := by decide +kernel
theorem s_87_55 {d : Nat} {l0 l1 l2 l3 l4 l5 l6 l7 : oV} {S : List oV} {σ : oSg} {Q : Option oV → (Nat → oC) → Prop} : oE d 87 55 [l0, l1, l2, l3, l4, l5, l6, l7] S σ Q = oE d 87 59 [l0, l1, l2, l3, l4, l5, l6, l7] S σ Q := pGoto f_87_55 (by decide)
theorem f_87_58 : oFet 87 58 = some (.iconst 0, 1) := by decide +kernel
theorem s_87_58 {d : Nat} {l0 l1 l2 l3 l4 l5 l6 l7 : oV} {S : List oV} {σ : oSg} {Q : Option oV → (Nat → oC) → Prop} : oE d 87 58 [l0, l1, l2, l3, l4, l5, l6, l7] S σ Q = oE d 87 59 [l0, l1, l2, l3, l4, l5, l6, l7] (.inl (0) :: S) σ Q := pKst f_87_58 (by decide)
theorem f_87_59 : oFet 87 59 = some (.istore 7, 2) := by decide +kernel
theorem s_87_59 {d : Nat} {l0 l1 l2 l3 l4 l5 l6 l7 : oV} {x : Int} {S : List oV} {σ : oSg} {Q : Option oV → (Nat → oC) → Prop} (c7 : oCat l7 = 1) (c6 : oCat l6 = 1)  : oE d 87 59 [l0, l1, l2, l3, l4, l5, l6, l7] (.inl x :: S) σ Q = oE d 87 61 [l0, l1, l2, l3, l4, l5, l6, .inl x] S σ Q := pSt (i := 7) f_87_59 rfl rfl (show (7 : Nat) < 8 by decide) (oC1n c6) (oC1n c7) rfl
theorem f_87_61 : oFet 87 61 = some (.iload_n 3, 1) := by decide +kernel
theorem s_87_61 {d : Nat} {l0 l1 l2 l4 l5 l6 l7 : oV} {x : Int} {S : List oV} {σ : oSg} {Q : Option oV → (Nat → oC) → Prop} : oE d 87 61 [l0, l1, l2, .inl x, l4, l5, l6, l7] S σ Q = oE d 87 62 [l0, l1, l2, .inl x, l4, l5, l6, l7] (.inl x :: S) σ Q := pLdN (k := 3) f_87_61 rfl rfl rfl
theorem f_87_62 : oFet 87 62 = some (.iload 7, 2) := by decide +kernel
theorem s_87_62 {d : Nat} {l0 l1 l2 l3 l4 l5 l6 : oV} {x : Int} {S : List oV} {σ : oSg} {Q : Option oV → (Nat → oC) → Prop} : oE d 87 62 [l0, l1, l2, l3, l4, l5, l6, .inl x] S σ Q = oE d 87 64 [l0, l1, l2, l3, l4, l5, l6, .inl x] (.inl x :: S) σ Q := pLd (i := 7) f_87_62 rfl rfl rfl
theorem f_87_64 : oFet 87 64 = some (.ior, 1) := by decide +kernel
theorem s_87_64 {d : Nat} {l0 l1 l2 l3 l4 l5 l6 l7 : oV} {x y : Int} {S : List oV} {σ : oSg} {Q : Option oV → (Nat → oC) → Prop} : oE d 87 64 [l0, l1, l2, l3, l4, l5, l6, l7] (.inl y :: .inl x :: S) σ Q = oE d 87 65 [l0, l1, l2, l3, l4, l5, l6, l7] (.inl (oOr x y) :: S) σ Q := oS3 f_87_64 rfl rfl rfl
theorem f_87_65 : oFet 87 65 = some (.istore_n 3, 1) := by decide +kernel
theorem s_87_65 {d : Nat} {l0 l1 l2 l3 l4 l5 l6 l7 : oV} {x : Int} {S : List oV} {σ : oSg} {Q : Option oV → (Nat → oC) → Prop} (c3 : oCat l3 = 1) (c2 : oCat l2 = 1)  : oE d 87 65 [l0, l1, l2, l3, l4, l5, l6, l7] (.inl x :: S) σ Q = oE d 87 66 [l0, l1, l2, .inl x, l4, l5, l6, l7] S σ Q := pSt (i := 3) f_87_65 rfl rfl (show (3 : Nat) < 8 by decide) (oC1n c2) (oC1n c3) rfl
theorem f_87_66 : oFet 87 66 = some (.iload 4, 2) := by decide +kernel
theorem s_87_66 {d : Nat} {l0 l1 l2 l3 l5 l6 l7 : oV} {x : Int} {S : List oV} {σ : oSg} {Q : Option oV → (Nat → oC) → Prop} : oE d 87 66 [l0, l1, l2, l3, .inl x, l5, l6, l7] S σ Q = oE d 87 68 [l0, l1, l2, l3, .inl x, l5, l6, l7] (.inl x :: S) σ Q := pLd (i := 4) f_87_66 rfl rfl rfl
theorem f_87_68 : oFet 87 68 = some (.iload 4, 2) := by decide +kernel
theorem s_87_68 {d : Nat} {l0 l1 l2 l3 l5 l6 l7 : oV} {x : Int} {S : List oV} {σ : oSg} {Q : Option oV → (Nat → oC) → Prop} : oE d 87 68 [l0, l1, l2, l3, .inl x, l5, l6, l7] S σ Q = oE d 87 70 [l0, l1, l2, l3, .inl x, l5, l6, l7] (.inl x :: S) σ Q := pLd (i := 4) f_87_68 rfl rfl rfl
theorem f_87_70 : oFet 87 70 = some (.iconst 1, 1) := by decide +kernel
theorem s_87_70 {d : Nat} {l0 l1 l2 l3 l4 l5 l6 l7 : oV} {S : List oV} {σ : oSg} {Q : Option oV → (Nat → oC) → Prop} : oE d 87 70 [l0, l1, l2, l3, l4, l5, l6, l7] S σ Q = oE d 87 71 [l0, l1, l2, l3, l4, l5, l6, l7] (.inl (1) :: S) σ Q := pKst f_87_70 (by decide)
theorem f_87_71 : oFet 87 71 = some (.isub, 1) := by decide +kernel
theorem s_87_71 {d : Nat} {l0 l1 l2 l3 l4 l5 l6 l7 : oV} {x y : Int} {S : List oV} {σ : oSg} {Q : Option oV → (Nat → oC) → Prop} : oE d 87 71 [l0, l1, l2, l3, l4, l5, l6, l7] (.inl y :: .inl x :: S) σ Q = oE d 87 72 [l0, l1, l2, l3, l4, l5, l6, l7] (.inl (oSub x y) :: S) σ Q := oS3 f_87_71 rfl rfl rfl
theorem f_87_72 : oFet 87 72 = some (.iand, 1) := by decide +kernel
theorem s_87_72 {d : Nat} {l0 l1 l2 l3 l4 l5 l6 l7 : oV} {x y : Int} {S : List oV} {σ : oSg} {Q : Option oV → (Nat → oC) → Prop} : oE d 87 72 [l0, l1, l2, l3, l4, l5, l6, l7] (.inl y :: .inl x :: S) σ Q = oE d 87 73 [l0, l1, l2, l3, l4, l5, l6, l7] (.inl (oAnd x y) :: S) σ Q := oS3 f_87_72 rfl rfl rfl
theorem f_87_73 : oFet 87 73 = some (.iload 7, 2) := by decide +kernel
theorem s_87_73 {d : Nat} {l0 l1 l2 l3 l4 l5 l6 : oV} {x : Int} {S : List oV} {σ : oSg} {Q : Option oV → (Nat → oC) → Prop} : oE d 87 73 [l0, l1, l2, l3, l4, l5, l6, .inl x] S σ Q = oE d 87 75 [l0, l1, l2, l3, l4, l5, l6, .inl x] (.inl x :: S) σ Q := pLd (i := 7) f_87_73 rfl rfl rfl
theorem f_87_75 : oFet 87 75 = some (.ior, 1) := by decide +kernel
theorem s_87_75 {d : Nat} {l0 l1 l2 l3 l4 l5 l6 l7 : oV} {x y : Int} {S : List oV} {σ : oSg} {Q : Option oV → (Nat → oC) → Prop} : oE d 87 75 [l0, l1, l2, l3, l4, l5, l6, l7] (.inl y :: .inl x :: S) σ Q = oE d 87 76 [l0, l1, l2, l3, l4, l5, l6, l7] (.inl (oOr x y) :: S) σ Q := oS3 f_87_75 rfl rfl rfl
theorem f_87_76 : oFet 87 76 = some (.istore 4, 2) := by decide +kernel
theorem s_87_76 {d : Nat} {l0 l1 l2 l3 l4 l5 l6 l7 : oV} {x : Int} {S : List oV} {σ : oSg} {Q : Option oV → (Nat → oC) → Prop} (c4 : oCat l4 = 1) (c3 : oCat l3 = 1)  : oE d 87 76 [l0, l1, l2, l3, l4, l5, l6, l7] (.inl x :: S) σ Q = oE d 87 78 [l0, l1, l2, l3, .inl x, l5, l6, l7] S σ Q := pSt (i := 4) f_87_76 rfl rfl (show (4 : Nat) < 8 by decide) (oC1n c3) (oC1n c4) rfl
theorem f_87_78 : oFet 87 78 = some (.iinc 5 1, 3) := by decide +kernel
theorem s_87_78 {d : Nat} {l0 l1 l2 l3 l4 l6 l7 : oV} {x : Int} {S : List oV} {σ : oSg} {Q : Option oV → (Nat → oC) → Prop} (c4 : oCat l4 = 1)  : oE d 87 78 [l0, l1, l2, l3, l4, .inl x, l6, l7] S σ Q = oE d 87 81 [l0, l1, l2, l3, l4, .inl (oAdd x (1)), l6, l7] S σ Q := pInc f_87_78 rfl (show (5 : Nat) < 8 by decide) (oC1n c4) (oC1n (v := .inl x) rfl) rfl
theorem f_87_81 : oFet 87 81 = some (.goto (-71), 3) := by decide +kernel
theorem s_87_81 {d : Nat} {l0 l1 l2 l3 l4 l5 l6 l7 : oV} {S : List oV} {σ : oSg} {Q : Option oV → (Nat → oC) → Prop} : oE d 87 81 [l0, l1, l2, l3, l4, l5, l6, l7] S σ Q = oE d 87 10 [l0, l1, l2, l3, l4, l5, l6, l7] S σ Q := pGoto f_87_81 (by decide)
theorem f_87_84 : oFet 87 84 = some (.iload_n 3, 1) := by decide +kernel
theorem s_87_84 {d : Nat} {l0 l1 l2 l4 l5 l6 l7 : oV} {x : Int} {S : List oV} {σ : oSg} {Q : Option oV → (Nat → oC) → Prop} : oE d 87 84 [l0, l1, l2, .inl x, l4, l5, l6, l7] S σ Q = oE d 87 85 [l0, l1, l2, .inl x, l4, l5, l6, l7] (.inl x :: S) σ Q := pLdN (k := 3) f_87_84 rfl rfl rfl
theorem f_87_85 : oFet 87 85 = some (.ireturn, 1) := by decide +kernel
theorem s_87_85 {d : Nat} {l0 l1 l2 l3 l4 l5 l6 l7 : oV} {x : Int} {σ : oSg} {Q : Option oV → (Nat → oC) → Prop} : oE d 87 85 [l0, l1, l2, l3, l4, l5, l6, l7] [.inl x] σ Q = Q (some (.inl x)) (oBld σ) := oIret f_87_85 rt_87
theorem ow_88 : (oMt 88).2.2.2.2.1 = 5 := by decide +kernel
theorem rt_88 : (oMt 88).2.2.2.1 = none := by decide +kernel
theorem nl_88 : (oMt 88).2.2.1 = 5 := by decide +kernel
theorem f_88_0 : oFet 88 0 = some (.aload_n 1, 1) := by decide +kernel
theorem s_88_0 {d : Nat} {l0 l2 l3 l4 : oV} {a : Nat} {S : List oV} {σ : oSg} {Q : Option oV → (Nat → oC) → Prop} : oE d 88 0 [l0, .inr (.inr (.inl a)), l2, l3, l4] S σ Q = oE d 88 1 [l0, .inr (.inr (.inl a)), l2, l3, l4] (.inr (.inr (.inl a)) :: S) σ Q := pLdN (k := 1) f_88_0 rfl rfl rfl
theorem f_88_1 : oFet 88 1 = some (.invokevirtual 15, 3) := by decide +kernel
theorem c_88_1 {d : Nat} {l0 l1 l2 l3 l4 : oV} {a : Nat} {v : Option oV} {τ : oSg} {S : List oV} {σ : oSg} {Q : Option oV → (Nat → oC) → Prop} (hm : oMi d 26 [.inr (.inr (.inl a))] σ v τ) (hk : oKd a = some 4) (hs : oSmall S = true) : oE d 88 1 [l0, l1, l2, l3, l4] (.inr (.inr (.inl a)) :: S) σ Q = oE d 88 4 [l0, l1, l2, l3, l4] (v.toList ++ S) τ Q := pCallV f_88_1 ow_88 lk_5_15 mt_26 rfl rfl rfl hk hs hm
theorem f_88_4 : oFet 88 4 = some (.istore_n 3, 1) := by decide +kernel
theorem s_88_4 {d : Nat} {l0 l1 l2 l3 l4 : oV} {x : Int} {S : List oV} {σ : oSg} {Q : Option oV → (Nat → oC) → Prop} (c3 : oCat l3 = 1) (c2 : oCat l2 = 1)  : oE d 88 4 [l0, l1, l2, l3, l4] (.inl x :: S) σ Q = oE d 88 5 [l0, l1, l2, .inl x, l4] S σ Q := pSt (i := 3) f_88_4 rfl rfl (show (3 : Nat) < 5 by decide) (oC1n c2) (oC1n c3) rfl
theorem f_88_5 : oFet 88 5 = some (.aload_n 0, 1) := by decide +kernel
theorem s_88_5 {d : Nat} {l1 l2 l3 l4 : oV} {a : Nat} {S : List oV} {σ : oSg} {Q : Option oV → (Nat → oC) → Prop} : oE d 88 5 [.inr (.inr (.inl a)), l1, l2, l3, l4] S σ Q = oE d 88 6 [.inr (.inr (.inl a)), l1, l2, l3, l4] (.inr (.inr (.inl a)) :: S) σ Q := pLdN (k := 0) f_88_5 rfl rfl rfl
theorem f_88_6 : oFet 88 6 = some (.iconst 0, 1) := by decide +kernel
theorem s_88_6 {d : Nat} {l0 l1 l2 l3 l4 : oV} {S : List oV} {σ : oSg} {Q : Option oV → (Nat → oC) → Prop} : oE d 88 6 [l0, l1, l2, l3, l4] S σ Q = oE d 88 7 [l0, l1, l2, l3, l4] (.inl (0) :: S) σ Q := pKst f_88_6 (by decide)
theorem f_88_7 : oFet 88 7 = some (.putfield 21, 3) := by decide +kernel
theorem s_88_7 {d : Nat} {l0 l1 l2 l3 l4 : oV} {a : Nat} {v : Int} {S : List oV} {σ : oSg} {Q : Option oV → (Nat → oC) → Prop} (hk : oKd a = some 5) : oE d 88 7 [l0, l1, l2, l3, l4] (.inl v :: .inr (.inr (.inl a)) :: S) σ Q = oE d 88 10 [l0, l1, l2, l3, l4] S (oSF σ a 0 v) Q := pPfI f_88_7 ow_88 fl_5_21 rfl (by decide) rfl rfl hk
theorem f_88_10 : oFet 88 10 = some (.iconst 0, 1) := by decide +kernel
theorem s_88_10 {d : Nat} {l0 l1 l2 l3 l4 : oV} {S : List oV} {σ : oSg} {Q : Option oV → (Nat → oC) → Prop} : oE d 88 10 [l0, l1, l2, l3, l4] S σ Q = oE d 88 11 [l0, l1, l2, l3, l4] (.inl (0) :: S) σ Q := pKst f_88_10 (by decide)
theorem f_88_11 : oFet 88 11 = some (.istore 4, 2) := by decide +kernel
theorem s_88_11 {d : Nat} {l0 l1 l2 l3 l4 : oV} {x : Int} {S : List oV} {σ : oSg} {Q : Option oV → (Nat → oC) → Prop} (c4 : oCat l4 = 1) (c3 : oCat l3 = 1)  : oE d 88 11 [l0, l1, l2, l3, l4] (.inl x :: S) σ Q = oE d 88 13 [l0, l1, l2, l3, .inl x] S σ Q := pSt (i := 4) f_88_11 rfl rfl (show (4 : Nat) < 5 by decide) (oC1n c3) (oC1n c4) rfl
theorem f_88_13 : oFet 88 13 = some (.iload 4, 2) := by decide +kernel
theorem s_88_13 {d : Nat} {l0 l1 l2 l3 : oV} {x : Int} {S : List oV} {σ : oSg} {Q : Option oV → (Nat → oC) → Prop} : oE d 88 13 [l0, l1, l2, l3, .inl x] S σ Q = oE d 88 15 [l0, l1, l2, l3, .inl x] (.inl x :: S) σ Q := pLd (i := 4) f_88_13 rfl rfl rfl
theorem f_88_15 : oFet 88 15 = some (.aload_n 1, 1) := by decide +kernel
theorem s_88_15 {d : Nat} {l0 l2 l3 l4 : oV} {a : Nat} {S : List oV} {σ : oSg} {Q : Option oV → (Nat → oC) → Prop} : oE d 88 15 [l0, .inr (.inr (.inl a)), l2, l3, l4] S σ Q = oE d 88 16 [l0, .inr (.inr (.inl a)), l2, l3, l4] (.inr (.inr (.inl a)) :: S) σ Q := pLdN (k := 1) f_88_15 rfl rfl rfl
theorem f_88_16 : oFet 88 16 = some (.getfield 25, 3) := by decide +kernel
theorem s_88_16 {d : Nat} {l0 l1 l2 l3 l4 : oV} {a : Nat} {S : List oV} {σ : oSg} {Q : Option oV → (Nat → oC) → Prop} (hk : oKd a = some 4) : oE d 88 16 [l0, l1, l2, l3, l4] (.inr (.inr (.inl a)) :: S) σ Q = oE d 88 19 [l0, l1, l2, l3, l4] (.inl (σ.1 a 0) :: S) σ Q := pGfI f_88_16 ow_88 fl_5_25 rfl (by decide) hk
theorem f_88_19 : oFet 88 19 = some (.if_icmp .ge 41, 3) := by decide +kernel
theorem s_88_19 {d : Nat} {l0 l1 l2 l3 l4 : oV} {x y : Int} {S : List oV} {σ : oSg} {Q : Option oV → (Nat → oC) → Prop} : oE d 88 19 [l0, l1, l2, l3, l4] (.inl y :: .inl x :: S) σ Q = if y ≤ x then oE d 88 60 [l0, l1, l2, l3, l4] S σ Q else oE d 88 22 [l0, l1, l2, l3, l4] S σ Q := oCmpGe f_88_19 (by decide)
theorem f_88_22 : oFet 88 22 = some (.aload_n 2, 1) := by decide +kernel
theorem s_88_22 {d : Nat} {l0 l1 l3 l4 : oV} {a : Nat} {S : List oV} {σ : oSg} {Q : Option oV → (Nat → oC) → Prop} : oE d 88 22 [l0, l1, .inr (.inr (.inl a)), l3, l4] S σ Q = oE d 88 23 [l0, l1, .inr (.inr (.inl a)), l3, l4] (.inr (.inr (.inl a)) :: S) σ Q := pLdN (k := 2) f_88_22 rfl rfl rfl
theorem f_88_23 : oFet 88 23 = some (.iload_n 3, 1) := by decide +kernel
theorem s_88_23 {d : Nat} {l0 l1 l2 l4 : oV} {x : Int} {S : List oV} {σ : oSg} {Q : Option oV → (Nat → oC) → Prop} : oE d 88 23 [l0, l1, l2, .inl x, l4] S σ Q = oE d 88 24 [l0, l1, l2, .inl x, l4] (.inl x :: S) σ Q := pLdN (k := 3) f_88_23 rfl rfl rfl
theorem f_88_24 : oFet 88 24 = some (.iconst 1, 1) := by decide +kernel
theorem s_88_24 {d : Nat} {l0 l1 l2 l3 l4 : oV} {S : List oV} {σ : oSg} {Q : Option oV → (Nat → oC) → Prop} : oE d 88 24 [l0, l1, l2, l3, l4] S σ Q = oE d 88 25 [l0, l1, l2, l3, l4] (.inl (1) :: S) σ Q := pKst f_88_24 (by decide)
theorem f_88_25 : oFet 88 25 = some (.iload 4, 2) := by decide +kernel
theorem s_88_25 {d : Nat} {l0 l1 l2 l3 : oV} {x : Int} {S : List oV} {σ : oSg} {Q : Option oV → (Nat → oC) → Prop} : oE d 88 25 [l0, l1, l2, l3, .inl x] S σ Q = oE d 88 27 [l0, l1, l2, l3, .inl x] (.inl x :: S) σ Q := pLd (i := 4) f_88_25 rfl rfl rfl
theorem f_88_27 : oFet 88 27 = some (.ishl, 1) := by decide +kernel
theorem s_88_27 {d : Nat} {l0 l1 l2 l3 l4 : oV} {x y : Int} {S : List oV} {σ : oSg} {Q : Option oV → (Nat → oC) → Prop} : oE d 88 27 [l0, l1, l2, l3, l4] (.inl y :: .inl x :: S) σ Q = oE d 88 28 [l0, l1, l2, l3, l4] (.inl (oShl x y) :: S) σ Q := oS3 f_88_27 rfl rfl rfl
theorem f_88_28 : oFet 88 28 = some (.iconst (-1), 1) := by decide +kernel
theorem s_88_28 {d : Nat} {l0 l1 l2 l3 l4 : oV} {S : List oV} {σ : oSg} {Q : Option oV → (Nat → oC) → Prop} : oE d 88 28 [l0, l1, l2, l3, l4] S σ Q = oE d 88 29 [l0, l1, l2, l3, l4] (.inl (-1) :: S) σ Q := pKst f_88_28 (by decide)
theorem f_88_29 : oFet 88 29 = some (.ixor, 1) := by decide +kernel
theorem s_88_29 {d : Nat} {l0 l1 l2 l3 l4 : oV} {x y : Int} {S : List oV} {σ : oSg} {Q : Option oV → (Nat → oC) → Prop} : oE d 88 29 [l0, l1, l2, l3, l4] (.inl y :: .inl x :: S) σ Q = oE d 88 30 [l0, l1, l2, l3, l4] (.inl (oXor x y) :: S) σ Q := oS3 f_88_29 rfl rfl rfl
theorem f_88_30 : oFet 88 30 = some (.iand, 1) := by decide +kernel
theorem s_88_30 {d : Nat} {l0 l1 l2 l3 l4 : oV} {x y : Int} {S : List oV} {σ : oSg} {Q : Option oV → (Nat → oC) → Prop} : oE d 88 30 [l0, l1, l2, l3, l4] (.inl y :: .inl x :: S) σ Q = oE d 88 31 [l0, l1, l2, l3, l4] (.inl (oAnd x y) :: S) σ Q := oS3 f_88_30 rfl rfl rfl
theorem f_88_31 : oFet 88 31 = some (.invokevirtual 28, 3) := by decide +kernel
theorem c_88_31 {d : Nat} {l0 l1 l2 l3 l4 : oV} {x0 : oV} {a : Nat} {v : Option oV} {τ : oSg} {S : List oV} {σ : oSg} {Q : Option oV → (Nat → oC) → Prop} (hm : oMi d 89 [.inr (.inr (.inl a)), x0] σ v τ) (hk : oKd a = some 3) (hs : oSmall S = true) : oE d 88 31 [l0, l1, l2, l3, l4] (x0 :: .inr (.inr (.inl a)) :: S) σ Q = oE d 88 34 [l0, l1, l2, l3, l4] (v.toList ++ S) τ Q := pCallV f_88_31 ow_88 lk_5_28 mt_89 rfl rfl rfl hk hs hm
theorem f_88_34 : oFet 88 34 = some (.aload_n 2, 1) := by decide +kernel
theorem s_88_34 {d : Nat} {l0 l1 l3 l4 : oV} {a : Nat} {S : List oV} {σ : oSg} {Q : Option oV → (Nat → oC) → Prop} : oE d 88 34 [l0, l1, .inr (.inr (.inl a)), l3, l4] S σ Q = oE d 88 35 [l0, l1, .inr (.inr (.inl a)), l3, l4] (.inr (.inr (.inl a)) :: S) σ Q := pLdN (k := 2) f_88_34 rfl rfl rfl
theorem f_88_35 : oFet 88 35 = some (.getfield 34, 3) := by decide +kernel
theorem s_88_35 {d : Nat} {l0 l1 l2 l3 l4 : oV} {a : Nat} {S : List oV} {σ : oSg} {Q : Option oV → (Nat → oC) → Prop} (hk : oKd a = some 3) : oE d 88 35 [l0, l1, l2, l3, l4] (.inr (.inr (.inl a)) :: S) σ Q = oE d 88 38 [l0, l1, l2, l3, l4] (.inl (σ.1 a 1) :: S) σ Q := pGfI f_88_35 ow_88 fl_5_34 rfl (by decide) hk
theorem f_88_38 : oFet 88 38 = some (.if_icmp .ne 16, 3) := by decide +kernel
theorem s_88_38 {d : Nat} {l0 l1 l2 l3 l4 : oV} {x y : Int} {S : List oV} {σ : oSg} {Q : Option oV → (Nat → oC) → Prop} : oE d 88 38 [l0, l1, l2, l3, l4] (.inl y :: .inl x :: S) σ Q = if ¬ x = y then oE d 88 54 [l0, l1, l2, l3, l4] S σ Q else oE d 88 41 [l0, l1, l2, l3, l4] S σ Q := oCmpNe f_88_38 (by decide)
theorem f_88_41 : oFet 88 41 = some (.aload_n 0, 1) := by decide +kernel
theorem s_88_41 {d : Nat} {l1 l2 l3 l4 : oV} {a : Nat} {S : List oV} {σ : oSg} {Q : Option oV → (Nat → oC) → Prop} : oE d 88 41 [.inr (.inr (.inl a)), l1, l2, l3, l4] S σ Q = oE d 88 42 [.inr (.inr (.inl a)), l1, l2, l3, l4] (.inr (.inr (.inl a)) :: S) σ Q := pLdN (k := 0) f_88_41 rfl rfl rfl
theorem f_88_42 : oFet 88 42 = some (.dup, 1) := by decide +kernel
theorem s_88_42 {d : Nat} {l0 l1 l2 l3 l4 : oV} {a : Nat} {S : List oV} {σ : oSg} {Q : Option oV → (Nat → oC) → Prop} : oE d 88 42 [l0, l1, l2, l3, l4] (.inr (.inr (.inl a)) :: S) σ Q = oE d 88 43 [l0, l1, l2, l3, l4] (.inr (.inr (.inl a)) :: .inr (.inr (.inl a)) :: S) σ Q := pDupR f_88_42
theorem s_88_42_i {d : Nat} {l0 l1 l2 l3 l4 : oV} {x : Int} {S : List oV} {σ : oSg} {Q : Option oV → (Nat → oC) → Prop} : oE d 88 42 [l0, l1, l2, l3, l4] (.inl x :: S) σ Q = oE d 88 43 [l0, l1, l2, l3, l4] (.inl x :: .inl x :: S) σ Q := pDupI f_88_42
theorem f_88_43 : oFet 88 43 = some (.getfield 21, 3) := by decide +kernel
theorem s_88_43 {d : Nat} {l0 l1 l2 l3 l4 : oV} {a : Nat} {S : List oV} {σ : oSg} {Q : Option oV → (Nat → oC) → Prop} (hk : oKd a = some 5) : oE d 88 43 [l0, l1, l2, l3, l4] (.inr (.inr (.inl a)) :: S) σ Q = oE d 88 46 [l0, l1, l2, l3, l4] (.inl (σ.1 a 0) :: S) σ Q := pGfI f_88_43 ow_88 fl_5_21 rfl (by decide) hk
theorem f_88_46 : oFet 88 46 = some (.iconst 1, 1) := by decide +kernel
theorem s_88_46 {d : Nat} {l0 l1 l2 l3 l4 : oV} {S : List oV} {σ : oSg} {Q : Option oV → (Nat → oC) → Prop} : oE d 88 46 [l0, l1, l2, l3, l4] S σ Q = oE d 88 47 [l0, l1, l2, l3, l4] (.inl (1) :: S) σ Q := pKst f_88_46 (by decide)
theorem f_88_47 : oFet 88 47 = some (.iload 4, 2) := by decide +kernel
theorem s_88_47 {d : Nat} {l0 l1 l2 l3 : oV} {x : Int} {S : List oV} {σ : oSg} {Q : Option oV → (Nat → oC) → Prop} : oE d 88 47 [l0, l1, l2, l3, .inl x] S σ Q = oE d 88 49 [l0, l1, l2, l3, .inl x] (.inl x :: S) σ Q := pLd (i := 4) f_88_47 rfl rfl rfl
theorem f_88_49 : oFet 88 49 = some (.ishl, 1) := by decide +kernel
theorem s_88_49 {d : Nat} {l0 l1 l2 l3 l4 : oV} {x y : Int} {S : List oV} {σ : oSg} {Q : Option oV → (Nat → oC) → Prop} : oE d 88 49 [l0, l1, l2, l3, l4] (.inl y :: .inl x :: S) σ Q = oE d 88 50 [l0, l1, l2, l3, l4] (.inl (oShl x y) :: S) σ Q := oS3 f_88_49 rfl rfl rfl
theorem f_88_50 : oFet 88 50 = some (.ior, 1) := by decide +kernel
theorem s_88_50 {d : Nat} {l0 l1 l2 l3 l4 : oV} {x y : Int} {S : List oV} {σ : oSg} {Q : Option oV → (Nat → oC) → Prop} : oE d 88 50 [l0, l1, l2, l3, l4] (.inl y :: .inl x :: S) σ Q = oE d 88 51 [l0, l1, l2, l3, l4] (.inl (oOr x y) :: S) σ Q := oS3 f_88_50 rfl rfl rfl
theorem f_88_51 : oFet 88 51 = some (.putfield 21, 3) := by decide +kernel
theorem s_88_51 {d : Nat} {l0 l1 l2 l3 l4 : oV} {a : Nat} {v : Int} {S : List oV} {σ : oSg} {Q : Option oV → (Nat → oC) → Prop} (hk : oKd a = some 5) : oE d 88 51 [l0, l1, l2, l3, l4] (.inl v :: .inr (.inr (.inl a)) :: S) σ Q = oE d 88 54 [l0, l1, l2, l3, l4] S (oSF σ a 0 v) Q := pPfI f_88_51 ow_88 fl_5_21 rfl (by decide) rfl rfl hk
theorem f_88_54 : oFet 88 54 = some (.iinc 4 1, 3) := by decide +kernel
theorem s_88_54 {d : Nat} {l0 l1 l2 l3 : oV} {x : Int} {S : List oV} {σ : oSg} {Q : Option oV → (Nat → oC) → Prop} (c3 : oCat l3 = 1)  : oE d 88 54 [l0, l1, l2, l3, .inl x] S σ Q = oE d 88 57 [l0, l1, l2, l3, .inl (oAdd x (1))] S σ Q := pInc f_88_54 rfl (show (4 : Nat) < 5 by decide) (oC1n c3) (oC1n (v := .inl x) rfl) rfl
theorem f_88_57 : oFet 88 57 = some (.goto (-44), 3) := by decide +kernel
theorem s_88_57 {d : Nat} {l0 l1 l2 l3 l4 : oV} {S : List oV} {σ : oSg} {Q : Option oV → (Nat → oC) → Prop} : oE d 88 57 [l0, l1, l2, l3, l4] S σ Q = oE d 88 13 [l0, l1, l2, l3, l4] S σ Q := pGoto f_88_57 (by decide)
theorem f_88_60 : oFet 88 60 = some (.aload_n 0, 1) := by decide +kernel
theorem s_88_60 {d : Nat} {l1 l2 l3 l4 : oV} {a : Nat} {S : List oV} {σ : oSg} {Q : Option oV → (Nat → oC) → Prop} : oE d 88 60 [.inr (.inr (.inl a)), l1, l2, l3, l4] S σ Q = oE d 88 61 [.inr (.inr (.inl a)), l1, l2, l3, l4] (.inr (.inr (.inl a)) :: S) σ Q := pLdN (k := 0) f_88_60 rfl rfl rfl
theorem f_88_61 : oFet 88 61 = some (.iconst 0, 1) := by decide +kernel
theorem s_88_61 {d : Nat} {l0 l1 l2 l3 l4 : oV} {S : List oV} {σ : oSg} {Q : Option oV → (Nat → oC) → Prop} : oE d 88 61 [l0, l1, l2, l3, l4] S σ Q = oE d 88 62 [l0, l1, l2, l3, l4] (.inl (0) :: S) σ Q := pKst f_88_61 (by decide)
theorem f_88_62 : oFet 88 62 = some (.putfield 37, 3) := by decide +kernel
theorem s_88_62 {d : Nat} {l0 l1 l2 l3 l4 : oV} {a : Nat} {v : Int} {S : List oV} {σ : oSg} {Q : Option oV → (Nat → oC) → Prop} (hk : oKd a = some 5) : oE d 88 62 [l0, l1, l2, l3, l4] (.inl v :: .inr (.inr (.inl a)) :: S) σ Q = oE d 88 65 [l0, l1, l2, l3, l4] S (oSF σ a 1 v) Q := pPfI f_88_62 ow_88 fl_5_37 rfl (by decide) rfl rfl hk
theorem f_88_65 : oFet 88 65 = some (.iconst 0, 1) := by decide +kernel
theorem s_88_65 {d : Nat} {l0 l1 l2 l3 l4 : oV} {S : List oV} {σ : oSg} {Q : Option oV → (Nat → oC) → Prop} : oE d 88 65 [l0, l1, l2, l3, l4] S σ Q = oE d 88 66 [l0, l1, l2, l3, l4] (.inl (0) :: S) σ Q := pKst f_88_65 (by decide)
theorem f_88_66 : oFet 88 66 = some (.istore 4, 2) := by decide +kernel
theorem s_88_66 {d : Nat} {l0 l1 l2 l3 l4 : oV} {x : Int} {S : List oV} {σ : oSg} {Q : Option oV → (Nat → oC) → Prop} (c4 : oCat l4 = 1) (c3 : oCat l3 = 1)  : oE d 88 66 [l0, l1, l2, l3, l4] (.inl x :: S) σ Q = oE d 88 68 [l0, l1, l2, l3, .inl x] S σ Q := pSt (i := 4) f_88_66 rfl rfl (show (4 : Nat) < 5 by decide) (oC1n c3) (oC1n c4) rfl
theorem f_88_68 : oFet 88 68 = some (.iload 4, 2) := by decide +kernel
theorem s_88_68 {d : Nat} {l0 l1 l2 l3 : oV} {x : Int} {S : List oV} {σ : oSg} {Q : Option oV → (Nat → oC) → Prop} : oE d 88 68 [l0, l1, l2, l3, .inl x] S σ Q = oE d 88 70 [l0, l1, l2, l3, .inl x] (.inl x :: S) σ Q := pLd (i := 4) f_88_68 rfl rfl rfl
theorem f_88_70 : oFet 88 70 = some (.aload_n 1, 1) := by decide +kernel
theorem s_88_70 {d : Nat} {l0 l2 l3 l4 : oV} {a : Nat} {S : List oV} {σ : oSg} {Q : Option oV → (Nat → oC) → Prop} : oE d 88 70 [l0, .inr (.inr (.inl a)), l2, l3, l4] S σ Q = oE d 88 71 [l0, .inr (.inr (.inl a)), l2, l3, l4] (.inr (.inr (.inl a)) :: S) σ Q := pLdN (k := 1) f_88_70 rfl rfl rfl
theorem f_88_71 : oFet 88 71 = some (.getfield 25, 3) := by decide +kernel
theorem s_88_71 {d : Nat} {l0 l1 l2 l3 l4 : oV} {a : Nat} {S : List oV} {σ : oSg} {Q : Option oV → (Nat → oC) → Prop} (hk : oKd a = some 4) : oE d 88 71 [l0, l1, l2, l3, l4] (.inr (.inr (.inl a)) :: S) σ Q = oE d 88 74 [l0, l1, l2, l3, l4] (.inl (σ.1 a 0) :: S) σ Q := pGfI f_88_71 ow_88 fl_5_25 rfl (by decide) hk
theorem f_88_74 : oFet 88 74 = some (.if_icmp .ge 48, 3) := by decide +kernel
theorem s_88_74 {d : Nat} {l0 l1 l2 l3 l4 : oV} {x y : Int} {S : List oV} {σ : oSg} {Q : Option oV → (Nat → oC) → Prop} : oE d 88 74 [l0, l1, l2, l3, l4] (.inl y :: .inl x :: S) σ Q = if y ≤ x then oE d 88 122 [l0, l1, l2, l3, l4] S σ Q else oE d 88 77 [l0, l1, l2, l3, l4] S σ Q := oCmpGe f_88_74 (by decide)
theorem f_88_77 : oFet 88 77 = some (.iload 4, 2) := by decide +kernel
theorem s_88_77 {d : Nat} {l0 l1 l2 l3 : oV} {x : Int} {S : List oV} {σ : oSg} {Q : Option oV → (Nat → oC) → Prop} : oE d 88 77 [l0, l1, l2, l3, .inl x] S σ Q = oE d 88 79 [l0, l1, l2, l3, .inl x] (.inl x :: S) σ Q := pLd (i := 4) f_88_77 rfl rfl rfl
theorem f_88_79 : oFet 88 79 = some (.aload_n 0, 1) := by decide +kernel
theorem s_88_79 {d : Nat} {l1 l2 l3 l4 : oV} {a : Nat} {S : List oV} {σ : oSg} {Q : Option oV → (Nat → oC) → Prop} : oE d 88 79 [.inr (.inr (.inl a)), l1, l2, l3, l4] S σ Q = oE d 88 80 [.inr (.inr (.inl a)), l1, l2, l3, l4] (.inr (.inr (.inl a)) :: S) σ Q := pLdN (k := 0) f_88_79 rfl rfl rfl
theorem f_88_80 : oFet 88 80 = some (.getfield 21, 3) := by decide +kernel
theorem s_88_80 {d : Nat} {l0 l1 l2 l3 l4 : oV} {a : Nat} {S : List oV} {σ : oSg} {Q : Option oV → (Nat → oC) → Prop} (hk : oKd a = some 5) : oE d 88 80 [l0, l1, l2, l3, l4] (.inr (.inr (.inl a)) :: S) σ Q = oE d 88 83 [l0, l1, l2, l3, l4] (.inl (σ.1 a 0) :: S) σ Q := pGfI f_88_80 ow_88 fl_5_21 rfl (by decide) hk
theorem f_88_83 : oFet 88 83 = some (.invokestatic 40, 3) := by decide +kernel
theorem c_88_83 {d : Nat} {l0 l1 l2 l3 l4 : oV} {x0 x1 : oV} {v : Option oV} {τ : oSg} {S : List oV} {σ : oSg} {Q : Option oV → (Nat → oC) → Prop} (hm : oMi d 28 [x0, x1] σ v τ) (hs : oSmall S = true) : oE d 88 83 [l0, l1, l2, l3, l4] (x1 :: x0 :: S) σ Q = oE d 88 86 [l0, l1, l2, l3, l4] (v.toList ++ S) τ Q := pCallS f_88_83 ow_88 lk_5_40 mt_28 rfl rfl rfl hs hm
theorem f_88_86 : oFet 88 86 = some (.ifCond .ne 30, 3) := by decide +kernel
theorem s_88_86 {d : Nat} {l0 l1 l2 l3 l4 : oV} {x : Int} {S : List oV} {σ : oSg} {Q : Option oV → (Nat → oC) → Prop} : oE d 88 86 [l0, l1, l2, l3, l4] (.inl x :: S) σ Q = if ¬ x = 0 then oE d 88 116 [l0, l1, l2, l3, l4] S σ Q else oE d 88 89 [l0, l1, l2, l3, l4] S σ Q := oIfNe f_88_86 (by decide)
theorem f_88_89 : oFet 88 89 = some (.aload_n 1, 1) := by decide +kernel
theorem s_88_89 {d : Nat} {l0 l2 l3 l4 : oV} {a : Nat} {S : List oV} {σ : oSg} {Q : Option oV → (Nat → oC) → Prop} : oE d 88 89 [l0, .inr (.inr (.inl a)), l2, l3, l4] S σ Q = oE d 88 90 [l0, .inr (.inr (.inl a)), l2, l3, l4] (.inr (.inr (.inl a)) :: S) σ Q := pLdN (k := 1) f_88_89 rfl rfl rfl
theorem f_88_90 : oFet 88 90 = some (.iload 4, 2) := by decide +kernel
theorem s_88_90 {d : Nat} {l0 l1 l2 l3 : oV} {x : Int} {S : List oV} {σ : oSg} {Q : Option oV → (Nat → oC) → Prop} : oE d 88 90 [l0, l1, l2, l3, .inl x] S σ Q = oE d 88 92 [l0, l1, l2, l3, .inl x] (.inl x :: S) σ Q := pLd (i := 4) f_88_90 rfl rfl rfl
theorem f_88_92 : oFet 88 92 = some (.invokevirtual 46, 3) := by decide +kernel
theorem c_88_92 {d : Nat} {l0 l1 l2 l3 l4 : oV} {x0 : oV} {a : Nat} {v : Option oV} {τ : oSg} {S : List oV} {σ : oSg} {Q : Option oV → (Nat → oC) → Prop} (hm : oMi d 76 [.inr (.inr (.inl a)), x0] σ v τ) (hk : oKd a = some 4) (hs : oSmall S = true) : oE d 88 92 [l0, l1, l2, l3, l4] (x0 :: .inr (.inr (.inl a)) :: S) σ Q = oE d 88 95 [l0, l1, l2, l3, l4] (v.toList ++ S) τ Q := pCallV f_88_92 ow_88 lk_5_46 mt_76 rfl rfl rfl hk hs hm
theorem f_88_95 : oFet 88 95 = some (.aload_n 0, 1) := by decide +kernel
theorem s_88_95 {d : Nat} {l1 l2 l3 l4 : oV} {a : Nat} {S : List oV} {σ : oSg} {Q : Option oV → (Nat → oC) → Prop} : oE d 88 95 [.inr (.inr (.inl a)), l1, l2, l3, l4] S σ Q = oE d 88 96 [.inr (.inr (.inl a)), l1, l2, l3, l4] (.inr (.inr (.inl a)) :: S) σ Q := pLdN (k := 0) f_88_95 rfl rfl rfl
theorem f_88_96 : oFet 88 96 = some (.getfield 21, 3) := by decide +kernel
theorem s_88_96 {d : Nat} {l0 l1 l2 l3 l4 : oV} {a : Nat} {S : List oV} {σ : oSg} {Q : Option oV → (Nat → oC) → Prop} (hk : oKd a = some 5) : oE d 88 96 [l0, l1, l2, l3, l4] (.inr (.inr (.inl a)) :: S) σ Q = oE d 88 99 [l0, l1, l2, l3, l4] (.inl (σ.1 a 0) :: S) σ Q := pGfI f_88_96 ow_88 fl_5_21 rfl (by decide) hk
theorem f_88_99 : oFet 88 99 = some (.iand, 1) := by decide +kernel
theorem s_88_99 {d : Nat} {l0 l1 l2 l3 l4 : oV} {x y : Int} {S : List oV} {σ : oSg} {Q : Option oV → (Nat → oC) → Prop} : oE d 88 99 [l0, l1, l2, l3, l4] (.inl y :: .inl x :: S) σ Q = oE d 88 100 [l0, l1, l2, l3, l4] (.inl (oAnd x y) :: S) σ Q := oS3 f_88_99 rfl rfl rfl
theorem f_88_100 : oFet 88 100 = some (.ifCond .eq 16, 3) := by decide +kernel
theorem s_88_100 {d : Nat} {l0 l1 l2 l3 l4 : oV} {x : Int} {S : List oV} {σ : oSg} {Q : Option oV → (Nat → oC) → Prop} : oE d 88 100 [l0, l1, l2, l3, l4] (.inl x :: S) σ Q = if x = 0 then oE d 88 116 [l0, l1, l2, l3, l4] S σ Q else oE d 88 103 [l0, l1, l2, l3, l4] S σ Q := oIfEq f_88_100 (by decide)
theorem f_88_103 : oFet 88 103 = some (.aload_n 0, 1) := by decide +kernel
theorem s_88_103 {d : Nat} {l1 l2 l3 l4 : oV} {a : Nat} {S : List oV} {σ : oSg} {Q : Option oV → (Nat → oC) → Prop} : oE d 88 103 [.inr (.inr (.inl a)), l1, l2, l3, l4] S σ Q = oE d 88 104 [.inr (.inr (.inl a)), l1, l2, l3, l4] (.inr (.inr (.inl a)) :: S) σ Q := pLdN (k := 0) f_88_103 rfl rfl rfl
theorem f_88_104 : oFet 88 104 = some (.dup, 1) := by decide +kernel
theorem s_88_104 {d : Nat} {l0 l1 l2 l3 l4 : oV} {a : Nat} {S : List oV} {σ : oSg} {Q : Option oV → (Nat → oC) → Prop} : oE d 88 104 [l0, l1, l2, l3, l4] (.inr (.inr (.inl a)) :: S) σ Q = oE d 88 105 [l0, l1, l2, l3, l4] (.inr (.inr (.inl a)) :: .inr (.inr (.inl a)) :: S) σ Q := pDupR f_88_104
theorem s_88_104_i {d : Nat} {l0 l1 l2 l3 l4 : oV} {x : Int} {S : List oV} {σ : oSg} {Q : Option oV → (Nat → oC) → Prop} : oE d 88 104 [l0, l1, l2, l3, l4] (.inl x :: S) σ Q = oE d 88 105 [l0, l1, l2, l3, l4] (.inl x :: .inl x :: S) σ Q := pDupI f_88_104
theorem f_88_105 : oFet 88 105 = some (.getfield 37, 3) := by decide +kernel
theorem s_88_105 {d : Nat} {l0 l1 l2 l3 l4 : oV} {a : Nat} {S : List oV} {σ : oSg} {Q : Option oV → (Nat → oC) → Prop} (hk : oKd a = some 5) : oE d 88 105 [l0, l1, l2, l3, l4] (.inr (.inr (.inl a)) :: S) σ Q = oE d 88 108 [l0, l1, l2, l3, l4] (.inl (σ.1 a 1) :: S) σ Q := pGfI f_88_105 ow_88 fl_5_37 rfl (by decide) hk
theorem f_88_108 : oFet 88 108 = some (.iconst 1, 1) := by decide +kernel
theorem s_88_108 {d : Nat} {l0 l1 l2 l3 l4 : oV} {S : List oV} {σ : oSg} {Q : Option oV → (Nat → oC) → Prop} : oE d 88 108 [l0, l1, l2, l3, l4] S σ Q = oE d 88 109 [l0, l1, l2, l3, l4] (.inl (1) :: S) σ Q := pKst f_88_108 (by decide)
theorem f_88_109 : oFet 88 109 = some (.iload 4, 2) := by decide +kernel
theorem s_88_109 {d : Nat} {l0 l1 l2 l3 : oV} {x : Int} {S : List oV} {σ : oSg} {Q : Option oV → (Nat → oC) → Prop} : oE d 88 109 [l0, l1, l2, l3, .inl x] S σ Q = oE d 88 111 [l0, l1, l2, l3, .inl x] (.inl x :: S) σ Q := pLd (i := 4) f_88_109 rfl rfl rfl
theorem f_88_111 : oFet 88 111 = some (.ishl, 1) := by decide +kernel
theorem s_88_111 {d : Nat} {l0 l1 l2 l3 l4 : oV} {x y : Int} {S : List oV} {σ : oSg} {Q : Option oV → (Nat → oC) → Prop} : oE d 88 111 [l0, l1, l2, l3, l4] (.inl y :: .inl x :: S) σ Q = oE d 88 112 [l0, l1, l2, l3, l4] (.inl (oShl x y) :: S) σ Q := oS3 f_88_111 rfl rfl rfl
theorem f_88_112 : oFet 88 112 = some (.ior, 1) := by decide +kernel
theorem s_88_112 {d : Nat} {l0 l1 l2 l3 l4 : oV} {x y : Int} {S : List oV} {σ : oSg} {Q : Option oV → (Nat → oC) → Prop} : oE d 88 112 [l0, l1, l2, l3, l4] (.inl y :: .inl x :: S) σ Q = oE d 88 113 [l0, l1, l2, l3, l4] (.inl (oOr x y) :: S) σ Q := oS3 f_88_112 rfl rfl rfl
theorem f_88_113 : oFet 88 113 = some (.putfield 37, 3) := by decide +kernel
theorem s_88_113 {d : Nat} {l0 l1 l2 l3 l4 : oV} {a : Nat} {v : Int} {S : List oV} {σ : oSg} {Q : Option oV → (Nat → oC) → Prop} (hk : oKd a = some 5) : oE d 88 113 [l0, l1, l2, l3, l4] (.inl v :: .inr (.inr (.inl a)) :: S) σ Q = oE d 88 116 [l0, l1, l2, l3, l4] S (oSF σ a 1 v) Q := pPfI f_88_113 ow_88 fl_5_37 rfl (by decide) rfl rfl hk
theorem f_88_116 : oFet 88 116 = some (.iinc 4 1, 3) := by decide +kernel
theorem s_88_116 {d : Nat} {l0 l1 l2 l3 : oV} {x : Int} {S : List oV} {σ : oSg} {Q : Option oV → (Nat → oC) → Prop} (c3 : oCat l3 = 1)  : oE d 88 116 [l0, l1, l2, l3, .inl x] S σ Q = oE d 88 119 [l0, l1, l2, l3, .inl (oAdd x (1))] S σ Q := pInc f_88_116 rfl (show (4 : Nat) < 5 by decide) (oC1n c3) (oC1n (v := .inl x) rfl) rfl
theorem f_88_119 : oFet 88 119 = some (.goto (-51), 3) := by decide +kernel
theorem s_88_119 {d : Nat} {l0 l1 l2 l3 l4 : oV} {S : List oV} {σ : oSg} {Q : Option oV → (Nat → oC) → Prop} : oE d 88 119 [l0, l1, l2, l3, l4] S σ Q = oE d 88 68 [l0, l1, l2, l3, l4] S σ Q := pGoto f_88_119 (by decide)
theorem f_88_122 : oFet 88 122 = some (.aload_n 0, 1) := by decide +kernel
theorem s_88_122 {d : Nat} {l1 l2 l3 l4 : oV} {a : Nat} {S : List oV} {σ : oSg} {Q : Option oV → (Nat → oC) → Prop} : oE d 88 122 [.inr (.inr (.inl a)), l1, l2, l3, l4] S σ Q = oE d 88 123 [.inr (.inr (.inl a)), l1, l2, l3, l4] (.inr (.inr (.inl a)) :: S) σ Q := pLdN (k := 0) f_88_122 rfl rfl rfl
theorem f_88_123 : oFet 88 123 = some (.iload_n 3, 1) := by decide +kernel
theorem s_88_123 {d : Nat} {l0 l1 l2 l4 : oV} {x : Int} {S : List oV} {σ : oSg} {Q : Option oV → (Nat → oC) → Prop} : oE d 88 123 [l0, l1, l2, .inl x, l4] S σ Q = oE d 88 124 [l0, l1, l2, .inl x, l4] (.inl x :: S) σ Q := pLdN (k := 3) f_88_123 rfl rfl rfl
theorem f_88_124 : oFet 88 124 = some (.aload_n 0, 1) := by decide +kernel
theorem s_88_124 {d : Nat} {l1 l2 l3 l4 : oV} {a : Nat} {S : List oV} {σ : oSg} {Q : Option oV → (Nat → oC) → Prop} : oE d 88 124 [.inr (.inr (.inl a)), l1, l2, l3, l4] S σ Q = oE d 88 125 [.inr (.inr (.inl a)), l1, l2, l3, l4] (.inr (.inr (.inl a)) :: S) σ Q := pLdN (k := 0) f_88_124 rfl rfl rfl
theorem f_88_125 : oFet 88 125 = some (.getfield 21, 3) := by decide +kernel
theorem s_88_125 {d : Nat} {l0 l1 l2 l3 l4 : oV} {a : Nat} {S : List oV} {σ : oSg} {Q : Option oV → (Nat → oC) → Prop} (hk : oKd a = some 5) : oE d 88 125 [l0, l1, l2, l3, l4] (.inr (.inr (.inl a)) :: S) σ Q = oE d 88 128 [l0, l1, l2, l3, l4] (.inl (σ.1 a 0) :: S) σ Q := pGfI f_88_125 ow_88 fl_5_21 rfl (by decide) hk
theorem f_88_128 : oFet 88 128 = some (.iconst (-1), 1) := by decide +kernel
theorem s_88_128 {d : Nat} {l0 l1 l2 l3 l4 : oV} {S : List oV} {σ : oSg} {Q : Option oV → (Nat → oC) → Prop} : oE d 88 128 [l0, l1, l2, l3, l4] S σ Q = oE d 88 129 [l0, l1, l2, l3, l4] (.inl (-1) :: S) σ Q := pKst f_88_128 (by decide)
theorem f_88_129 : oFet 88 129 = some (.ixor, 1) := by decide +kernel
theorem s_88_129 {d : Nat} {l0 l1 l2 l3 l4 : oV} {x y : Int} {S : List oV} {σ : oSg} {Q : Option oV → (Nat → oC) → Prop} : oE d 88 129 [l0, l1, l2, l3, l4] (.inl y :: .inl x :: S) σ Q = oE d 88 130 [l0, l1, l2, l3, l4] (.inl (oXor x y) :: S) σ Q := oS3 f_88_129 rfl rfl rfl
theorem f_88_130 : oFet 88 130 = some (.iand, 1) := by decide +kernel
theorem s_88_130 {d : Nat} {l0 l1 l2 l3 l4 : oV} {x y : Int} {S : List oV} {σ : oSg} {Q : Option oV → (Nat → oC) → Prop} : oE d 88 130 [l0, l1, l2, l3, l4] (.inl y :: .inl x :: S) σ Q = oE d 88 131 [l0, l1, l2, l3, l4] (.inl (oAnd x y) :: S) σ Q := oS3 f_88_130 rfl rfl rfl
theorem f_88_131 : oFet 88 131 = some (.aload_n 0, 1) := by decide +kernel
theorem s_88_131 {d : Nat} {l1 l2 l3 l4 : oV} {a : Nat} {S : List oV} {σ : oSg} {Q : Option oV → (Nat → oC) → Prop} : oE d 88 131 [.inr (.inr (.inl a)), l1, l2, l3, l4] S σ Q = oE d 88 132 [.inr (.inr (.inl a)), l1, l2, l3, l4] (.inr (.inr (.inl a)) :: S) σ Q := pLdN (k := 0) f_88_131 rfl rfl rfl
theorem f_88_132 : oFet 88 132 = some (.getfield 37, 3) := by decide +kernel
theorem s_88_132 {d : Nat} {l0 l1 l2 l3 l4 : oV} {a : Nat} {S : List oV} {σ : oSg} {Q : Option oV → (Nat → oC) → Prop} (hk : oKd a = some 5) : oE d 88 132 [l0, l1, l2, l3, l4] (.inr (.inr (.inl a)) :: S) σ Q = oE d 88 135 [l0, l1, l2, l3, l4] (.inl (σ.1 a 1) :: S) σ Q := pGfI f_88_132 ow_88 fl_5_37 rfl (by decide) hk
theorem f_88_135 : oFet 88 135 = some (.iconst (-1), 1) := by decide +kernel
theorem s_88_135 {d : Nat} {l0 l1 l2 l3 l4 : oV} {S : List oV} {σ : oSg} {Q : Option oV → (Nat → oC) → Prop} : oE d 88 135 [l0, l1, l2, l3, l4] S σ Q = oE d 88 136 [l0, l1, l2, l3, l4] (.inl (-1) :: S) σ Q := pKst f_88_135 (by decide)
theorem f_88_136 : oFet 88 136 = some (.ixor, 1) := by decide +kernel
theorem s_88_136 {d : Nat} {l0 l1 l2 l3 l4 : oV} {x y : Int} {S : List oV} {σ : oSg} {Q : Option oV → (Nat → oC) → Prop} : oE d 88 136 [l0, l1, l2, l3, l4] (.inl y :: .inl x :: S) σ Q = oE d 88 137 [l0, l1, l2, l3, l4] (.inl (oXor x y) :: S) σ Q := oS3 f_88_136 rfl rfl rfl
theorem f_88_137 : oFet 88 137 = some (.iand, 1) := by decide +kernel
theorem s_88_137 {d : Nat} {l0 l1 l2 l3 l4 : oV} {x y : Int} {S : List oV} {σ : oSg} {Q : Option oV → (Nat → oC) → Prop} : oE d 88 137 [l0, l1, l2, l3, l4] (.inl y :: .inl x :: S) σ Q = oE d 88 138 [l0, l1, l2, l3, l4] (.inl (oAnd x y) :: S) σ Q := oS3 f_88_137 rfl rfl rfl
theorem f_88_138 : oFet 88 138 = some (.putfield 49, 3) := by decide +kernel
theorem s_88_138 {d : Nat} {l0 l1 l2 l3 l4 : oV} {a : Nat} {v : Int} {S : List oV} {σ : oSg} {Q : Option oV → (Nat → oC) → Prop} (hk : oKd a = some 5) : oE d 88 138 [l0, l1, l2, l3, l4] (.inl v :: .inr (.inr (.inl a)) :: S) σ Q = oE d 88 141 [l0, l1, l2, l3, l4] S (oSF σ a 2 v) Q := pPfI f_88_138 ow_88 fl_5_49 rfl (by decide) rfl rfl hk
theorem f_88_141 : oFet 88 141 = some (.return_, 1) := by decide +kernel
theorem s_88_141 {d : Nat} {l0 l1 l2 l3 l4 : oV} {σ : oSg} {Q : Option oV → (Nat → oC) → Prop} : oE d 88 141 [l0, l1, l2, l3, l4] [] σ Q = Q none (oBld σ) := oVret f_88_141 rt_88
theorem ow_89 : (oMt 89).2.2.2.2.1 = 3 := by decide +kernel
theorem rt_89 : (oMt 89).2.2.2.1 = some .int := by decide +kernel
theorem nl_89 : (oMt 89).2.2.1 = 2 := by decide +kernel
theorem f_89_0 : oFet 89 0 = some (.aload_n 0, 1) := by decide +kernel
theorem s_89_0 {d : Nat} {l1 : oV} {a : Nat} {S : List oV} {σ : oSg} {Q : Option oV → (Nat → oC) → Prop} : oE d 89 0 [.inr (.inr (.inl a)), l1] S σ Q = oE d 89 1 [.inr (.inr (.inl a)), l1] (.inr (.inr (.inl a)) :: S) σ Q := pLdN (k := 0) f_89_0 rfl rfl rfl
theorem f_89_1 : oFet 89 1 = some (.iload_n 1, 1) := by decide +kernel
theorem s_89_1 {d : Nat} {l0 : oV} {x : Int} {S : List oV} {σ : oSg} {Q : Option oV → (Nat → oC) → Prop} : oE d 89 1 [l0, .inl x] S σ Q = oE d 89 2 [l0, .inl x] (.inl x :: S) σ Q := pLdN (k := 1) f_89_1 rfl rfl rfl
theorem f_89_2 : oFet 89 2 = some (.invokevirtual 47, 3) := by decide +kernel
theorem c_89_2 {d : Nat} {l0 l1 : oV} {x0 : oV} {a : Nat} {v : Option oV} {τ : oSg} {S : List oV} {σ : oSg} {Q : Option oV → (Nat → oC) → Prop} (hm : oMi d 36 [.inr (.inr (.inl a)), x0] σ v τ) (hk : oKd a = some 3) (hs : oSmall S = true) : oE d 89 2 [l0, l1] (x0 :: .inr (.inr (.inl a)) :: S) σ Q = oE d 89 5 [l0, l1] (v.toList ++ S) τ Q := pCallV f_89_2 ow_89 lk_3_47 mt_36 rfl rfl rfl hk hs hm
theorem f_89_5 : oFet 89 5 = some (.bipush 100, 2) := by decide +kernel
theorem s_89_5 {d : Nat} {l0 l1 : oV} {S : List oV} {σ : oSg} {Q : Option oV → (Nat → oC) → Prop} : oE d 89 5 [l0, l1] S σ Q = oE d 89 7 [l0, l1] (.inl (100) :: S) σ Q := pBip f_89_5 (by decide)
theorem f_89_7 : oFet 89 7 = some (.idiv, 1) := by decide +kernel
theorem s_89_7 {d : Nat} {l0 l1 : oV} {x y : Int} {S : List oV} {σ : oSg} {Q : Option oV → (Nat → oC) → Prop} (hy : y ≠ 0) : oE d 89 7 [l0, l1] (.inl y :: .inl x :: S) σ Q = oE d 89 8 [l0, l1] (.inl (oDiv x y) :: S) σ Q := pDiv f_89_7 hy
theorem f_89_8 : oFet 89 8 = some (.ireturn, 1) := by decide +kernel
theorem s_89_8 {d : Nat} {l0 l1 : oV} {x : Int} {σ : oSg} {Q : Option oV → (Nat → oC) → Prop} : oE d 89 8 [l0, l1] [.inl x] σ Q = Q (some (.inl x)) (oBld σ) := oIret f_89_8 rt_89
theorem ow_90 : (oMt 90).2.2.2.2.1 = 10 := by decide +kernel
theorem rt_90 : (oMt 90).2.2.2.1 = some .int := by decide +kernel
theorem nl_90 : (oMt 90).2.2.1 = 3 := by decide +kernel
theorem f_90_0 : oFet 90 0 = some (.aload_n 0, 1) := by decide +kernel
theorem s_90_0 {d : Nat} {l1 l2 : oV} {a : Nat} {S : List oV} {σ : oSg} {Q : Option oV → (Nat → oC) → Prop} : oE d 90 0 [.inr (.inr (.inl a)), l1, l2] S σ Q = oE d 90 1 [.inr (.inr (.inl a)), l1, l2] (.inr (.inr (.inl a)) :: S) σ Q := pLdN (k := 0) f_90_0 rfl rfl rfl
theorem f_90_1 : oFet 90 1 = some (.getfield 12, 3) := by decide +kernel
theorem s_90_1 {d : Nat} {l0 l1 l2 : oV} {a : Nat} {S : List oV} {σ : oSg} {Q : Option oV → (Nat → oC) → Prop} (hk : oKd a = some 10) : oE d 90 1 [l0, l1, l2] (.inr (.inr (.inl a)) :: S) σ Q = oE d 90 4 [l0, l1, l2] (.inr (.inr (.inl (oRf a 0))) :: S) σ Q := pGfR f_90_1 ow_90 fl_10_12 rfl (by decide) hk
theorem f_90_4 : oFet 90 4 = some (.getfield 73, 3) := by decide +kernel
theorem s_90_4 {d : Nat} {l0 l1 l2 : oV} {a : Nat} {S : List oV} {σ : oSg} {Q : Option oV → (Nat → oC) → Prop} (hk : oKd a = some 1) : oE d 90 4 [l0, l1, l2] (.inr (.inr (.inl a)) :: S) σ Q = oE d 90 7 [l0, l1, l2] (.inr (.inr (.inl (oRf a 0))) :: S) σ Q := pGfR f_90_4 ow_90 fl_10_73 rfl (by decide) hk
theorem f_90_7 : oFet 90 7 = some (.iload_n 1, 1) := by decide +kernel
theorem s_90_7 {d : Nat} {l0 l2 : oV} {x : Int} {S : List oV} {σ : oSg} {Q : Option oV → (Nat → oC) → Prop} : oE d 90 7 [l0, .inl x, l2] S σ Q = oE d 90 8 [l0, .inl x, l2] (.inl x :: S) σ Q := pLdN (k := 1) f_90_7 rfl rfl rfl
theorem f_90_8 : oFet 90 8 = some (.invokevirtual 115, 3) := by decide +kernel
theorem c_90_8 {d : Nat} {l0 l1 l2 : oV} {x0 : oV} {a : Nat} {v : Option oV} {τ : oSg} {S : List oV} {σ : oSg} {Q : Option oV → (Nat → oC) → Prop} (hm : oMi d 15 [.inr (.inr (.inl a)), x0] σ v τ) (hk : oKd a = some 4) (hs : oSmall S = true) : oE d 90 8 [l0, l1, l2] (x0 :: .inr (.inr (.inl a)) :: S) σ Q = oE d 90 11 [l0, l1, l2] (v.toList ++ S) τ Q := pCallV f_90_8 ow_90 lk_10_115 mt_15 rfl rfl rfl hk hs hm
theorem f_90_11 : oFet 90 11 = some (.ifCond .ne 5, 3) := by decide +kernel
theorem s_90_11 {d : Nat} {l0 l1 l2 : oV} {x : Int} {S : List oV} {σ : oSg} {Q : Option oV → (Nat → oC) → Prop} : oE d 90 11 [l0, l1, l2] (.inl x :: S) σ Q = if ¬ x = 0 then oE d 90 16 [l0, l1, l2] S σ Q else oE d 90 14 [l0, l1, l2] S σ Q := oIfNe f_90_11 (by decide)
theorem f_90_14 : oFet 90 14 = some (.iconst (-1), 1) := by decide +kernel
theorem s_90_14 {d : Nat} {l0 l1 l2 : oV} {S : List oV} {σ : oSg} {Q : Option oV → (Nat → oC) → Prop} : oE d 90 14 [l0, l1, l2] S σ Q = oE d 90 15 [l0, l1, l2] (.inl (-1) :: S) σ Q := pKst f_90_14 (by decide)
theorem f_90_15 : oFet 90 15 = some (.ireturn, 1) := by decide +kernel
theorem s_90_15 {d : Nat} {l0 l1 l2 : oV} {x : Int} {σ : oSg} {Q : Option oV → (Nat → oC) → Prop} : oE d 90 15 [l0, l1, l2] [.inl x] σ Q = Q (some (.inl x)) (oBld σ) := oIret f_90_15 rt_90
theorem f_90_16 : oFet 90 16 = some (.aload_n 0, 1) := by decide +kernel
theorem s_90_16 {d : Nat} {l1 l2 : oV} {a : Nat} {S : List oV} {σ : oSg} {Q : Option oV → (Nat → oC) → Prop} : oE d 90 16 [.inr (.inr (.inl a)), l1, l2] S σ Q = oE d 90 17 [.inr (.inr (.inl a)), l1, l2] (.inr (.inr (.inl a)) :: S) σ Q := pLdN (k := 0) f_90_16 rfl rfl rfl
theorem f_90_17 : oFet 90 17 = some (.getfield 12, 3) := by decide +kernel
theorem s_90_17 {d : Nat} {l0 l1 l2 : oV} {a : Nat} {S : List oV} {σ : oSg} {Q : Option oV → (Nat → oC) → Prop} (hk : oKd a = some 10) : oE d 90 17 [l0, l1, l2] (.inr (.inr (.inl a)) :: S) σ Q = oE d 90 20 [l0, l1, l2] (.inr (.inr (.inl (oRf a 0))) :: S) σ Q := pGfR f_90_17 ow_90 fl_10_12 rfl (by decide) hk
theorem f_90_20 : oFet 90 20 = some (.getfield 73, 3) := by decide +kernel
theorem s_90_20 {d : Nat} {l0 l1 l2 : oV} {a : Nat} {S : List oV} {σ : oSg} {Q : Option oV → (Nat → oC) → Prop} (hk : oKd a = some 1) : oE d 90 20 [l0, l1, l2] (.inr (.inr (.inl a)) :: S) σ Q = oE d 90 23 [l0, l1, l2] (.inr (.inr (.inl (oRf a 0))) :: S) σ Q := pGfR f_90_20 ow_90 fl_10_73 rfl (by decide) hk
theorem f_90_23 : oFet 90 23 = some (.invokevirtual 253, 3) := by decide +kernel
theorem c_90_23 {d : Nat} {l0 l1 l2 : oV} {a : Nat} {v : Option oV} {τ : oSg} {S : List oV} {σ : oSg} {Q : Option oV → (Nat → oC) → Prop} (hm : oMi d 26 [.inr (.inr (.inl a))] σ v τ) (hk : oKd a = some 4) (hs : oSmall S = true) : oE d 90 23 [l0, l1, l2] (.inr (.inr (.inl a)) :: S) σ Q = oE d 90 26 [l0, l1, l2] (v.toList ++ S) τ Q := pCallV f_90_23 ow_90 lk_10_253 mt_26 rfl rfl rfl hk hs hm
theorem f_90_26 : oFet 90 26 = some (.istore_n 2, 1) := by decide +kernel
theorem s_90_26 {d : Nat} {l0 l1 l2 : oV} {x : Int} {S : List oV} {σ : oSg} {Q : Option oV → (Nat → oC) → Prop} (c2 : oCat l2 = 1) (c1 : oCat l1 = 1)  : oE d 90 26 [l0, l1, l2] (.inl x :: S) σ Q = oE d 90 27 [l0, l1, .inl x] S σ Q := pSt (i := 2) f_90_26 rfl rfl (show (2 : Nat) < 3 by decide) (oC1n c1) (oC1n c2) rfl
theorem f_90_27 : oFet 90 27 = some (.aload_n 0, 1) := by decide +kernel
theorem s_90_27 {d : Nat} {l1 l2 : oV} {a : Nat} {S : List oV} {σ : oSg} {Q : Option oV → (Nat → oC) → Prop} : oE d 90 27 [.inr (.inr (.inl a)), l1, l2] S σ Q = oE d 90 28 [.inr (.inr (.inl a)), l1, l2] (.inr (.inr (.inl a)) :: S) σ Q := pLdN (k := 0) f_90_27 rfl rfl rfl
theorem f_90_28 : oFet 90 28 = some (.getfield 45, 3) := by decide +kernel
theorem s_90_28 {d : Nat} {l0 l1 l2 : oV} {a : Nat} {S : List oV} {σ : oSg} {Q : Option oV → (Nat → oC) → Prop} (hk : oKd a = some 10) : oE d 90 28 [l0, l1, l2] (.inr (.inr (.inl a)) :: S) σ Q = oE d 90 31 [l0, l1, l2] (.inr (.inr (.inl (oRf a 6))) :: S) σ Q := pGfR f_90_28 ow_90 fl_10_45 rfl (by decide) hk
theorem f_90_31 : oFet 90 31 = some (.aload_n 0, 1) := by decide +kernel
theorem s_90_31 {d : Nat} {l1 l2 : oV} {a : Nat} {S : List oV} {σ : oSg} {Q : Option oV → (Nat → oC) → Prop} : oE d 90 31 [.inr (.inr (.inl a)), l1, l2] S σ Q = oE d 90 32 [.inr (.inr (.inl a)), l1, l2] (.inr (.inr (.inl a)) :: S) σ Q := pLdN (k := 0) f_90_31 rfl rfl rfl
theorem f_90_32 : oFet 90 32 = some (.getfield 12, 3) := by decide +kernel
theorem s_90_32 {d : Nat} {l0 l1 l2 : oV} {a : Nat} {S : List oV} {σ : oSg} {Q : Option oV → (Nat → oC) → Prop} (hk : oKd a = some 10) : oE d 90 32 [l0, l1, l2] (.inr (.inr (.inl a)) :: S) σ Q = oE d 90 35 [l0, l1, l2] (.inr (.inr (.inl (oRf a 0))) :: S) σ Q := pGfR f_90_32 ow_90 fl_10_12 rfl (by decide) hk
theorem f_90_35 : oFet 90 35 = some (.getfield 73, 3) := by decide +kernel
theorem s_90_35 {d : Nat} {l0 l1 l2 : oV} {a : Nat} {S : List oV} {σ : oSg} {Q : Option oV → (Nat → oC) → Prop} (hk : oKd a = some 1) : oE d 90 35 [l0, l1, l2] (.inr (.inr (.inl a)) :: S) σ Q = oE d 90 38 [l0, l1, l2] (.inr (.inr (.inl (oRf a 0))) :: S) σ Q := pGfR f_90_35 ow_90 fl_10_73 rfl (by decide) hk
theorem f_90_38 : oFet 90 38 = some (.iconst 0, 1) := by decide +kernel
theorem s_90_38 {d : Nat} {l0 l1 l2 : oV} {S : List oV} {σ : oSg} {Q : Option oV → (Nat → oC) → Prop} : oE d 90 38 [l0, l1, l2] S σ Q = oE d 90 39 [l0, l1, l2] (.inl (0) :: S) σ Q := pKst f_90_38 (by decide)
theorem f_90_39 : oFet 90 39 = some (.invokevirtual 124, 3) := by decide +kernel
theorem c_90_39 {d : Nat} {l0 l1 l2 : oV} {x0 x1 : oV} {a : Nat} {v : Option oV} {τ : oSg} {S : List oV} {σ : oSg} {Q : Option oV → (Nat → oC) → Prop} (hm : oMi d 33 [.inr (.inr (.inl a)), x0, x1] σ v τ) (hk : oKd a = some 3) (hs : oSmall S = true) : oE d 90 39 [l0, l1, l2] (x1 :: x0 :: .inr (.inr (.inl a)) :: S) σ Q = oE d 90 42 [l0, l1, l2] (v.toList ++ S) τ Q := pCallV f_90_39 ow_90 lk_10_124 mt_33 rfl rfl rfl hk hs hm
theorem f_90_42 : oFet 90 42 = some (.aload_n 0, 1) := by decide +kernel
theorem s_90_42 {d : Nat} {l1 l2 : oV} {a : Nat} {S : List oV} {σ : oSg} {Q : Option oV → (Nat → oC) → Prop} : oE d 90 42 [.inr (.inr (.inl a)), l1, l2] S σ Q = oE d 90 43 [.inr (.inr (.inl a)), l1, l2] (.inr (.inr (.inl a)) :: S) σ Q := pLdN (k := 0) f_90_42 rfl rfl rfl
theorem f_90_43 : oFet 90 43 = some (.getfield 45, 3) := by decide +kernel
theorem s_90_43 {d : Nat} {l0 l1 l2 : oV} {a : Nat} {S : List oV} {σ : oSg} {Q : Option oV → (Nat → oC) → Prop} (hk : oKd a = some 10) : oE d 90 43 [l0, l1, l2] (.inr (.inr (.inl a)) :: S) σ Q = oE d 90 46 [l0, l1, l2] (.inr (.inr (.inl (oRf a 6))) :: S) σ Q := pGfR f_90_43 ow_90 fl_10_45 rfl (by decide) hk
theorem f_90_46 : oFet 90 46 = some (.iload_n 2, 1) := by decide +kernel
theorem s_90_46 {d : Nat} {l0 l1 : oV} {x : Int} {S : List oV} {σ : oSg} {Q : Option oV → (Nat → oC) → Prop} : oE d 90 46 [l0, l1, .inl x] S σ Q = oE d 90 47 [l0, l1, .inl x] (.inl x :: S) σ Q := pLdN (k := 2) f_90_46 rfl rfl rfl
theorem f_90_47 : oFet 90 47 = some (.invokevirtual 256, 3) := by decide +kernel
theorem c_90_47 {d : Nat} {l0 l1 l2 : oV} {x0 : oV} {a : Nat} {v : Option oV} {τ : oSg} {S : List oV} {σ : oSg} {Q : Option oV → (Nat → oC) → Prop} (hm : oMi d 36 [.inr (.inr (.inl a)), x0] σ v τ) (hk : oKd a = some 3) (hs : oSmall S = true) : oE d 90 47 [l0, l1, l2] (x0 :: .inr (.inr (.inl a)) :: S) σ Q = oE d 90 50 [l0, l1, l2] (v.toList ++ S) τ Q := pCallV f_90_47 ow_90 lk_10_256 mt_36 rfl rfl rfl hk hs hm
theorem f_90_50 : oFet 90 50 = some (.aload_n 0, 1) := by decide +kernel
theorem s_90_50 {d : Nat} {l1 l2 : oV} {a : Nat} {S : List oV} {σ : oSg} {Q : Option oV → (Nat → oC) → Prop} : oE d 90 50 [.inr (.inr (.inl a)), l1, l2] S σ Q = oE d 90 51 [.inr (.inr (.inl a)), l1, l2] (.inr (.inr (.inl a)) :: S) σ Q := pLdN (k := 0) f_90_50 rfl rfl rfl
theorem f_90_51 : oFet 90 51 = some (.getfield 45, 3) := by decide +kernel
theorem s_90_51 {d : Nat} {l0 l1 l2 : oV} {a : Nat} {S : List oV} {σ : oSg} {Q : Option oV → (Nat → oC) → Prop} (hk : oKd a = some 10) : oE d 90 51 [l0, l1, l2] (.inr (.inr (.inl a)) :: S) σ Q = oE d 90 54 [l0, l1, l2] (.inr (.inr (.inl (oRf a 6))) :: S) σ Q := pGfR f_90_51 ow_90 fl_10_45 rfl (by decide) hk
theorem f_90_54 : oFet 90 54 = some (.iload_n 2, 1) := by decide +kernel
theorem s_90_54 {d : Nat} {l0 l1 : oV} {x : Int} {S : List oV} {σ : oSg} {Q : Option oV → (Nat → oC) → Prop} : oE d 90 54 [l0, l1, .inl x] S σ Q = oE d 90 55 [l0, l1, .inl x] (.inl x :: S) σ Q := pLdN (k := 2) f_90_54 rfl rfl rfl
theorem f_90_55 : oFet 90 55 = some (.iconst 1, 1) := by decide +kernel
theorem s_90_55 {d : Nat} {l0 l1 l2 : oV} {S : List oV} {σ : oSg} {Q : Option oV → (Nat → oC) → Prop} : oE d 90 55 [l0, l1, l2] S σ Q = oE d 90 56 [l0, l1, l2] (.inl (1) :: S) σ Q := pKst f_90_55 (by decide)
theorem f_90_56 : oFet 90 56 = some (.iload_n 1, 1) := by decide +kernel
theorem s_90_56 {d : Nat} {l0 l2 : oV} {x : Int} {S : List oV} {σ : oSg} {Q : Option oV → (Nat → oC) → Prop} : oE d 90 56 [l0, .inl x, l2] S σ Q = oE d 90 57 [l0, .inl x, l2] (.inl x :: S) σ Q := pLdN (k := 1) f_90_56 rfl rfl rfl
theorem f_90_57 : oFet 90 57 = some (.ishl, 1) := by decide +kernel
theorem s_90_57 {d : Nat} {l0 l1 l2 : oV} {x y : Int} {S : List oV} {σ : oSg} {Q : Option oV → (Nat → oC) → Prop} : oE d 90 57 [l0, l1, l2] (.inl y :: .inl x :: S) σ Q = oE d 90 58 [l0, l1, l2] (.inl (oShl x y) :: S) σ Q := oS3 f_90_57 rfl rfl rfl
theorem f_90_58 : oFet 90 58 = some (.iconst (-1), 1) := by decide +kernel
theorem s_90_58 {d : Nat} {l0 l1 l2 : oV} {S : List oV} {σ : oSg} {Q : Option oV → (Nat → oC) → Prop} : oE d 90 58 [l0, l1, l2] S σ Q = oE d 90 59 [l0, l1, l2] (.inl (-1) :: S) σ Q := pKst f_90_58 (by decide)
theorem f_90_59 : oFet 90 59 = some (.ixor, 1) := by decide +kernel
theorem s_90_59 {d : Nat} {l0 l1 l2 : oV} {x y : Int} {S : List oV} {σ : oSg} {Q : Option oV → (Nat → oC) → Prop} : oE d 90 59 [l0, l1, l2] (.inl y :: .inl x :: S) σ Q = oE d 90 60 [l0, l1, l2] (.inl (oXor x y) :: S) σ Q := oS3 f_90_59 rfl rfl rfl
theorem f_90_60 : oFet 90 60 = some (.iand, 1) := by decide +kernel
theorem s_90_60 {d : Nat} {l0 l1 l2 : oV} {x y : Int} {S : List oV} {σ : oSg} {Q : Option oV → (Nat → oC) → Prop} : oE d 90 60 [l0, l1, l2] (.inl y :: .inl x :: S) σ Q = oE d 90 61 [l0, l1, l2] (.inl (oAnd x y) :: S) σ Q := oS3 f_90_60 rfl rfl rfl
theorem f_90_61 : oFet 90 61 = some (.invokevirtual 256, 3) := by decide +kernel
theorem c_90_61 {d : Nat} {l0 l1 l2 : oV} {x0 : oV} {a : Nat} {v : Option oV} {τ : oSg} {S : List oV} {σ : oSg} {Q : Option oV → (Nat → oC) → Prop} (hm : oMi d 36 [.inr (.inr (.inl a)), x0] σ v τ) (hk : oKd a = some 3) (hs : oSmall S = true) : oE d 90 61 [l0, l1, l2] (x0 :: .inr (.inr (.inl a)) :: S) σ Q = oE d 90 64 [l0, l1, l2] (v.toList ++ S) τ Q := pCallV f_90_61 ow_90 lk_10_256 mt_36 rfl rfl rfl hk hs hm
theorem f_90_64 : oFet 90 64 = some (.isub, 1) := by decide +kernel
theorem s_90_64 {d : Nat} {l0 l1 l2 : oV} {x y : Int} {S : List oV} {σ : oSg} {Q : Option oV → (Nat → oC) → Prop} : oE d 90 64 [l0, l1, l2] (.inl y :: .inl x :: S) σ Q = oE d 90 65 [l0, l1, l2] (.inl (oSub x y) :: S) σ Q := oS3 f_90_64 rfl rfl rfl
theorem f_90_65 : oFet 90 65 = some (.ireturn, 1) := by decide +kernel
theorem s_90_65 {d : Nat} {l0 l1 l2 : oV} {x : Int} {σ : oSg} {Q : Option oV → (Nat → oC) → Prop} : oE d 90 65 [l0, l1, l2] [.inl x] σ Q = Q (some (.inl x)) (oBld σ) := oIret f_90_65 rt_90
theorem ow_91 : (oMt 91).2.2.2.2.1 = 10 := by decide +kernel
theorem rt_91 : (oMt 91).2.2.2.1 = some .int := by decide +kernel
theorem nl_91 : (oMt 91).2.2.1 = 3 := by decide +kernel
theorem f_91_0 : oFet 91 0 = some (.iload_n 1, 1) := by decide +kernel
theorem s_91_0 {d : Nat} {l0 l2 : oV} {x : Int} {S : List oV} {σ : oSg} {Q : Option oV → (Nat → oC) → Prop} : oE d 91 0 [l0, .inl x, l2] S σ Q = oE d 91 1 [l0, .inl x, l2] (.inl x :: S) σ Q := pLdN (k := 1) f_91_0 rfl rfl rfl
theorem f_91_1 : oFet 91 1 = some (.iconst (-1), 1) := by decide +kernel
theorem s_91_1 {d : Nat} {l0 l1 l2 : oV} {S : List oV} {σ : oSg} {Q : Option oV → (Nat → oC) → Prop} : oE d 91 1 [l0, l1, l2] S σ Q = oE d 91 2 [l0, l1, l2] (.inl (-1) :: S) σ Q := pKst f_91_1 (by decide)
theorem f_91_2 : oFet 91 2 = some (.if_icmp .ne 14, 3) := by decide +kernel
theorem s_91_2 {d : Nat} {l0 l1 l2 : oV} {x y : Int} {S : List oV} {σ : oSg} {Q : Option oV → (Nat → oC) → Prop} : oE d 91 2 [l0, l1, l2] (.inl y :: .inl x :: S) σ Q = if ¬ x = y then oE d 91 16 [l0, l1, l2] S σ Q else oE d 91 5 [l0, l1, l2] S σ Q := oCmpNe f_91_2 (by decide)
theorem f_91_5 : oFet 91 5 = some (.aload_n 0, 1) := by decide +kernel
theorem s_91_5 {d : Nat} {l1 l2 : oV} {a : Nat} {S : List oV} {σ : oSg} {Q : Option oV → (Nat → oC) → Prop} : oE d 91 5 [.inr (.inr (.inl a)), l1, l2] S σ Q = oE d 91 6 [.inr (.inr (.inl a)), l1, l2] (.inr (.inr (.inl a)) :: S) σ Q := pLdN (k := 0) f_91_5 rfl rfl rfl
theorem f_91_6 : oFet 91 6 = some (.getfield 12, 3) := by decide +kernel
theorem s_91_6 {d : Nat} {l0 l1 l2 : oV} {a : Nat} {S : List oV} {σ : oSg} {Q : Option oV → (Nat → oC) → Prop} (hk : oKd a = some 10) : oE d 91 6 [l0, l1, l2] (.inr (.inr (.inl a)) :: S) σ Q = oE d 91 9 [l0, l1, l2] (.inr (.inr (.inl (oRf a 0))) :: S) σ Q := pGfR f_91_6 ow_91 fl_10_12 rfl (by decide) hk
theorem f_91_9 : oFet 91 9 = some (.getfield 265, 3) := by decide +kernel
theorem s_91_9 {d : Nat} {l0 l1 l2 : oV} {a : Nat} {S : List oV} {σ : oSg} {Q : Option oV → (Nat → oC) → Prop} (hk : oKd a = some 1) : oE d 91 9 [l0, l1, l2] (.inr (.inr (.inl a)) :: S) σ Q = oE d 91 12 [l0, l1, l2] (.inr (.inr (.inl (oRf a 3))) :: S) σ Q := pGfR f_91_9 ow_91 fl_10_265 rfl (by decide) hk
theorem f_91_12 : oFet 91 12 = some (.invokevirtual 269, 3) := by decide +kernel
theorem c_91_12 {d : Nat} {l0 l1 l2 : oV} {a : Nat} {v : Option oV} {τ : oSg} {S : List oV} {σ : oSg} {Q : Option oV → (Nat → oC) → Prop} (hm : oMi d 92 [.inr (.inr (.inl a))] σ v τ) (hk : oKd a = some 7) (hs : oSmall S = true) : oE d 91 12 [l0, l1, l2] (.inr (.inr (.inl a)) :: S) σ Q = oE d 91 15 [l0, l1, l2] (v.toList ++ S) τ Q := pCallV f_91_12 ow_91 lk_10_269 mt_92 rfl rfl rfl hk hs hm
theorem f_91_15 : oFet 91 15 = some (.ireturn, 1) := by decide +kernel
theorem s_91_15 {d : Nat} {l0 l1 l2 : oV} {x : Int} {σ : oSg} {Q : Option oV → (Nat → oC) → Prop} : oE d 91 15 [l0, l1, l2] [.inl x] σ Q = Q (some (.inl x)) (oBld σ) := oIret f_91_15 rt_91
theorem f_91_16 : oFet 91 16 = some (.aload_n 0, 1) := by decide +kernel
theorem s_91_16 {d : Nat} {l1 l2 : oV} {a : Nat} {S : List oV} {σ : oSg} {Q : Option oV → (Nat → oC) → Prop} : oE d 91 16 [.inr (.inr (.inl a)), l1, l2] S σ Q = oE d 91 17 [.inr (.inr (.inl a)), l1, l2] (.inr (.inr (.inl a)) :: S) σ Q := pLdN (k := 0) f_91_16 rfl rfl rfl
theorem f_91_17 : oFet 91 17 = some (.getfield 12, 3) := by decide +kernel
theorem s_91_17 {d : Nat} {l0 l1 l2 : oV} {a : Nat} {S : List oV} {σ : oSg} {Q : Option oV → (Nat → oC) → Prop} (hk : oKd a = some 10) : oE d 91 17 [l0, l1, l2] (.inr (.inr (.inl a)) :: S) σ Q = oE d 91 20 [l0, l1, l2] (.inr (.inr (.inl (oRf a 0))) :: S) σ Q := pGfR f_91_17 ow_91 fl_10_12 rfl (by decide) hk
theorem f_91_20 : oFet 91 20 = some (.getfield 73, 3) := by decide +kernel
theorem s_91_20 {d : Nat} {l0 l1 l2 : oV} {a : Nat} {S : List oV} {σ : oSg} {Q : Option oV → (Nat → oC) → Prop} (hk : oKd a = some 1) : oE d 91 20 [l0, l1, l2] (.inr (.inr (.inl a)) :: S) σ Q = oE d 91 23 [l0, l1, l2] (.inr (.inr (.inl (oRf a 0))) :: S) σ Q := pGfR f_91_20 ow_91 fl_10_73 rfl (by decide) hk
theorem f_91_23 : oFet 91 23 = some (.iload_n 1, 1) := by decide +kernel
theorem s_91_23 {d : Nat} {l0 l2 : oV} {x : Int} {S : List oV} {σ : oSg} {Q : Option oV → (Nat → oC) → Prop} : oE d 91 23 [l0, .inl x, l2] S σ Q = oE d 91 24 [l0, .inl x, l2] (.inl x :: S) σ Q := pLdN (k := 1) f_91_23 rfl rfl rfl
theorem f_91_24 : oFet 91 24 = some (.invokevirtual 274, 3) := by decide +kernel
theorem c_91_24 {d : Nat} {l0 l1 l2 : oV} {x0 : oV} {a : Nat} {v : Option oV} {τ : oSg} {S : List oV} {σ : oSg} {Q : Option oV → (Nat → oC) → Prop} (hm : oMi d 93 [.inr (.inr (.inl a)), x0] σ v τ) (hk : oKd a = some 4) (hs : oSmall S = true) : oE d 91 24 [l0, l1, l2] (x0 :: .inr (.inr (.inl a)) :: S) σ Q = oE d 91 27 [l0, l1, l2] (v.toList ++ S) τ Q := pCallV f_91_24 ow_91 lk_10_274 mt_93 rfl rfl rfl hk hs hm
theorem f_91_27 : oFet 91 27 = some (.ifCond .eq 14, 3) := by decide +kernel
theorem s_91_27 {d : Nat} {l0 l1 l2 : oV} {x : Int} {S : List oV} {σ : oSg} {Q : Option oV → (Nat → oC) → Prop} : oE d 91 27 [l0, l1, l2] (.inl x :: S) σ Q = if x = 0 then oE d 91 41 [l0, l1, l2] S σ Q else oE d 91 30 [l0, l1, l2] S σ Q := oIfEq f_91_27 (by decide)
theorem f_91_30 : oFet 91 30 = some (.iload_n 2, 1) := by decide +kernel
theorem s_91_30 {d : Nat} {l0 l1 : oV} {x : Int} {S : List oV} {σ : oSg} {Q : Option oV → (Nat → oC) → Prop} : oE d 91 30 [l0, l1, .inl x] S σ Q = oE d 91 31 [l0, l1, .inl x] (.inl x :: S) σ Q := pLdN (k := 2) f_91_30 rfl rfl rfl
theorem f_91_31 : oFet 91 31 = some (.iconst 1, 1) := by decide +kernel
theorem s_91_31 {d : Nat} {l0 l1 l2 : oV} {S : List oV} {σ : oSg} {Q : Option oV → (Nat → oC) → Prop} : oE d 91 31 [l0, l1, l2] S σ Q = oE d 91 32 [l0, l1, l2] (.inl (1) :: S) σ Q := pKst f_91_31 (by decide)
theorem f_91_32 : oFet 91 32 = some (.if_icmp .lt 9, 3) := by decide +kernel
theorem s_91_32 {d : Nat} {l0 l1 l2 : oV} {x y : Int} {S : List oV} {σ : oSg} {Q : Option oV → (Nat → oC) → Prop} : oE d 91 32 [l0, l1, l2] (.inl y :: .inl x :: S) σ Q = if x < y then oE d 91 41 [l0, l1, l2] S σ Q else oE d 91 35 [l0, l1, l2] S σ Q := oCmpLt f_91_32 (by decide)
theorem f_91_35 : oFet 91 35 = some (.iload_n 2, 1) := by decide +kernel
theorem s_91_35 {d : Nat} {l0 l1 : oV} {x : Int} {S : List oV} {σ : oSg} {Q : Option oV → (Nat → oC) → Prop} : oE d 91 35 [l0, l1, .inl x] S σ Q = oE d 91 36 [l0, l1, .inl x] (.inl x :: S) σ Q := pLdN (k := 2) f_91_35 rfl rfl rfl
theorem f_91_36 : oFet 91 36 = some (.bipush 40, 2) := by decide +kernel
theorem s_91_36 {d : Nat} {l0 l1 l2 : oV} {S : List oV} {σ : oSg} {Q : Option oV → (Nat → oC) → Prop} : oE d 91 36 [l0, l1, l2] S σ Q = oE d 91 38 [l0, l1, l2] (.inl (40) :: S) σ Q := pBip f_91_36 (by decide)
theorem f_91_38 : oFet 91 38 = some (.if_icmp .le 6, 3) := by decide +kernel
theorem s_91_38 {d : Nat} {l0 l1 l2 : oV} {x y : Int} {S : List oV} {σ : oSg} {Q : Option oV → (Nat → oC) → Prop} : oE d 91 38 [l0, l1, l2] (.inl y :: .inl x :: S) σ Q = if x ≤ y then oE d 91 44 [l0, l1, l2] S σ Q else oE d 91 41 [l0, l1, l2] S σ Q := oCmpLe f_91_38 (by decide)
theorem f_91_41 : oFet 91 41 = some (.bipush (-2), 2) := by decide +kernel
theorem s_91_41 {d : Nat} {l0 l1 l2 : oV} {S : List oV} {σ : oSg} {Q : Option oV → (Nat → oC) → Prop} : oE d 91 41 [l0, l1, l2] S σ Q = oE d 91 43 [l0, l1, l2] (.inl (-2) :: S) σ Q := pBip f_91_41 (by decide)
theorem f_91_43 : oFet 91 43 = some (.ireturn, 1) := by decide +kernel
theorem s_91_43 {d : Nat} {l0 l1 l2 : oV} {x : Int} {σ : oSg} {Q : Option oV → (Nat → oC) → Prop} : oE d 91 43 [l0, l1, l2] [.inl x] σ Q = Q (some (.inl x)) (oBld σ) := oIret f_91_43 rt_91
theorem f_91_44 : oFet 91 44 = some (.aload_n 0, 1) := by decide +kernel
theorem s_91_44 {d : Nat} {l1 l2 : oV} {a : Nat} {S : List oV} {σ : oSg} {Q : Option oV → (Nat → oC) → Prop} : oE d 91 44 [.inr (.inr (.inl a)), l1, l2] S σ Q = oE d 91 45 [.inr (.inr (.inl a)), l1, l2] (.inr (.inr (.inl a)) :: S) σ Q := pLdN (k := 0) f_91_44 rfl rfl rfl
theorem f_91_45 : oFet 91 45 = some (.getfield 12, 3) := by decide +kernel
theorem s_91_45 {d : Nat} {l0 l1 l2 : oV} {a : Nat} {S : List oV} {σ : oSg} {Q : Option oV → (Nat → oC) → Prop} (hk : oKd a = some 10) : oE d 91 45 [l0, l1, l2] (.inr (.inr (.inl a)) :: S) σ Q = oE d 91 48 [l0, l1, l2] (.inr (.inr (.inl (oRf a 0))) :: S) σ Q := pGfR f_91_45 ow_91 fl_10_12 rfl (by decide) hk
theorem f_91_48 : oFet 91 48 = some (.getfield 265, 3) := by decide +kernel
theorem s_91_48 {d : Nat} {l0 l1 l2 : oV} {a : Nat} {S : List oV} {σ : oSg} {Q : Option oV → (Nat → oC) → Prop} (hk : oKd a = some 1) : oE d 91 48 [l0, l1, l2] (.inr (.inr (.inl a)) :: S) σ Q = oE d 91 51 [l0, l1, l2] (.inr (.inr (.inl (oRf a 3))) :: S) σ Q := pGfR f_91_48 ow_91 fl_10_265 rfl (by decide) hk
theorem f_91_51 : oFet 91 51 = some (.iload_n 1, 1) := by decide +kernel
theorem s_91_51 {d : Nat} {l0 l2 : oV} {x : Int} {S : List oV} {σ : oSg} {Q : Option oV → (Nat → oC) → Prop} : oE d 91 51 [l0, .inl x, l2] S σ Q = oE d 91 52 [l0, .inl x, l2] (.inl x :: S) σ Q := pLdN (k := 1) f_91_51 rfl rfl rfl
theorem f_91_52 : oFet 91 52 = some (.iload_n 2, 1) := by decide +kernel
theorem s_91_52 {d : Nat} {l0 l1 : oV} {x : Int} {S : List oV} {σ : oSg} {Q : Option oV → (Nat → oC) → Prop} : oE d 91 52 [l0, l1, .inl x] S σ Q = oE d 91 53 [l0, l1, .inl x] (.inl x :: S) σ Q := pLdN (k := 2) f_91_52 rfl rfl rfl
theorem f_91_53 : oFet 91 53 = some (.invokevirtual 277, 3) := by decide +kernel
theorem c_91_53 {d : Nat} {l0 l1 l2 : oV} {x0 x1 : oV} {a : Nat} {v : Option oV} {τ : oSg} {S : List oV} {σ : oSg} {Q : Option oV → (Nat → oC) → Prop} (hm : oMi d 94 [.inr (.inr (.inl a)), x0, x1] σ v τ) (hk : oKd a = some 7) (hs : oSmall S = true) : oE d 91 53 [l0, l1, l2] (x1 :: x0 :: .inr (.inr (.inl a)) :: S) σ Q = oE d 91 56 [l0, l1, l2] (v.toList ++ S) τ Q := pCallV f_91_53 ow_91 lk_10_277 mt_94 rfl rfl rfl hk hs hm
theorem f_91_56 : oFet 91 56 = some (.ireturn, 1) := by decide +kernel
theorem s_91_56 {d : Nat} {l0 l1 l2 : oV} {x : Int} {σ : oSg} {Q : Option oV → (Nat → oC) → Prop} : oE d 91 56 [l0, l1, l2] [.inl x] σ Q = Q (some (.inl x)) (oBld σ) := oIret f_91_56 rt_91
theorem ow_92 : (oMt 92).2.2.2.2.1 = 7 := by decide +kernel
theorem rt_92 : (oMt 92).2.2.2.1 = some .int := by decide +kernel
theorem nl_92 : (oMt 92).2.2.1 = 1 := by decide +kernel
theorem f_92_0 : oFet 92 0 = some (.aload_n 0, 1) := by decide +kernel
theorem s_92_0 {d : Nat} {a : Nat} {S : List oV} {σ : oSg} {Q : Option oV → (Nat → oC) → Prop} : oE d 92 0 [.inr (.inr (.inl a))] S σ Q = oE d 92 1 [.inr (.inr (.inl a))] (.inr (.inr (.inl a)) :: S) σ Q := pLdN (k := 0) f_92_0 rfl rfl rfl
theorem f_92_1 : oFet 92 1 = some (.iconst 0, 1) := by decide +kernel
theorem s_92_1 {d : Nat} {l0 : oV} {S : List oV} {σ : oSg} {Q : Option oV → (Nat → oC) → Prop} : oE d 92 1 [l0] S σ Q = oE d 92 2 [l0] (.inl (0) :: S) σ Q := pKst f_92_1 (by decide)
theorem f_92_2 : oFet 92 2 = some (.putfield 24, 3) := by decide +kernel
theorem s_92_2 {d : Nat} {l0 : oV} {a : Nat} {v : Int} {S : List oV} {σ : oSg} {Q : Option oV → (Nat → oC) → Prop} (hk : oKd a = some 7) : oE d 92 2 [l0] (.inl v :: .inr (.inr (.inl a)) :: S) σ Q = oE d 92 5 [l0] S (oSF σ a 0 v) Q := pPfI f_92_2 ow_92 fl_7_24 rfl (by decide) rfl rfl hk
theorem f_92_5 : oFet 92 5 = some (.iconst 0, 1) := by decide +kernel
theorem s_92_5 {d : Nat} {l0 : oV} {S : List oV} {σ : oSg} {Q : Option oV → (Nat → oC) → Prop} : oE d 92 5 [l0] S σ Q = oE d 92 6 [l0] (.inl (0) :: S) σ Q := pKst f_92_5 (by decide)
theorem f_92_6 : oFet 92 6 = some (.ireturn, 1) := by decide +kernel
theorem s_92_6 {d : Nat} {l0 : oV} {x : Int} {σ : oSg} {Q : Option oV → (Nat → oC) → Prop} : oE d 92 6 [l0] [.inl x] σ Q = Q (some (.inl x)) (oBld σ) := oIret f_92_6 rt_92
theorem ow_93 : (oMt 93).2.2.2.2.1 = 4 := by decide +kernel
theorem rt_93 : (oMt 93).2.2.2.1 = some .boolean := by decide +kernel
theorem nl_93 : (oMt 93).2.2.1 = 3 := by decide +kernel
theorem f_93_0 : oFet 93 0 = some (.iload_n 1, 1) := by decide +kernel
theorem s_93_0 {d : Nat} {l0 l2 : oV} {x : Int} {S : List oV} {σ : oSg} {Q : Option oV → (Nat → oC) → Prop} : oE d 93 0 [l0, .inl x, l2] S σ Q = oE d 93 1 [l0, .inl x, l2] (.inl x :: S) σ Q := pLdN (k := 1) f_93_0 rfl rfl rfl
theorem f_93_1 : oFet 93 1 = some (.invokestatic 31, 3) := by decide +kernel
theorem c_93_1 {d : Nat} {l0 l1 l2 : oV} {x0 : oV} {v : Option oV} {τ : oSg} {S : List oV} {σ : oSg} {Q : Option oV → (Nat → oC) → Prop} (hm : oMi d 35 [x0] σ v τ) (hs : oSmall S = true) : oE d 93 1 [l0, l1, l2] (x0 :: S) σ Q = oE d 93 4 [l0, l1, l2] (v.toList ++ S) τ Q := pCallS f_93_1 ow_93 lk_4_31 mt_35 rfl rfl rfl hs hm
theorem f_93_4 : oFet 93 4 = some (.istore_n 2, 1) := by decide +kernel
theorem s_93_4 {d : Nat} {l0 l1 l2 : oV} {x : Int} {S : List oV} {σ : oSg} {Q : Option oV → (Nat → oC) → Prop} (c2 : oCat l2 = 1) (c1 : oCat l1 = 1)  : oE d 93 4 [l0, l1, l2] (.inl x :: S) σ Q = oE d 93 5 [l0, l1, .inl x] S σ Q := pSt (i := 2) f_93_4 rfl rfl (show (2 : Nat) < 3 by decide) (oC1n c1) (oC1n c2) rfl
theorem f_93_5 : oFet 93 5 = some (.iload_n 1, 1) := by decide +kernel
theorem s_93_5 {d : Nat} {l0 l2 : oV} {x : Int} {S : List oV} {σ : oSg} {Q : Option oV → (Nat → oC) → Prop} : oE d 93 5 [l0, .inl x, l2] S σ Q = oE d 93 6 [l0, .inl x, l2] (.inl x :: S) σ Q := pLdN (k := 1) f_93_5 rfl rfl rfl
theorem f_93_6 : oFet 93 6 = some (.aload_n 0, 1) := by decide +kernel
theorem s_93_6 {d : Nat} {l1 l2 : oV} {a : Nat} {S : List oV} {σ : oSg} {Q : Option oV → (Nat → oC) → Prop} : oE d 93 6 [.inr (.inr (.inl a)), l1, l2] S σ Q = oE d 93 7 [.inr (.inr (.inl a)), l1, l2] (.inr (.inr (.inl a)) :: S) σ Q := pLdN (k := 0) f_93_6 rfl rfl rfl
theorem f_93_7 : oFet 93 7 = some (.invokevirtual 37, 3) := by decide +kernel
theorem c_93_7 {d : Nat} {l0 l1 l2 : oV} {a : Nat} {v : Option oV} {τ : oSg} {S : List oV} {σ : oSg} {Q : Option oV → (Nat → oC) → Prop} (hm : oMi d 26 [.inr (.inr (.inl a))] σ v τ) (hk : oKd a = some 4) (hs : oSmall S = true) : oE d 93 7 [l0, l1, l2] (.inr (.inr (.inl a)) :: S) σ Q = oE d 93 10 [l0, l1, l2] (v.toList ++ S) τ Q := pCallV f_93_7 ow_93 lk_4_37 mt_26 rfl rfl rfl hk hs hm
theorem f_93_10 : oFet 93 10 = some (.iconst (-1), 1) := by decide +kernel
theorem s_93_10 {d : Nat} {l0 l1 l2 : oV} {S : List oV} {σ : oSg} {Q : Option oV → (Nat → oC) → Prop} : oE d 93 10 [l0, l1, l2] S σ Q = oE d 93 11 [l0, l1, l2] (.inl (-1) :: S) σ Q := pKst f_93_10 (by decide)
theorem f_93_11 : oFet 93 11 = some (.ixor, 1) := by decide +kernel
theorem s_93_11 {d : Nat} {l0 l1 l2 : oV} {x y : Int} {S : List oV} {σ : oSg} {Q : Option oV → (Nat → oC) → Prop} : oE d 93 11 [l0, l1, l2] (.inl y :: .inl x :: S) σ Q = oE d 93 12 [l0, l1, l2] (.inl (oXor x y) :: S) σ Q := oS3 f_93_11 rfl rfl rfl
theorem f_93_12 : oFet 93 12 = some (.iand, 1) := by decide +kernel
theorem s_93_12 {d : Nat} {l0 l1 l2 : oV} {x y : Int} {S : List oV} {σ : oSg} {Q : Option oV → (Nat → oC) → Prop} : oE d 93 12 [l0, l1, l2] (.inl y :: .inl x :: S) σ Q = oE d 93 13 [l0, l1, l2] (.inl (oAnd x y) :: S) σ Q := oS3 f_93_12 rfl rfl rfl
theorem f_93_13 : oFet 93 13 = some (.ifCond .ne 19, 3) := by decide +kernel
theorem s_93_13 {d : Nat} {l0 l1 l2 : oV} {x : Int} {S : List oV} {σ : oSg} {Q : Option oV → (Nat → oC) → Prop} : oE d 93 13 [l0, l1, l2] (.inl x :: S) σ Q = if ¬ x = 0 then oE d 93 32 [l0, l1, l2] S σ Q else oE d 93 16 [l0, l1, l2] S σ Q := oIfNe f_93_13 (by decide)
theorem f_93_16 : oFet 93 16 = some (.iload_n 2, 1) := by decide +kernel
theorem s_93_16 {d : Nat} {l0 l1 : oV} {x : Int} {S : List oV} {σ : oSg} {Q : Option oV → (Nat → oC) → Prop} : oE d 93 16 [l0, l1, .inl x] S σ Q = oE d 93 17 [l0, l1, .inl x] (.inl x :: S) σ Q := pLdN (k := 2) f_93_16 rfl rfl rfl
theorem f_93_17 : oFet 93 17 = some (.iconst 3, 1) := by decide +kernel
theorem s_93_17 {d : Nat} {l0 l1 l2 : oV} {S : List oV} {σ : oSg} {Q : Option oV → (Nat → oC) → Prop} : oE d 93 17 [l0, l1, l2] S σ Q = oE d 93 18 [l0, l1, l2] (.inl (3) :: S) σ Q := pKst f_93_17 (by decide)
theorem f_93_18 : oFet 93 18 = some (.if_icmp .lt 14, 3) := by decide +kernel
theorem s_93_18 {d : Nat} {l0 l1 l2 : oV} {x y : Int} {S : List oV} {σ : oSg} {Q : Option oV → (Nat → oC) → Prop} : oE d 93 18 [l0, l1, l2] (.inl y :: .inl x :: S) σ Q = if x < y then oE d 93 32 [l0, l1, l2] S σ Q else oE d 93 21 [l0, l1, l2] S σ Q := oCmpLt f_93_18 (by decide)
theorem f_93_21 : oFet 93 21 = some (.iload_n 2, 1) := by decide +kernel
theorem s_93_21 {d : Nat} {l0 l1 : oV} {x : Int} {S : List oV} {σ : oSg} {Q : Option oV → (Nat → oC) → Prop} : oE d 93 21 [l0, l1, .inl x] S σ Q = oE d 93 22 [l0, l1, .inl x] (.inl x :: S) σ Q := pLdN (k := 2) f_93_21 rfl rfl rfl
theorem f_93_22 : oFet 93 22 = some (.iconst 2, 1) := by decide +kernel
theorem s_93_22 {d : Nat} {l0 l1 l2 : oV} {S : List oV} {σ : oSg} {Q : Option oV → (Nat → oC) → Prop} : oE d 93 22 [l0, l1, l2] S σ Q = oE d 93 23 [l0, l1, l2] (.inl (2) :: S) σ Q := pKst f_93_22 (by decide)
theorem f_93_23 : oFet 93 23 = some (.irem, 1) := by decide +kernel
theorem s_93_23 {d : Nat} {l0 l1 l2 : oV} {x y : Int} {S : List oV} {σ : oSg} {Q : Option oV → (Nat → oC) → Prop} (hy : y ≠ 0) : oE d 93 23 [l0, l1, l2] (.inl y :: .inl x :: S) σ Q = oE d 93 24 [l0, l1, l2] (.inl (oRem x y) :: S) σ Q := pRem f_93_23 hy
theorem f_93_24 : oFet 93 24 = some (.iconst 1, 1) := by decide +kernel
theorem s_93_24 {d : Nat} {l0 l1 l2 : oV} {S : List oV} {σ : oSg} {Q : Option oV → (Nat → oC) → Prop} : oE d 93 24 [l0, l1, l2] S σ Q = oE d 93 25 [l0, l1, l2] (.inl (1) :: S) σ Q := pKst f_93_24 (by decide)
theorem f_93_25 : oFet 93 25 = some (.if_icmp .ne 7, 3) := by decide +kernel
theorem s_93_25 {d : Nat} {l0 l1 l2 : oV} {x y : Int} {S : List oV} {σ : oSg} {Q : Option oV → (Nat → oC) → Prop} : oE d 93 25 [l0, l1, l2] (.inl y :: .inl x :: S) σ Q = if ¬ x = y then oE d 93 32 [l0, l1, l2] S σ Q else oE d 93 28 [l0, l1, l2] S σ Q := oCmpNe f_93_25 (by decide)
theorem f_93_28 : oFet 93 28 = some (.iconst 1, 1) := by decide +kernel
theorem s_93_28 {d : Nat} {l0 l1 l2 : oV} {S : List oV} {σ : oSg} {Q : Option oV → (Nat → oC) → Prop} : oE d 93 28 [l0, l1, l2] S σ Q = oE d 93 29 [l0, l1, l2] (.inl (1) :: S) σ Q := pKst f_93_28 (by decide)
theorem f_93_29 : oFet 93 29 = some (.goto 4, 3) := by decide +kernel
theorem s_93_29 {d : Nat} {l0 l1 l2 : oV} {S : List oV} {σ : oSg} {Q : Option oV → (Nat → oC) → Prop} : oE d 93 29 [l0, l1, l2] S σ Q = oE d 93 33 [l0, l1, l2] S σ Q := pGoto f_93_29 (by decide)
theorem f_93_32 : oFet 93 32 = some (.iconst 0, 1) := by decide +kernel
theorem s_93_32 {d : Nat} {l0 l1 l2 : oV} {S : List oV} {σ : oSg} {Q : Option oV → (Nat → oC) → Prop} : oE d 93 32 [l0, l1, l2] S σ Q = oE d 93 33 [l0, l1, l2] (.inl (0) :: S) σ Q := pKst f_93_32 (by decide)
theorem f_93_33 : oFet 93 33 = some (.ireturn, 1) := by decide +kernel
theorem s_93_33 {d : Nat} {l0 l1 l2 : oV} {x : Int} {σ : oSg} {Q : Option oV → (Nat → oC) → Prop} (hx : x = 0 ∨ x = 1) : oE d 93 33 [l0, l1, l2] [.inl x] σ Q = Q (some (.inl x)) (oBld σ) := oZret f_93_33 rt_93 hx
theorem ow_94 : (oMt 94).2.2.2.2.1 = 7 := by decide +kernel
theorem rt_94 : (oMt 94).2.2.2.1 = some .int := by decide +kernel
theorem nl_94 : (oMt 94).2.2.1 = 3 := by decide +kernel
theorem f_94_0 : oFet 94 0 = some (.aload_n 0, 1) := by decide +kernel
theorem s_94_0 {d : Nat} {l1 l2 : oV} {a : Nat} {S : List oV} {σ : oSg} {Q : Option oV → (Nat → oC) → Prop} : oE d 94 0 [.inr (.inr (.inl a)), l1, l2] S σ Q = oE d 94 1 [.inr (.inr (.inl a)), l1, l2] (.inr (.inr (.inl a)) :: S) σ Q := pLdN (k := 0) f_94_0 rfl rfl rfl
theorem f_94_1 : oFet 94 1 = some (.getfield 24, 3) := by decide +kernel
theorem s_94_1 {d : Nat} {l0 l1 l2 : oV} {a : Nat} {S : List oV} {σ : oSg} {Q : Option oV → (Nat → oC) → Prop} (hk : oKd a = some 7) : oE d 94 1 [l0, l1, l2] (.inr (.inr (.inl a)) :: S) σ Q = oE d 94 4 [l0, l1, l2] (.inl (σ.1 a 0) :: S) σ Q := pGfI f_94_1 ow_94 fl_7_24 rfl (by decide) hk
theorem f_94_4 : oFet 94 4 = some (.ifCond .lt 27, 3) := by decide +kernel
theorem s_94_4 {d : Nat} {l0 l1 l2 : oV} {x : Int} {S : List oV} {σ : oSg} {Q : Option oV → (Nat → oC) → Prop} : oE d 94 4 [l0, l1, l2] (.inl x :: S) σ Q = if x < 0 then oE d 94 31 [l0, l1, l2] S σ Q else oE d 94 7 [l0, l1, l2] S σ Q := oIfLt f_94_4 (by decide)
theorem f_94_7 : oFet 94 7 = some (.aload_n 0, 1) := by decide +kernel
theorem s_94_7 {d : Nat} {l1 l2 : oV} {a : Nat} {S : List oV} {σ : oSg} {Q : Option oV → (Nat → oC) → Prop} : oE d 94 7 [.inr (.inr (.inl a)), l1, l2] S σ Q = oE d 94 8 [.inr (.inr (.inl a)), l1, l2] (.inr (.inr (.inl a)) :: S) σ Q := pLdN (k := 0) f_94_7 rfl rfl rfl
theorem f_94_8 : oFet 94 8 = some (.getfield 24, 3) := by decide +kernel
theorem s_94_8 {d : Nat} {l0 l1 l2 : oV} {a : Nat} {S : List oV} {σ : oSg} {Q : Option oV → (Nat → oC) → Prop} (hk : oKd a = some 7) : oE d 94 8 [l0, l1, l2] (.inr (.inr (.inl a)) :: S) σ Q = oE d 94 11 [l0, l1, l2] (.inl (σ.1 a 0) :: S) σ Q := pGfI f_94_8 ow_94 fl_7_24 rfl (by decide) hk
theorem f_94_11 : oFet 94 11 = some (.aload_n 0, 1) := by decide +kernel
theorem s_94_11 {d : Nat} {l1 l2 : oV} {a : Nat} {S : List oV} {σ : oSg} {Q : Option oV → (Nat → oC) → Prop} : oE d 94 11 [.inr (.inr (.inl a)), l1, l2] S σ Q = oE d 94 12 [.inr (.inr (.inl a)), l1, l2] (.inr (.inr (.inl a)) :: S) σ Q := pLdN (k := 0) f_94_11 rfl rfl rfl
theorem f_94_12 : oFet 94 12 = some (.getfield 15, 3) := by decide +kernel
theorem s_94_12 {d : Nat} {l0 l1 l2 : oV} {a : Nat} {S : List oV} {σ : oSg} {Q : Option oV → (Nat → oC) → Prop} (hk : oKd a = some 7) : oE d 94 12 [l0, l1, l2] (.inr (.inr (.inl a)) :: S) σ Q = oE d 94 15 [l0, l1, l2] (.inr (.inr (.inl (oRf a 1))) :: S) σ Q := pGfR f_94_12 ow_94 fl_7_15 rfl (by decide) hk
theorem f_94_15 : oFet 94 15 = some (.arraylength, 1) := by decide +kernel
theorem s_94_15 {d : Nat} {l0 l1 l2 : oV} {a : Nat} {S : List oV} {σ : oSg} {Q : Option oV → (Nat → oC) → Prop} (hk : oAk a = some 0) : oE d 94 15 [l0, l1, l2] (.inr (.inr (.inl a)) :: S) σ Q = oE d 94 16 [l0, l1, l2] (.inl (oLn a : Int) :: S) σ Q := oAln f_94_15 hk (by decide)
theorem f_94_16 : oFet 94 16 = some (.if_icmp .ge 15, 3) := by decide +kernel
theorem s_94_16 {d : Nat} {l0 l1 l2 : oV} {x y : Int} {S : List oV} {σ : oSg} {Q : Option oV → (Nat → oC) → Prop} : oE d 94 16 [l0, l1, l2] (.inl y :: .inl x :: S) σ Q = if y ≤ x then oE d 94 31 [l0, l1, l2] S σ Q else oE d 94 19 [l0, l1, l2] S σ Q := oCmpGe f_94_16 (by decide)
theorem f_94_19 : oFet 94 19 = some (.aload_n 0, 1) := by decide +kernel
theorem s_94_19 {d : Nat} {l1 l2 : oV} {a : Nat} {S : List oV} {σ : oSg} {Q : Option oV → (Nat → oC) → Prop} : oE d 94 19 [.inr (.inr (.inl a)), l1, l2] S σ Q = oE d 94 20 [.inr (.inr (.inl a)), l1, l2] (.inr (.inr (.inl a)) :: S) σ Q := pLdN (k := 0) f_94_19 rfl rfl rfl
theorem f_94_20 : oFet 94 20 = some (.getfield 24, 3) := by decide +kernel
theorem s_94_20 {d : Nat} {l0 l1 l2 : oV} {a : Nat} {S : List oV} {σ : oSg} {Q : Option oV → (Nat → oC) → Prop} (hk : oKd a = some 7) : oE d 94 20 [l0, l1, l2] (.inr (.inr (.inl a)) :: S) σ Q = oE d 94 23 [l0, l1, l2] (.inl (σ.1 a 0) :: S) σ Q := pGfI f_94_20 ow_94 fl_7_24 rfl (by decide) hk
theorem f_94_23 : oFet 94 23 = some (.aload_n 0, 1) := by decide +kernel
theorem s_94_23 {d : Nat} {l1 l2 : oV} {a : Nat} {S : List oV} {σ : oSg} {Q : Option oV → (Nat → oC) → Prop} : oE d 94 23 [.inr (.inr (.inl a)), l1, l2] S σ Q = oE d 94 24 [.inr (.inr (.inl a)), l1, l2] (.inr (.inr (.inl a)) :: S) σ Q := pLdN (k := 0) f_94_23 rfl rfl rfl
theorem f_94_24 : oFet 94 24 = some (.getfield 21, 3) := by decide +kernel
theorem s_94_24 {d : Nat} {l0 l1 l2 : oV} {a : Nat} {S : List oV} {σ : oSg} {Q : Option oV → (Nat → oC) → Prop} (hk : oKd a = some 7) : oE d 94 24 [l0, l1, l2] (.inr (.inr (.inl a)) :: S) σ Q = oE d 94 27 [l0, l1, l2] (.inr (.inr (.inl (oRf a 2))) :: S) σ Q := pGfR f_94_24 ow_94 fl_7_21 rfl (by decide) hk
theorem f_94_27 : oFet 94 27 = some (.arraylength, 1) := by decide +kernel
theorem s_94_27 {d : Nat} {l0 l1 l2 : oV} {a : Nat} {S : List oV} {σ : oSg} {Q : Option oV → (Nat → oC) → Prop} (hk : oAk a = some 0) : oE d 94 27 [l0, l1, l2] (.inr (.inr (.inl a)) :: S) σ Q = oE d 94 28 [l0, l1, l2] (.inl (oLn a : Int) :: S) σ Q := oAln f_94_27 hk (by decide)
theorem f_94_28 : oFet 94 28 = some (.if_icmp .lt 6, 3) := by decide +kernel
theorem s_94_28 {d : Nat} {l0 l1 l2 : oV} {x y : Int} {S : List oV} {σ : oSg} {Q : Option oV → (Nat → oC) → Prop} : oE d 94 28 [l0, l1, l2] (.inl y :: .inl x :: S) σ Q = if x < y then oE d 94 34 [l0, l1, l2] S σ Q else oE d 94 31 [l0, l1, l2] S σ Q := oCmpLt f_94_28 (by decide)
theorem f_94_31 : oFet 94 31 = some (.bipush (-4), 2) := by decide +kernel
theorem s_94_31 {d : Nat} {l0 l1 l2 : oV} {S : List oV} {σ : oSg} {Q : Option oV → (Nat → oC) → Prop} : oE d 94 31 [l0, l1, l2] S σ Q = oE d 94 33 [l0, l1, l2] (.inl (-4) :: S) σ Q := pBip f_94_31 (by decide)
theorem f_94_33 : oFet 94 33 = some (.ireturn, 1) := by decide +kernel
theorem s_94_33 {d : Nat} {l0 l1 l2 : oV} {x : Int} {σ : oSg} {Q : Option oV → (Nat → oC) → Prop} : oE d 94 33 [l0, l1, l2] [.inl x] σ Q = Q (some (.inl x)) (oBld σ) := oIret f_94_33 rt_94
theorem f_94_34 : oFet 94 34 = some (.aload_n 0, 1) := by decide +kernel
theorem s_94_34 {d : Nat} {l1 l2 : oV} {a : Nat} {S : List oV} {σ : oSg} {Q : Option oV → (Nat → oC) → Prop} : oE d 94 34 [.inr (.inr (.inl a)), l1, l2] S σ Q = oE d 94 35 [.inr (.inr (.inl a)), l1, l2] (.inr (.inr (.inl a)) :: S) σ Q := pLdN (k := 0) f_94_34 rfl rfl rfl
theorem f_94_35 : oFet 94 35 = some (.getfield 15, 3) := by decide +kernel
theorem s_94_35 {d : Nat} {l0 l1 l2 : oV} {a : Nat} {S : List oV} {σ : oSg} {Q : Option oV → (Nat → oC) → Prop} (hk : oKd a = some 7) : oE d 94 35 [l0, l1, l2] (.inr (.inr (.inl a)) :: S) σ Q = oE d 94 38 [l0, l1, l2] (.inr (.inr (.inl (oRf a 1))) :: S) σ Q := pGfR f_94_35 ow_94 fl_7_15 rfl (by decide) hk
theorem f_94_38 : oFet 94 38 = some (.aload_n 0, 1) := by decide +kernel
theorem s_94_38 {d : Nat} {l1 l2 : oV} {a : Nat} {S : List oV} {σ : oSg} {Q : Option oV → (Nat → oC) → Prop} : oE d 94 38 [.inr (.inr (.inl a)), l1, l2] S σ Q = oE d 94 39 [.inr (.inr (.inl a)), l1, l2] (.inr (.inr (.inl a)) :: S) σ Q := pLdN (k := 0) f_94_38 rfl rfl rfl
theorem f_94_39 : oFet 94 39 = some (.getfield 24, 3) := by decide +kernel
theorem s_94_39 {d : Nat} {l0 l1 l2 : oV} {a : Nat} {S : List oV} {σ : oSg} {Q : Option oV → (Nat → oC) → Prop} (hk : oKd a = some 7) : oE d 94 39 [l0, l1, l2] (.inr (.inr (.inl a)) :: S) σ Q = oE d 94 42 [l0, l1, l2] (.inl (σ.1 a 0) :: S) σ Q := pGfI f_94_39 ow_94 fl_7_24 rfl (by decide) hk
theorem f_94_42 : oFet 94 42 = some (.iload_n 1, 1) := by decide +kernel
theorem s_94_42 {d : Nat} {l0 l2 : oV} {x : Int} {S : List oV} {σ : oSg} {Q : Option oV → (Nat → oC) → Prop} : oE d 94 42 [l0, .inl x, l2] S σ Q = oE d 94 43 [l0, .inl x, l2] (.inl x :: S) σ Q := pLdN (k := 1) f_94_42 rfl rfl rfl
theorem f_94_43 : oFet 94 43 = some (.iastore, 1) := by decide +kernel
theorem s_94_43 {d : Nat} {l0 l1 l2 : oV} {a : Nat} {i v : Int} {S : List oV} {σ : oSg} {Q : Option oV → (Nat → oC) → Prop} (hk : oAk a = some 0) (h0 : 0 ≤ i) (h1 : i < (oLn a : Int)) : oE d 94 43 [l0, l1, l2] (.inl v :: .inl i :: .inr (.inr (.inl a)) :: S) σ Q = oE d 94 44 [l0, l1, l2] S (oSA σ a i.toNat v) Q := oIas f_94_43 hk h0 h1
theorem f_94_44 : oFet 94 44 = some (.aload_n 0, 1) := by decide +kernel
theorem s_94_44 {d : Nat} {l1 l2 : oV} {a : Nat} {S : List oV} {σ : oSg} {Q : Option oV → (Nat → oC) → Prop} : oE d 94 44 [.inr (.inr (.inl a)), l1, l2] S σ Q = oE d 94 45 [.inr (.inr (.inl a)), l1, l2] (.inr (.inr (.inl a)) :: S) σ Q := pLdN (k := 0) f_94_44 rfl rfl rfl
theorem f_94_45 : oFet 94 45 = some (.getfield 21, 3) := by decide +kernel
theorem s_94_45 {d : Nat} {l0 l1 l2 : oV} {a : Nat} {S : List oV} {σ : oSg} {Q : Option oV → (Nat → oC) → Prop} (hk : oKd a = some 7) : oE d 94 45 [l0, l1, l2] (.inr (.inr (.inl a)) :: S) σ Q = oE d 94 48 [l0, l1, l2] (.inr (.inr (.inl (oRf a 2))) :: S) σ Q := pGfR f_94_45 ow_94 fl_7_21 rfl (by decide) hk
theorem f_94_48 : oFet 94 48 = some (.aload_n 0, 1) := by decide +kernel
theorem s_94_48 {d : Nat} {l1 l2 : oV} {a : Nat} {S : List oV} {σ : oSg} {Q : Option oV → (Nat → oC) → Prop} : oE d 94 48 [.inr (.inr (.inl a)), l1, l2] S σ Q = oE d 94 49 [.inr (.inr (.inl a)), l1, l2] (.inr (.inr (.inl a)) :: S) σ Q := pLdN (k := 0) f_94_48 rfl rfl rfl
theorem f_94_49 : oFet 94 49 = some (.getfield 24, 3) := by decide +kernel
theorem s_94_49 {d : Nat} {l0 l1 l2 : oV} {a : Nat} {S : List oV} {σ : oSg} {Q : Option oV → (Nat → oC) → Prop} (hk : oKd a = some 7) : oE d 94 49 [l0, l1, l2] (.inr (.inr (.inl a)) :: S) σ Q = oE d 94 52 [l0, l1, l2] (.inl (σ.1 a 0) :: S) σ Q := pGfI f_94_49 ow_94 fl_7_24 rfl (by decide) hk
theorem f_94_52 : oFet 94 52 = some (.iload_n 2, 1) := by decide +kernel
theorem s_94_52 {d : Nat} {l0 l1 : oV} {x : Int} {S : List oV} {σ : oSg} {Q : Option oV → (Nat → oC) → Prop} : oE d 94 52 [l0, l1, .inl x] S σ Q = oE d 94 53 [l0, l1, .inl x] (.inl x :: S) σ Q := pLdN (k := 2) f_94_52 rfl rfl rfl
theorem f_94_53 : oFet 94 53 = some (.iastore, 1) := by decide +kernel
theorem s_94_53 {d : Nat} {l0 l1 l2 : oV} {a : Nat} {i v : Int} {S : List oV} {σ : oSg} {Q : Option oV → (Nat → oC) → Prop} (hk : oAk a = some 0) (h0 : 0 ≤ i) (h1 : i < (oLn a : Int)) : oE d 94 53 [l0, l1, l2] (.inl v :: .inl i :: .inr (.inr (.inl a)) :: S) σ Q = oE d 94 54 [l0, l1, l2] S (oSA σ a i.toNat v) Q := oIas f_94_53 hk h0 h1
theorem f_94_54 : oFet 94 54 = some (.aload_n 0, 1) := by decide +kernel
theorem s_94_54 {d : Nat} {l1 l2 : oV} {a : Nat} {S : List oV} {σ : oSg} {Q : Option oV → (Nat → oC) → Prop} : oE d 94 54 [.inr (.inr (.inl a)), l1, l2] S σ Q = oE d 94 55 [.inr (.inr (.inl a)), l1, l2] (.inr (.inr (.inl a)) :: S) σ Q := pLdN (k := 0) f_94_54 rfl rfl rfl
theorem f_94_55 : oFet 94 55 = some (.dup, 1) := by decide +kernel
theorem s_94_55 {d : Nat} {l0 l1 l2 : oV} {a : Nat} {S : List oV} {σ : oSg} {Q : Option oV → (Nat → oC) → Prop} : oE d 94 55 [l0, l1, l2] (.inr (.inr (.inl a)) :: S) σ Q = oE d 94 56 [l0, l1, l2] (.inr (.inr (.inl a)) :: .inr (.inr (.inl a)) :: S) σ Q := pDupR f_94_55
theorem s_94_55_i {d : Nat} {l0 l1 l2 : oV} {x : Int} {S : List oV} {σ : oSg} {Q : Option oV → (Nat → oC) → Prop} : oE d 94 55 [l0, l1, l2] (.inl x :: S) σ Q = oE d 94 56 [l0, l1, l2] (.inl x :: .inl x :: S) σ Q := pDupI f_94_55
theorem f_94_56 : oFet 94 56 = some (.getfield 24, 3) := by decide +kernel
theorem s_94_56 {d : Nat} {l0 l1 l2 : oV} {a : Nat} {S : List oV} {σ : oSg} {Q : Option oV → (Nat → oC) → Prop} (hk : oKd a = some 7) : oE d 94 56 [l0, l1, l2] (.inr (.inr (.inl a)) :: S) σ Q = oE d 94 59 [l0, l1, l2] (.inl (σ.1 a 0) :: S) σ Q := pGfI f_94_56 ow_94 fl_7_24 rfl (by decide) hk
theorem f_94_59 : oFet 94 59 = some (.iconst 1, 1) := by decide +kernel
theorem s_94_59 {d : Nat} {l0 l1 l2 : oV} {S : List oV} {σ : oSg} {Q : Option oV → (Nat → oC) → Prop} : oE d 94 59 [l0, l1, l2] S σ Q = oE d 94 60 [l0, l1, l2] (.inl (1) :: S) σ Q := pKst f_94_59 (by decide)
theorem f_94_60 : oFet 94 60 = some (.iadd, 1) := by decide +kernel
theorem s_94_60 {d : Nat} {l0 l1 l2 : oV} {x y : Int} {S : List oV} {σ : oSg} {Q : Option oV → (Nat → oC) → Prop} : oE d 94 60 [l0, l1, l2] (.inl y :: .inl x :: S) σ Q = oE d 94 61 [l0, l1, l2] (.inl (oAdd x y) :: S) σ Q := oS3 f_94_60 rfl rfl rfl
theorem f_94_61 : oFet 94 61 = some (.putfield 24, 3) := by decide +kernel
theorem s_94_61 {d : Nat} {l0 l1 l2 : oV} {a : Nat} {v : Int} {S : List oV} {σ : oSg} {Q : Option oV → (Nat → oC) → Prop} (hk : oKd a = some 7) : oE d 94 61 [l0, l1, l2] (.inl v :: .inr (.inr (.inl a)) :: S) σ Q = oE d 94 64 [l0, l1, l2] S (oSF σ a 0 v) Q := pPfI f_94_61 ow_94 fl_7_24 rfl (by decide) rfl rfl hk
theorem f_94_64 : oFet 94 64 = some (.aload_n 0, 1) := by decide +kernel
theorem s_94_64 {d : Nat} {l1 l2 : oV} {a : Nat} {S : List oV} {σ : oSg} {Q : Option oV → (Nat → oC) → Prop} : oE d 94 64 [.inr (.inr (.inl a)), l1, l2] S σ Q = oE d 94 65 [.inr (.inr (.inl a)), l1, l2] (.inr (.inr (.inl a)) :: S) σ Q := pLdN (k := 0) f_94_64 rfl rfl rfl
theorem f_94_65 : oFet 94 65 = some (.getfield 24, 3) := by decide +kernel
theorem s_94_65 {d : Nat} {l0 l1 l2 : oV} {a : Nat} {S : List oV} {σ : oSg} {Q : Option oV → (Nat → oC) → Prop} (hk : oKd a = some 7) : oE d 94 65 [l0, l1, l2] (.inr (.inr (.inl a)) :: S) σ Q = oE d 94 68 [l0, l1, l2] (.inl (σ.1 a 0) :: S) σ Q := pGfI f_94_65 ow_94 fl_7_24 rfl (by decide) hk
theorem f_94_68 : oFet 94 68 = some (.ireturn, 1) := by decide +kernel
theorem s_94_68 {d : Nat} {l0 l1 l2 : oV} {x : Int} {σ : oSg} {Q : Option oV → (Nat → oC) → Prop} : oE d 94 68 [l0, l1, l2] [.inl x] σ Q = Q (some (.inl x)) (oBld σ) := oIret f_94_68 rt_94
theorem ow_95 : (oMt 95).2.2.2.2.1 = 10 := by decide +kernel
theorem rt_95 : (oMt 95).2.2.2.1 = some .int := by decide +kernel
theorem nl_95 : (oMt 95).2.2.1 = 2 := by decide +kernel
theorem f_95_0 : oFet 95 0 = some (.aload_n 0, 1) := by decide +kernel
theorem s_95_0 {d : Nat} {l1 : oV} {a : Nat} {S : List oV} {σ : oSg} {Q : Option oV → (Nat → oC) → Prop} : oE d 95 0 [.inr (.inr (.inl a)), l1] S σ Q = oE d 95 1 [.inr (.inr (.inl a)), l1] (.inr (.inr (.inl a)) :: S) σ Q := pLdN (k := 0) f_95_0 rfl rfl rfl
theorem f_95_1 : oFet 95 1 = some (.getfield 12, 3) := by decide +kernel
theorem s_95_1 {d : Nat} {l0 l1 : oV} {a : Nat} {S : List oV} {σ : oSg} {Q : Option oV → (Nat → oC) → Prop} (hk : oKd a = some 10) : oE d 95 1 [l0, l1] (.inr (.inr (.inl a)) :: S) σ Q = oE d 95 4 [l0, l1] (.inr (.inr (.inl (oRf a 0))) :: S) σ Q := pGfR f_95_1 ow_95 fl_10_12 rfl (by decide) hk
theorem f_95_4 : oFet 95 4 = some (.getfield 265, 3) := by decide +kernel
theorem s_95_4 {d : Nat} {l0 l1 : oV} {a : Nat} {S : List oV} {σ : oSg} {Q : Option oV → (Nat → oC) → Prop} (hk : oKd a = some 1) : oE d 95 4 [l0, l1] (.inr (.inr (.inl a)) :: S) σ Q = oE d 95 7 [l0, l1] (.inr (.inr (.inl (oRf a 3))) :: S) σ Q := pGfR f_95_4 ow_95 fl_10_265 rfl (by decide) hk
theorem f_95_7 : oFet 95 7 = some (.invokevirtual 269, 3) := by decide +kernel
theorem c_95_7 {d : Nat} {l0 l1 : oV} {a : Nat} {v : Option oV} {τ : oSg} {S : List oV} {σ : oSg} {Q : Option oV → (Nat → oC) → Prop} (hm : oMi d 92 [.inr (.inr (.inl a))] σ v τ) (hk : oKd a = some 7) (hs : oSmall S = true) : oE d 95 7 [l0, l1] (.inr (.inr (.inl a)) :: S) σ Q = oE d 95 10 [l0, l1] (v.toList ++ S) τ Q := pCallV f_95_7 ow_95 lk_10_269 mt_92 rfl rfl rfl hk hs hm
theorem f_95_10 : oFet 95 10 = some (.pop, 1) := by decide +kernel
theorem s_95_10 {d : Nat} {l0 l1 : oV} {x : Int} {S : List oV} {σ : oSg} {Q : Option oV → (Nat → oC) → Prop} : oE d 95 10 [l0, l1] (.inl x :: S) σ Q = oE d 95 11 [l0, l1] S σ Q := pPop f_95_10 rfl
theorem f_95_11 : oFet 95 11 = some (.iconst 0, 1) := by decide +kernel
theorem s_95_11 {d : Nat} {l0 l1 : oV} {S : List oV} {σ : oSg} {Q : Option oV → (Nat → oC) → Prop} : oE d 95 11 [l0, l1] S σ Q = oE d 95 12 [l0, l1] (.inl (0) :: S) σ Q := pKst f_95_11 (by decide)
theorem f_95_12 : oFet 95 12 = some (.istore_n 1, 1) := by decide +kernel
theorem s_95_12 {d : Nat} {l0 l1 : oV} {x : Int} {S : List oV} {σ : oSg} {Q : Option oV → (Nat → oC) → Prop} (c1 : oCat l1 = 1) (c0 : oCat l0 = 1)  : oE d 95 12 [l0, l1] (.inl x :: S) σ Q = oE d 95 13 [l0, .inl x] S σ Q := pSt (i := 1) f_95_12 rfl rfl (show (1 : Nat) < 2 by decide) (oC1n c0) (oC1n c1) rfl
theorem f_95_13 : oFet 95 13 = some (.iload_n 1, 1) := by decide +kernel
theorem s_95_13 {d : Nat} {l0 : oV} {x : Int} {S : List oV} {σ : oSg} {Q : Option oV → (Nat → oC) → Prop} : oE d 95 13 [l0, .inl x] S σ Q = oE d 95 14 [l0, .inl x] (.inl x :: S) σ Q := pLdN (k := 1) f_95_13 rfl rfl rfl
theorem f_95_14 : oFet 95 14 = some (.aload_n 0, 1) := by decide +kernel
theorem s_95_14 {d : Nat} {l1 : oV} {a : Nat} {S : List oV} {σ : oSg} {Q : Option oV → (Nat → oC) → Prop} : oE d 95 14 [.inr (.inr (.inl a)), l1] S σ Q = oE d 95 15 [.inr (.inr (.inl a)), l1] (.inr (.inr (.inl a)) :: S) σ Q := pLdN (k := 0) f_95_14 rfl rfl rfl
theorem f_95_15 : oFet 95 15 = some (.getfield 12, 3) := by decide +kernel
theorem s_95_15 {d : Nat} {l0 l1 : oV} {a : Nat} {S : List oV} {σ : oSg} {Q : Option oV → (Nat → oC) → Prop} (hk : oKd a = some 10) : oE d 95 15 [l0, l1] (.inr (.inr (.inl a)) :: S) σ Q = oE d 95 18 [l0, l1] (.inr (.inr (.inl (oRf a 0))) :: S) σ Q := pGfR f_95_15 ow_95 fl_10_12 rfl (by decide) hk
theorem f_95_18 : oFet 95 18 = some (.getfield 73, 3) := by decide +kernel
theorem s_95_18 {d : Nat} {l0 l1 : oV} {a : Nat} {S : List oV} {σ : oSg} {Q : Option oV → (Nat → oC) → Prop} (hk : oKd a = some 1) : oE d 95 18 [l0, l1] (.inr (.inr (.inl a)) :: S) σ Q = oE d 95 21 [l0, l1] (.inr (.inr (.inl (oRf a 0))) :: S) σ Q := pGfR f_95_18 ow_95 fl_10_73 rfl (by decide) hk
theorem f_95_21 : oFet 95 21 = some (.getfield 76, 3) := by decide +kernel
theorem s_95_21 {d : Nat} {l0 l1 : oV} {a : Nat} {S : List oV} {σ : oSg} {Q : Option oV → (Nat → oC) → Prop} (hk : oKd a = some 4) : oE d 95 21 [l0, l1] (.inr (.inr (.inl a)) :: S) σ Q = oE d 95 24 [l0, l1] (.inl (σ.1 a 0) :: S) σ Q := pGfI f_95_21 ow_95 fl_10_76 rfl (by decide) hk
theorem f_95_24 : oFet 95 24 = some (.if_icmp .ge 28, 3) := by decide +kernel
theorem s_95_24 {d : Nat} {l0 l1 : oV} {x y : Int} {S : List oV} {σ : oSg} {Q : Option oV → (Nat → oC) → Prop} : oE d 95 24 [l0, l1] (.inl y :: .inl x :: S) σ Q = if y ≤ x then oE d 95 52 [l0, l1] S σ Q else oE d 95 27 [l0, l1] S σ Q := oCmpGe f_95_24 (by decide)
theorem f_95_27 : oFet 95 27 = some (.aload_n 0, 1) := by decide +kernel
theorem s_95_27 {d : Nat} {l1 : oV} {a : Nat} {S : List oV} {σ : oSg} {Q : Option oV → (Nat → oC) → Prop} : oE d 95 27 [.inr (.inr (.inl a)), l1] S σ Q = oE d 95 28 [.inr (.inr (.inl a)), l1] (.inr (.inr (.inl a)) :: S) σ Q := pLdN (k := 0) f_95_27 rfl rfl rfl
theorem f_95_28 : oFet 95 28 = some (.getfield 12, 3) := by decide +kernel
theorem s_95_28 {d : Nat} {l0 l1 : oV} {a : Nat} {S : List oV} {σ : oSg} {Q : Option oV → (Nat → oC) → Prop} (hk : oKd a = some 10) : oE d 95 28 [l0, l1] (.inr (.inr (.inl a)) :: S) σ Q = oE d 95 31 [l0, l1] (.inr (.inr (.inl (oRf a 0))) :: S) σ Q := pGfR f_95_28 ow_95 fl_10_12 rfl (by decide) hk
theorem f_95_31 : oFet 95 31 = some (.iload_n 1, 1) := by decide +kernel
theorem s_95_31 {d : Nat} {l0 : oV} {x : Int} {S : List oV} {σ : oSg} {Q : Option oV → (Nat → oC) → Prop} : oE d 95 31 [l0, .inl x] S σ Q = oE d 95 32 [l0, .inl x] (.inl x :: S) σ Q := pLdN (k := 1) f_95_31 rfl rfl rfl
theorem f_95_32 : oFet 95 32 = some (.aload_n 0, 1) := by decide +kernel
theorem s_95_32 {d : Nat} {l1 : oV} {a : Nat} {S : List oV} {σ : oSg} {Q : Option oV → (Nat → oC) → Prop} : oE d 95 32 [.inr (.inr (.inl a)), l1] S σ Q = oE d 95 33 [.inr (.inr (.inl a)), l1] (.inr (.inr (.inl a)) :: S) σ Q := pLdN (k := 0) f_95_32 rfl rfl rfl
theorem f_95_33 : oFet 95 33 = some (.getfield 12, 3) := by decide +kernel
theorem s_95_33 {d : Nat} {l0 l1 : oV} {a : Nat} {S : List oV} {σ : oSg} {Q : Option oV → (Nat → oC) → Prop} (hk : oKd a = some 10) : oE d 95 33 [l0, l1] (.inr (.inr (.inl a)) :: S) σ Q = oE d 95 36 [l0, l1] (.inr (.inr (.inl (oRf a 0))) :: S) σ Q := pGfR f_95_33 ow_95 fl_10_12 rfl (by decide) hk
theorem f_95_36 : oFet 95 36 = some (.getfield 73, 3) := by decide +kernel
theorem s_95_36 {d : Nat} {l0 l1 : oV} {a : Nat} {S : List oV} {σ : oSg} {Q : Option oV → (Nat → oC) → Prop} (hk : oKd a = some 1) : oE d 95 36 [l0, l1] (.inr (.inr (.inl a)) :: S) σ Q = oE d 95 39 [l0, l1] (.inr (.inr (.inl (oRf a 0))) :: S) σ Q := pGfR f_95_36 ow_95 fl_10_73 rfl (by decide) hk
theorem f_95_39 : oFet 95 39 = some (.iload_n 1, 1) := by decide +kernel
theorem s_95_39 {d : Nat} {l0 : oV} {x : Int} {S : List oV} {σ : oSg} {Q : Option oV → (Nat → oC) → Prop} : oE d 95 39 [l0, .inl x] S σ Q = oE d 95 40 [l0, .inl x] (.inl x :: S) σ Q := pLdN (k := 1) f_95_39 rfl rfl rfl
theorem f_95_40 : oFet 95 40 = some (.invokevirtual 279, 3) := by decide +kernel
theorem c_95_40 {d : Nat} {l0 l1 : oV} {x0 : oV} {a : Nat} {v : Option oV} {τ : oSg} {S : List oV} {σ : oSg} {Q : Option oV → (Nat → oC) → Prop} (hm : oMi d 96 [.inr (.inr (.inl a)), x0] σ v τ) (hk : oKd a = some 4) (hs : oSmall S = true) : oE d 95 40 [l0, l1] (x0 :: .inr (.inr (.inl a)) :: S) σ Q = oE d 95 43 [l0, l1] (v.toList ++ S) τ Q := pCallV f_95_40 ow_95 lk_10_279 mt_96 rfl rfl rfl hk hs hm
theorem f_95_43 : oFet 95 43 = some (.invokevirtual 262, 3) := by decide +kernel
theorem c_95_43 {d : Nat} {l0 l1 : oV} {x0 x1 : oV} {a : Nat} {v : Option oV} {τ : oSg} {S : List oV} {σ : oSg} {Q : Option oV → (Nat → oC) → Prop} (hm : oMi d 64 [.inr (.inr (.inl a)), x0, x1] σ v τ) (hk : oKd a = some 1) (hs : oSmall S = true) : oE d 95 43 [l0, l1] (x1 :: x0 :: .inr (.inr (.inl a)) :: S) σ Q = oE d 95 46 [l0, l1] (v.toList ++ S) τ Q := pCallV f_95_43 ow_95 lk_10_262 mt_64 rfl rfl rfl hk hs hm
theorem f_95_46 : oFet 95 46 = some (.iinc 1 1, 3) := by decide +kernel
theorem s_95_46 {d : Nat} {l0 : oV} {x : Int} {S : List oV} {σ : oSg} {Q : Option oV → (Nat → oC) → Prop} (c0 : oCat l0 = 1)  : oE d 95 46 [l0, .inl x] S σ Q = oE d 95 49 [l0, .inl (oAdd x (1))] S σ Q := pInc f_95_46 rfl (show (1 : Nat) < 2 by decide) (oC1n c0) (oC1n (v := .inl x) rfl) rfl
theorem f_95_49 : oFet 95 49 = some (.goto (-36), 3) := by decide +kernel
theorem s_95_49 {d : Nat} {l0 l1 : oV} {S : List oV} {σ : oSg} {Q : Option oV → (Nat → oC) → Prop} : oE d 95 49 [l0, l1] S σ Q = oE d 95 13 [l0, l1] S σ Q := pGoto f_95_49 (by decide)
theorem f_95_52 : oFet 95 52 = some (.aload_n 0, 1) := by decide +kernel
theorem s_95_52 {d : Nat} {l1 : oV} {a : Nat} {S : List oV} {σ : oSg} {Q : Option oV → (Nat → oC) → Prop} : oE d 95 52 [.inr (.inr (.inl a)), l1] S σ Q = oE d 95 53 [.inr (.inr (.inl a)), l1] (.inr (.inr (.inl a)) :: S) σ Q := pLdN (k := 0) f_95_52 rfl rfl rfl
theorem f_95_53 : oFet 95 53 = some (.getfield 12, 3) := by decide +kernel
theorem s_95_53 {d : Nat} {l0 l1 : oV} {a : Nat} {S : List oV} {σ : oSg} {Q : Option oV → (Nat → oC) → Prop} (hk : oKd a = some 10) : oE d 95 53 [l0, l1] (.inr (.inr (.inl a)) :: S) σ Q = oE d 95 56 [l0, l1] (.inr (.inr (.inl (oRf a 0))) :: S) σ Q := pGfR f_95_53 ow_95 fl_10_12 rfl (by decide) hk
theorem f_95_56 : oFet 95 56 = some (.invokevirtual 228, 3) := by decide +kernel
theorem c_95_56 {d : Nat} {l0 l1 : oV} {a : Nat} {v : Option oV} {τ : oSg} {S : List oV} {σ : oSg} {Q : Option oV → (Nat → oC) → Prop} (hm : oMi d 82 [.inr (.inr (.inl a))] σ v τ) (hk : oKd a = some 1) (hs : oSmall S = true) : oE d 95 56 [l0, l1] (.inr (.inr (.inl a)) :: S) σ Q = oE d 95 59 [l0, l1] (v.toList ++ S) τ Q := pCallV f_95_56 ow_95 lk_10_228 mt_82 rfl rfl rfl hk hs hm
theorem f_95_59 : oFet 95 59 = some (.ireturn, 1) := by decide +kernel
theorem s_95_59 {d : Nat} {l0 l1 : oV} {x : Int} {σ : oSg} {Q : Option oV → (Nat → oC) → Prop} : oE d 95 59 [l0, l1] [.inl x] σ Q = Q (some (.inl x)) (oBld σ) := oIret f_95_59 rt_95
theorem ow_96 : (oMt 96).2.2.2.2.1 = 4 := by decide +kernel
theorem rt_96 : (oMt 96).2.2.2.1 = some .int := by decide +kernel
theorem nl_96 : (oMt 96).2.2.1 = 4 := by decide +kernel
theorem f_96_0 : oFet 96 0 = some (.iconst 0, 1) := by decide +kernel
theorem s_96_0 {d : Nat} {l0 l1 l2 l3 : oV} {S : List oV} {σ : oSg} {Q : Option oV → (Nat → oC) → Prop} : oE d 96 0 [l0, l1, l2, l3] S σ Q = oE d 96 1 [l0, l1, l2, l3] (.inl (0) :: S) σ Q := pKst f_96_0 (by decide)
theorem f_96_1 : oFet 96 1 = some (.istore_n 2, 1) := by decide +kernel
theorem s_96_1 {d : Nat} {l0 l1 l2 l3 : oV} {x : Int} {S : List oV} {σ : oSg} {Q : Option oV → (Nat → oC) → Prop} (c2 : oCat l2 = 1) (c1 : oCat l1 = 1)  : oE d 96 1 [l0, l1, l2, l3] (.inl x :: S) σ Q = oE d 96 2 [l0, l1, .inl x, l3] S σ Q := pSt (i := 2) f_96_1 rfl rfl (show (2 : Nat) < 4 by decide) (oC1n c1) (oC1n c2) rfl
theorem f_96_2 : oFet 96 2 = some (.iconst 0, 1) := by decide +kernel
theorem s_96_2 {d : Nat} {l0 l1 l2 l3 : oV} {S : List oV} {σ : oSg} {Q : Option oV → (Nat → oC) → Prop} : oE d 96 2 [l0, l1, l2, l3] S σ Q = oE d 96 3 [l0, l1, l2, l3] (.inl (0) :: S) σ Q := pKst f_96_2 (by decide)
theorem f_96_3 : oFet 96 3 = some (.istore_n 3, 1) := by decide +kernel
theorem s_96_3 {d : Nat} {l0 l1 l2 l3 : oV} {x : Int} {S : List oV} {σ : oSg} {Q : Option oV → (Nat → oC) → Prop} (c3 : oCat l3 = 1) (c2 : oCat l2 = 1)  : oE d 96 3 [l0, l1, l2, l3] (.inl x :: S) σ Q = oE d 96 4 [l0, l1, l2, .inl x] S σ Q := pSt (i := 3) f_96_3 rfl rfl (show (3 : Nat) < 4 by decide) (oC1n c2) (oC1n c3) rfl
theorem f_96_4 : oFet 96 4 = some (.iload_n 3, 1) := by decide +kernel
theorem s_96_4 {d : Nat} {l0 l1 l2 : oV} {x : Int} {S : List oV} {σ : oSg} {Q : Option oV → (Nat → oC) → Prop} : oE d 96 4 [l0, l1, l2, .inl x] S σ Q = oE d 96 5 [l0, l1, l2, .inl x] (.inl x :: S) σ Q := pLdN (k := 3) f_96_4 rfl rfl rfl
theorem f_96_5 : oFet 96 5 = some (.aload_n 0, 1) := by decide +kernel
theorem s_96_5 {d : Nat} {l1 l2 l3 : oV} {a : Nat} {S : List oV} {σ : oSg} {Q : Option oV → (Nat → oC) → Prop} : oE d 96 5 [.inr (.inr (.inl a)), l1, l2, l3] S σ Q = oE d 96 6 [.inr (.inr (.inl a)), l1, l2, l3] (.inr (.inr (.inl a)) :: S) σ Q := pLdN (k := 0) f_96_5 rfl rfl rfl
theorem f_96_6 : oFet 96 6 = some (.getfield 15, 3) := by decide +kernel
theorem s_96_6 {d : Nat} {l0 l1 l2 l3 : oV} {a : Nat} {S : List oV} {σ : oSg} {Q : Option oV → (Nat → oC) → Prop} (hk : oKd a = some 4) : oE d 96 6 [l0, l1, l2, l3] (.inr (.inr (.inl a)) :: S) σ Q = oE d 96 9 [l0, l1, l2, l3] (.inl (σ.1 a 0) :: S) σ Q := pGfI f_96_6 ow_96 fl_4_15 rfl (by decide) hk
theorem f_96_9 : oFet 96 9 = some (.if_icmp .ge 20, 3) := by decide +kernel
theorem s_96_9 {d : Nat} {l0 l1 l2 l3 : oV} {x y : Int} {S : List oV} {σ : oSg} {Q : Option oV → (Nat → oC) → Prop} : oE d 96 9 [l0, l1, l2, l3] (.inl y :: .inl x :: S) σ Q = if y ≤ x then oE d 96 29 [l0, l1, l2, l3] S σ Q else oE d 96 12 [l0, l1, l2, l3] S σ Q := oCmpGe f_96_9 (by decide)
theorem f_96_12 : oFet 96 12 = some (.iload_n 2, 1) := by decide +kernel
theorem s_96_12 {d : Nat} {l0 l1 l3 : oV} {x : Int} {S : List oV} {σ : oSg} {Q : Option oV → (Nat → oC) → Prop} : oE d 96 12 [l0, l1, .inl x, l3] S σ Q = oE d 96 13 [l0, l1, .inl x, l3] (.inl x :: S) σ Q := pLdN (k := 2) f_96_12 rfl rfl rfl
theorem f_96_13 : oFet 96 13 = some (.aload_n 0, 1) := by decide +kernel
theorem s_96_13 {d : Nat} {l1 l2 l3 : oV} {a : Nat} {S : List oV} {σ : oSg} {Q : Option oV → (Nat → oC) → Prop} : oE d 96 13 [.inr (.inr (.inl a)), l1, l2, l3] S σ Q = oE d 96 14 [.inr (.inr (.inl a)), l1, l2, l3] (.inr (.inr (.inl a)) :: S) σ Q := pLdN (k := 0) f_96_13 rfl rfl rfl
theorem f_96_14 : oFet 96 14 = some (.iload_n 1, 1) := by decide +kernel
theorem s_96_14 {d : Nat} {l0 l2 l3 : oV} {x : Int} {S : List oV} {σ : oSg} {Q : Option oV → (Nat → oC) → Prop} : oE d 96 14 [l0, .inl x, l2, l3] S σ Q = oE d 96 15 [l0, .inl x, l2, l3] (.inl x :: S) σ Q := pLdN (k := 1) f_96_14 rfl rfl rfl
theorem f_96_15 : oFet 96 15 = some (.iload_n 3, 1) := by decide +kernel
theorem s_96_15 {d : Nat} {l0 l1 l2 : oV} {x : Int} {S : List oV} {σ : oSg} {Q : Option oV → (Nat → oC) → Prop} : oE d 96 15 [l0, l1, l2, .inl x] S σ Q = oE d 96 16 [l0, l1, l2, .inl x] (.inl x :: S) σ Q := pLdN (k := 3) f_96_15 rfl rfl rfl
theorem f_96_16 : oFet 96 16 = some (.invokevirtual 23, 3) := by decide +kernel
theorem c_96_16 {d : Nat} {l0 l1 l2 l3 : oV} {x0 x1 : oV} {a : Nat} {v : Option oV} {τ : oSg} {S : List oV} {σ : oSg} {Q : Option oV → (Nat → oC) → Prop} (hm : oMi d 16 [.inr (.inr (.inl a)), x0, x1] σ v τ) (hk : oKd a = some 4) (hs : oSmall S = true) : oE d 96 16 [l0, l1, l2, l3] (x1 :: x0 :: .inr (.inr (.inl a)) :: S) σ Q = oE d 96 19 [l0, l1, l2, l3] (v.toList ++ S) τ Q := pCallV f_96_16 ow_96 lk_4_23 mt_16 rfl rfl rfl hk hs hm
theorem f_96_19 : oFet 96 19 = some (.invokestatic 47, 3) := by decide +kernel
theorem s_96_19 {d : Nat} {l0 l1 l2 l3 : oV} {x y : Int} {S : List oV} {σ : oSg} {Q : Option oV → (Nat → oC) → Prop} (hs : oSmall S = true) : oE d 96 19 [l0, l1, l2, l3] (.inl y :: .inl x :: S) σ Q = oE d 96 22 [l0, l1, l2, l3] (.inl (if x < y then y else x) :: S) σ Q := pMax f_96_19 ow_96 lk_4_47 hs
theorem f_96_22 : oFet 96 22 = some (.istore_n 2, 1) := by decide +kernel
theorem s_96_22 {d : Nat} {l0 l1 l2 l3 : oV} {x : Int} {S : List oV} {σ : oSg} {Q : Option oV → (Nat → oC) → Prop} (c2 : oCat l2 = 1) (c1 : oCat l1 = 1)  : oE d 96 22 [l0, l1, l2, l3] (.inl x :: S) σ Q = oE d 96 23 [l0, l1, .inl x, l3] S σ Q := pSt (i := 2) f_96_22 rfl rfl (show (2 : Nat) < 4 by decide) (oC1n c1) (oC1n c2) rfl
theorem f_96_23 : oFet 96 23 = some (.iinc 3 1, 3) := by decide +kernel
theorem s_96_23 {d : Nat} {l0 l1 l2 : oV} {x : Int} {S : List oV} {σ : oSg} {Q : Option oV → (Nat → oC) → Prop} (c2 : oCat l2 = 1)  : oE d 96 23 [l0, l1, l2, .inl x] S σ Q = oE d 96 26 [l0, l1, l2, .inl (oAdd x (1))] S σ Q := pInc f_96_23 rfl (show (3 : Nat) < 4 by decide) (oC1n c2) (oC1n (v := .inl x) rfl) rfl
theorem f_96_26 : oFet 96 26 = some (.goto (-22), 3) := by decide +kernel
theorem s_96_26 {d : Nat} {l0 l1 l2 l3 : oV} {S : List oV} {σ : oSg} {Q : Option oV → (Nat → oC) → Prop} : oE d 96 26 [l0, l1, l2, l3] S σ Q = oE d 96 4 [l0, l1, l2, l3] S σ Q := pGoto f_96_26 (by decide)
theorem f_96_29 : oFet 96 29 = some (.iload_n 2, 1) := by decide +kernel
theorem s_96_29 {d : Nat} {l0 l1 l3 : oV} {x : Int} {S : List oV} {σ : oSg} {Q : Option oV → (Nat → oC) → Prop} : oE d 96 29 [l0, l1, .inl x, l3] S σ Q = oE d 96 30 [l0, l1, .inl x, l3] (.inl x :: S) σ Q := pLdN (k := 2) f_96_29 rfl rfl rfl
theorem f_96_30 : oFet 96 30 = some (.ireturn, 1) := by decide +kernel
theorem s_96_30 {d : Nat} {l0 l1 l2 l3 : oV} {x : Int} {σ : oSg} {Q : Option oV → (Nat → oC) → Prop} : oE d 96 30 [l0, l1, l2, l3] [.inl x] σ Q = Q (some (.inl x)) (oBld σ) := oIret f_96_30 rt_96
theorem ow_97 : (oMt 97).2.2.2.2.1 = 10 := by decide +kernel
theorem rt_97 : (oMt 97).2.2.2.1 = some .int := by decide +kernel
theorem nl_97 : (oMt 97).2.2.1 = 2 := by decide +kernel
theorem f_97_0 : oFet 97 0 = some (.iload_n 1, 1) := by decide +kernel
theorem s_97_0 {d : Nat} {l0 : oV} {x : Int} {S : List oV} {σ : oSg} {Q : Option oV → (Nat → oC) → Prop} : oE d 97 0 [l0, .inl x] S σ Q = oE d 97 1 [l0, .inl x] (.inl x :: S) σ Q := pLdN (k := 1) f_97_0 rfl rfl rfl
theorem f_97_1 : oFet 97 1 = some (.ifCond .ge 5, 3) := by decide +kernel
theorem s_97_1 {d : Nat} {l0 l1 : oV} {x : Int} {S : List oV} {σ : oSg} {Q : Option oV → (Nat → oC) → Prop} : oE d 97 1 [l0, l1] (.inl x :: S) σ Q = if 0 ≤ x then oE d 97 6 [l0, l1] S σ Q else oE d 97 4 [l0, l1] S σ Q := oIfGe f_97_1 (by decide)
theorem f_97_4 : oFet 97 4 = some (.iconst (-1), 1) := by decide +kernel
theorem s_97_4 {d : Nat} {l0 l1 : oV} {S : List oV} {σ : oSg} {Q : Option oV → (Nat → oC) → Prop} : oE d 97 4 [l0, l1] S σ Q = oE d 97 5 [l0, l1] (.inl (-1) :: S) σ Q := pKst f_97_4 (by decide)
theorem f_97_5 : oFet 97 5 = some (.ireturn, 1) := by decide +kernel
theorem s_97_5 {d : Nat} {l0 l1 : oV} {x : Int} {σ : oSg} {Q : Option oV → (Nat → oC) → Prop} : oE d 97 5 [l0, l1] [.inl x] σ Q = Q (some (.inl x)) (oBld σ) := oIret f_97_5 rt_97
theorem f_97_6 : oFet 97 6 = some (.iload_n 1, 1) := by decide +kernel
theorem s_97_6 {d : Nat} {l0 : oV} {x : Int} {S : List oV} {σ : oSg} {Q : Option oV → (Nat → oC) → Prop} : oE d 97 6 [l0, .inl x] S σ Q = oE d 97 7 [l0, .inl x] (.inl x :: S) σ Q := pLdN (k := 1) f_97_6 rfl rfl rfl
theorem f_97_7 : oFet 97 7 = some (.iconst 2, 1) := by decide +kernel
theorem s_97_7 {d : Nat} {l0 l1 : oV} {S : List oV} {σ : oSg} {Q : Option oV → (Nat → oC) → Prop} : oE d 97 7 [l0, l1] S σ Q = oE d 97 8 [l0, l1] (.inl (2) :: S) σ Q := pKst f_97_7 (by decide)
theorem f_97_8 : oFet 97 8 = some (.if_icmp .gt 17, 3) := by decide +kernel
theorem s_97_8 {d : Nat} {l0 l1 : oV} {x y : Int} {S : List oV} {σ : oSg} {Q : Option oV → (Nat → oC) → Prop} : oE d 97 8 [l0, l1] (.inl y :: .inl x :: S) σ Q = if y < x then oE d 97 25 [l0, l1] S σ Q else oE d 97 11 [l0, l1] S σ Q := oCmpGt f_97_8 (by decide)
theorem f_97_11 : oFet 97 11 = some (.aload_n 0, 1) := by decide +kernel
theorem s_97_11 {d : Nat} {l1 : oV} {a : Nat} {S : List oV} {σ : oSg} {Q : Option oV → (Nat → oC) → Prop} : oE d 97 11 [.inr (.inr (.inl a)), l1] S σ Q = oE d 97 12 [.inr (.inr (.inl a)), l1] (.inr (.inr (.inl a)) :: S) σ Q := pLdN (k := 0) f_97_11 rfl rfl rfl
theorem f_97_12 : oFet 97 12 = some (.getfield 69, 3) := by decide +kernel
theorem s_97_12 {d : Nat} {l0 l1 : oV} {a : Nat} {S : List oV} {σ : oSg} {Q : Option oV → (Nat → oC) → Prop} (hk : oKd a = some 10) : oE d 97 12 [l0, l1] (.inr (.inr (.inl a)) :: S) σ Q = oE d 97 15 [l0, l1] (.inr (.inr (.inl (oRf a 10))) :: S) σ Q := pGfR f_97_12 ow_97 fl_10_69 rfl (by decide) hk
theorem f_97_15 : oFet 97 15 = some (.aload_n 0, 1) := by decide +kernel
theorem s_97_15 {d : Nat} {l1 : oV} {a : Nat} {S : List oV} {σ : oSg} {Q : Option oV → (Nat → oC) → Prop} : oE d 97 15 [.inr (.inr (.inl a)), l1] S σ Q = oE d 97 16 [.inr (.inr (.inl a)), l1] (.inr (.inr (.inl a)) :: S) σ Q := pLdN (k := 0) f_97_15 rfl rfl rfl
theorem f_97_16 : oFet 97 16 = some (.getfield 12, 3) := by decide +kernel
theorem s_97_16 {d : Nat} {l0 l1 : oV} {a : Nat} {S : List oV} {σ : oSg} {Q : Option oV → (Nat → oC) → Prop} (hk : oKd a = some 10) : oE d 97 16 [l0, l1] (.inr (.inr (.inl a)) :: S) σ Q = oE d 97 19 [l0, l1] (.inr (.inr (.inl (oRf a 0))) :: S) σ Q := pGfR f_97_16 ow_97 fl_10_12 rfl (by decide) hk
theorem f_97_19 : oFet 97 19 = some (.invokevirtual 282, 3) := by decide +kernel
theorem c_97_19 {d : Nat} {l0 l1 : oV} {x0 : oV} {a : Nat} {v : Option oV} {τ : oSg} {S : List oV} {σ : oSg} {Q : Option oV → (Nat → oC) → Prop} (hm : oMi d 98 [.inr (.inr (.inl a)), x0] σ v τ) (hk : oKd a = some 6) (hs : oSmall S = true) : oE d 97 19 [l0, l1] (x0 :: .inr (.inr (.inl a)) :: S) σ Q = oE d 97 22 [l0, l1] (v.toList ++ S) τ Q := pCallV f_97_19 ow_97 lk_10_282 mt_98 rfl rfl rfl hk hs hm
theorem f_97_22 : oFet 97 22 = some (.ifCond .ne 6, 3) := by decide +kernel
theorem s_97_22 {d : Nat} {l0 l1 : oV} {x : Int} {S : List oV} {σ : oSg} {Q : Option oV → (Nat → oC) → Prop} : oE d 97 22 [l0, l1] (.inl x :: S) σ Q = if ¬ x = 0 then oE d 97 28 [l0, l1] S σ Q else oE d 97 25 [l0, l1] S σ Q := oIfNe f_97_22 (by decide)
theorem f_97_25 : oFet 97 25 = some (.bipush (-5), 2) := by decide +kernel
theorem s_97_25 {d : Nat} {l0 l1 : oV} {S : List oV} {σ : oSg} {Q : Option oV → (Nat → oC) → Prop} : oE d 97 25 [l0, l1] S σ Q = oE d 97 27 [l0, l1] (.inl (-5) :: S) σ Q := pBip f_97_25 (by decide)
theorem f_97_27 : oFet 97 27 = some (.ireturn, 1) := by decide +kernel
theorem s_97_27 {d : Nat} {l0 l1 : oV} {x : Int} {σ : oSg} {Q : Option oV → (Nat → oC) → Prop} : oE d 97 27 [l0, l1] [.inl x] σ Q = Q (some (.inl x)) (oBld σ) := oIret f_97_27 rt_97
theorem f_97_28 : oFet 97 28 = some (.iload_n 1, 1) := by decide +kernel
theorem s_97_28 {d : Nat} {l0 : oV} {x : Int} {S : List oV} {σ : oSg} {Q : Option oV → (Nat → oC) → Prop} : oE d 97 28 [l0, .inl x] S σ Q = oE d 97 29 [l0, .inl x] (.inl x :: S) σ Q := pLdN (k := 1) f_97_28 rfl rfl rfl
theorem f_97_29 : oFet 97 29 = some (.ifCond .ne 11, 3) := by decide +kernel
theorem s_97_29 {d : Nat} {l0 l1 : oV} {x : Int} {S : List oV} {σ : oSg} {Q : Option oV → (Nat → oC) → Prop} : oE d 97 29 [l0, l1] (.inl x :: S) σ Q = if ¬ x = 0 then oE d 97 40 [l0, l1] S σ Q else oE d 97 32 [l0, l1] S σ Q := oIfNe f_97_29 (by decide)
theorem f_97_32 : oFet 97 32 = some (.aload_n 0, 1) := by decide +kernel
theorem s_97_32 {d : Nat} {l1 : oV} {a : Nat} {S : List oV} {σ : oSg} {Q : Option oV → (Nat → oC) → Prop} : oE d 97 32 [.inr (.inr (.inl a)), l1] S σ Q = oE d 97 33 [.inr (.inr (.inl a)), l1] (.inr (.inr (.inl a)) :: S) σ Q := pLdN (k := 0) f_97_32 rfl rfl rfl
theorem f_97_33 : oFet 97 33 = some (.getfield 69, 3) := by decide +kernel
theorem s_97_33 {d : Nat} {l0 l1 : oV} {a : Nat} {S : List oV} {σ : oSg} {Q : Option oV → (Nat → oC) → Prop} (hk : oKd a = some 10) : oE d 97 33 [l0, l1] (.inr (.inr (.inl a)) :: S) σ Q = oE d 97 36 [l0, l1] (.inr (.inr (.inl (oRf a 10))) :: S) σ Q := pGfR f_97_33 ow_97 fl_10_69 rfl (by decide) hk
theorem f_97_36 : oFet 97 36 = some (.getfield 284, 3) := by decide +kernel
theorem s_97_36 {d : Nat} {l0 l1 : oV} {a : Nat} {S : List oV} {σ : oSg} {Q : Option oV → (Nat → oC) → Prop} (hk : oKd a = some 6) : oE d 97 36 [l0, l1] (.inr (.inr (.inl a)) :: S) σ Q = oE d 97 39 [l0, l1] (.inl (σ.1 a 0) :: S) σ Q := pGfI f_97_36 ow_97 fl_10_284 rfl (by decide) hk
theorem f_97_39 : oFet 97 39 = some (.ireturn, 1) := by decide +kernel
theorem s_97_39 {d : Nat} {l0 l1 : oV} {x : Int} {σ : oSg} {Q : Option oV → (Nat → oC) → Prop} : oE d 97 39 [l0, l1] [.inl x] σ Q = Q (some (.inl x)) (oBld σ) := oIret f_97_39 rt_97
theorem f_97_40 : oFet 97 40 = some (.iload_n 1, 1) := by decide +kernel
theorem s_97_40 {d : Nat} {l0 : oV} {x : Int} {S : List oV} {σ : oSg} {Q : Option oV → (Nat → oC) → Prop} : oE d 97 40 [l0, .inl x] S σ Q = oE d 97 41 [l0, .inl x] (.inl x :: S) σ Q := pLdN (k := 1) f_97_40 rfl rfl rfl
theorem f_97_41 : oFet 97 41 = some (.iconst 1, 1) := by decide +kernel
theorem s_97_41 {d : Nat} {l0 l1 : oV} {S : List oV} {σ : oSg} {Q : Option oV → (Nat → oC) → Prop} : oE d 97 41 [l0, l1] S σ Q = oE d 97 42 [l0, l1] (.inl (1) :: S) σ Q := pKst f_97_41 (by decide)
theorem f_97_42 : oFet 97 42 = some (.if_icmp .ne 13, 3) := by decide +kernel
theorem s_97_42 {d : Nat} {l0 l1 : oV} {x y : Int} {S : List oV} {σ : oSg} {Q : Option oV → (Nat → oC) → Prop} : oE d 97 42 [l0, l1] (.inl y :: .inl x :: S) σ Q = if ¬ x = y then oE d 97 55 [l0, l1] S σ Q else oE d 97 45 [l0, l1] S σ Q := oCmpNe f_97_42 (by decide)
theorem f_97_45 : oFet 97 45 = some (.aload_n 0, 1) := by decide +kernel
theorem s_97_45 {d : Nat} {l1 : oV} {a : Nat} {S : List oV} {σ : oSg} {Q : Option oV → (Nat → oC) → Prop} : oE d 97 45 [.inr (.inr (.inl a)), l1] S σ Q = oE d 97 46 [.inr (.inr (.inl a)), l1] (.inr (.inr (.inl a)) :: S) σ Q := pLdN (k := 0) f_97_45 rfl rfl rfl
theorem f_97_46 : oFet 97 46 = some (.getfield 69, 3) := by decide +kernel
theorem s_97_46 {d : Nat} {l0 l1 : oV} {a : Nat} {S : List oV} {σ : oSg} {Q : Option oV → (Nat → oC) → Prop} (hk : oKd a = some 10) : oE d 97 46 [l0, l1] (.inr (.inr (.inl a)) :: S) σ Q = oE d 97 49 [l0, l1] (.inr (.inr (.inl (oRf a 10))) :: S) σ Q := pGfR f_97_46 ow_97 fl_10_69 rfl (by decide) hk
theorem f_97_49 : oFet 97 49 = some (.getfield 287, 3) := by decide +kernel
theorem s_97_49 {d : Nat} {l0 l1 : oV} {a : Nat} {S : List oV} {σ : oSg} {Q : Option oV → (Nat → oC) → Prop} (hk : oKd a = some 6) : oE d 97 49 [l0, l1] (.inr (.inr (.inl a)) :: S) σ Q = oE d 97 52 [l0, l1] (.inl (σ.1 a 1) :: S) σ Q := pGfI f_97_49 ow_97 fl_10_287 rfl (by decide) hk
theorem f_97_52 : oFet 97 52 = some (.goto 10, 3) := by decide +kernel
theorem s_97_52 {d : Nat} {l0 l1 : oV} {S : List oV} {σ : oSg} {Q : Option oV → (Nat → oC) → Prop} : oE d 97 52 [l0, l1] S σ Q = oE d 97 62 [l0, l1] S σ Q := pGoto f_97_52 (by decide)
theorem f_97_55 : oFet 97 55 = some (.aload_n 0, 1) := by decide +kernel
theorem s_97_55 {d : Nat} {l1 : oV} {a : Nat} {S : List oV} {σ : oSg} {Q : Option oV → (Nat → oC) → Prop} : oE d 97 55 [.inr (.inr (.inl a)), l1] S σ Q = oE d 97 56 [.inr (.inr (.inl a)), l1] (.inr (.inr (.inl a)) :: S) σ Q := pLdN (k := 0) f_97_55 rfl rfl rfl
theorem f_97_56 : oFet 97 56 = some (.getfield 69, 3) := by decide +kernel
theorem s_97_56 {d : Nat} {l0 l1 : oV} {a : Nat} {S : List oV} {σ : oSg} {Q : Option oV → (Nat → oC) → Prop} (hk : oKd a = some 10) : oE d 97 56 [l0, l1] (.inr (.inr (.inl a)) :: S) σ Q = oE d 97 59 [l0, l1] (.inr (.inr (.inl (oRf a 10))) :: S) σ Q := pGfR f_97_56 ow_97 fl_10_69 rfl (by decide) hk
theorem f_97_59 : oFet 97 59 = some (.getfield 290, 3) := by decide +kernel
theorem s_97_59 {d : Nat} {l0 l1 : oV} {a : Nat} {S : List oV} {σ : oSg} {Q : Option oV → (Nat → oC) → Prop} (hk : oKd a = some 6) : oE d 97 59 [l0, l1] (.inr (.inr (.inl a)) :: S) σ Q = oE d 97 62 [l0, l1] (.inl (σ.1 a 2) :: S) σ Q := pGfI f_97_59 ow_97 fl_10_290 rfl (by decide) hk
theorem f_97_62 : oFet 97 62 = some (.ireturn, 1) := by decide +kernel
theorem s_97_62 {d : Nat} {l0 l1 : oV} {x : Int} {σ : oSg} {Q : Option oV → (Nat → oC) → Prop} : oE d 97 62 [l0, l1] [.inl x] σ Q = Q (some (.inl x)) (oBld σ) := oIret f_97_62 rt_97
theorem ow_98 : (oMt 98).2.2.2.2.1 = 6 := by decide +kernel
theorem rt_98 : (oMt 98).2.2.2.1 = some .boolean := by decide +kernel
theorem nl_98 : (oMt 98).2.2.1 = 2 := by decide +kernel
theorem f_98_0 : oFet 98 0 = some (.aload_n 0, 1) := by decide +kernel
theorem s_98_0 {d : Nat} {l1 : oV} {a : Nat} {S : List oV} {σ : oSg} {Q : Option oV → (Nat → oC) → Prop} : oE d 98 0 [.inr (.inr (.inl a)), l1] S σ Q = oE d 98 1 [.inr (.inr (.inl a)), l1] (.inr (.inr (.inl a)) :: S) σ Q := pLdN (k := 0) f_98_0 rfl rfl rfl
theorem f_98_1 : oFet 98 1 = some (.aload_n 1, 1) := by decide +kernel
theorem s_98_1 {d : Nat} {l0 : oV} {a : Nat} {S : List oV} {σ : oSg} {Q : Option oV → (Nat → oC) → Prop} : oE d 98 1 [l0, .inr (.inr (.inl a))] S σ Q = oE d 98 2 [l0, .inr (.inr (.inl a))] (.inr (.inr (.inl a)) :: S) σ Q := pLdN (k := 1) f_98_1 rfl rfl rfl
theorem f_98_2 : oFet 98 2 = some (.invokevirtual 7, 3) := by decide +kernel
theorem c_98_2 {d : Nat} {l0 l1 : oV} {x0 : oV} {a : Nat} {v : Option oV} {τ : oSg} {S : List oV} {σ : oSg} {Q : Option oV → (Nat → oC) → Prop} (hm : oMi d 99 [.inr (.inr (.inl a)), x0] σ v τ) (hk : oKd a = some 6) (hs : oSmall S = true) : oE d 98 2 [l0, l1] (x0 :: .inr (.inr (.inl a)) :: S) σ Q = oE d 98 5 [l0, l1] (v.toList ++ S) τ Q := pCallV f_98_2 ow_98 lk_6_7 mt_99 rfl rfl rfl hk hs hm
theorem f_98_5 : oFet 98 5 = some (.ifCond .ne 27, 3) := by decide +kernel
theorem s_98_5 {d : Nat} {l0 l1 : oV} {x : Int} {S : List oV} {σ : oSg} {Q : Option oV → (Nat → oC) → Prop} : oE d 98 5 [l0, l1] (.inl x :: S) σ Q = if ¬ x = 0 then oE d 98 32 [l0, l1] S σ Q else oE d 98 8 [l0, l1] S σ Q := oIfNe f_98_5 (by decide)
theorem f_98_8 : oFet 98 8 = some (.aload_n 0, 1) := by decide +kernel
theorem s_98_8 {d : Nat} {l1 : oV} {a : Nat} {S : List oV} {σ : oSg} {Q : Option oV → (Nat → oC) → Prop} : oE d 98 8 [.inr (.inr (.inl a)), l1] S σ Q = oE d 98 9 [.inr (.inr (.inl a)), l1] (.inr (.inr (.inl a)) :: S) σ Q := pLdN (k := 0) f_98_8 rfl rfl rfl
theorem f_98_9 : oFet 98 9 = some (.aload_n 1, 1) := by decide +kernel
theorem s_98_9 {d : Nat} {l0 : oV} {a : Nat} {S : List oV} {σ : oSg} {Q : Option oV → (Nat → oC) → Prop} : oE d 98 9 [l0, .inr (.inr (.inl a))] S σ Q = oE d 98 10 [l0, .inr (.inr (.inl a))] (.inr (.inr (.inl a)) :: S) σ Q := pLdN (k := 1) f_98_9 rfl rfl rfl
theorem f_98_10 : oFet 98 10 = some (.invokevirtual 13, 3) := by decide +kernel
theorem c_98_10 {d : Nat} {l0 l1 : oV} {x0 : oV} {a : Nat} {v : Option oV} {τ : oSg} {S : List oV} {σ : oSg} {Q : Option oV → (Nat → oC) → Prop} (hm : oMi d 101 [.inr (.inr (.inl a)), x0] σ v τ) (hk : oKd a = some 6) (hs : oSmall S = true) : oE d 98 10 [l0, l1] (x0 :: .inr (.inr (.inl a)) :: S) σ Q = oE d 98 13 [l0, l1] (v.toList ++ S) τ Q := pCallV f_98_10 ow_98 lk_6_13 mt_101 rfl rfl rfl hk hs hm
theorem f_98_13 : oFet 98 13 = some (.ifCond .ne 19, 3) := by decide +kernel
theorem s_98_13 {d : Nat} {l0 l1 : oV} {x : Int} {S : List oV} {σ : oSg} {Q : Option oV → (Nat → oC) → Prop} : oE d 98 13 [l0, l1] (.inl x :: S) σ Q = if ¬ x = 0 then oE d 98 32 [l0, l1] S σ Q else oE d 98 16 [l0, l1] S σ Q := oIfNe f_98_13 (by decide)
theorem f_98_16 : oFet 98 16 = some (.aload_n 0, 1) := by decide +kernel
theorem s_98_16 {d : Nat} {l1 : oV} {a : Nat} {S : List oV} {σ : oSg} {Q : Option oV → (Nat → oC) → Prop} : oE d 98 16 [.inr (.inr (.inl a)), l1] S σ Q = oE d 98 17 [.inr (.inr (.inl a)), l1] (.inr (.inr (.inl a)) :: S) σ Q := pLdN (k := 0) f_98_16 rfl rfl rfl
theorem f_98_17 : oFet 98 17 = some (.aload_n 1, 1) := by decide +kernel
theorem s_98_17 {d : Nat} {l0 : oV} {a : Nat} {S : List oV} {σ : oSg} {Q : Option oV → (Nat → oC) → Prop} : oE d 98 17 [l0, .inr (.inr (.inl a))] S σ Q = oE d 98 18 [l0, .inr (.inr (.inl a))] (.inr (.inr (.inl a)) :: S) σ Q := pLdN (k := 1) f_98_17 rfl rfl rfl
theorem f_98_18 : oFet 98 18 = some (.invokevirtual 16, 3) := by decide +kernel
theorem c_98_18 {d : Nat} {l0 l1 : oV} {x0 : oV} {a : Nat} {v : Option oV} {τ : oSg} {S : List oV} {σ : oSg} {Q : Option oV → (Nat → oC) → Prop} (hm : oMi d 102 [.inr (.inr (.inl a)), x0] σ v τ) (hk : oKd a = some 6) (hs : oSmall S = true) : oE d 98 18 [l0, l1] (x0 :: .inr (.inr (.inl a)) :: S) σ Q = oE d 98 21 [l0, l1] (v.toList ++ S) τ Q := pCallV f_98_18 ow_98 lk_6_16 mt_102 rfl rfl rfl hk hs hm
theorem f_98_21 : oFet 98 21 = some (.ifCond .ne 11, 3) := by decide +kernel
theorem s_98_21 {d : Nat} {l0 l1 : oV} {x : Int} {S : List oV} {σ : oSg} {Q : Option oV → (Nat → oC) → Prop} : oE d 98 21 [l0, l1] (.inl x :: S) σ Q = if ¬ x = 0 then oE d 98 32 [l0, l1] S σ Q else oE d 98 24 [l0, l1] S σ Q := oIfNe f_98_21 (by decide)
theorem f_98_24 : oFet 98 24 = some (.aload_n 0, 1) := by decide +kernel
theorem s_98_24 {d : Nat} {l1 : oV} {a : Nat} {S : List oV} {σ : oSg} {Q : Option oV → (Nat → oC) → Prop} : oE d 98 24 [.inr (.inr (.inl a)), l1] S σ Q = oE d 98 25 [.inr (.inr (.inl a)), l1] (.inr (.inr (.inl a)) :: S) σ Q := pLdN (k := 0) f_98_24 rfl rfl rfl
theorem f_98_25 : oFet 98 25 = some (.aload_n 1, 1) := by decide +kernel
theorem s_98_25 {d : Nat} {l0 : oV} {a : Nat} {S : List oV} {σ : oSg} {Q : Option oV → (Nat → oC) → Prop} : oE d 98 25 [l0, .inr (.inr (.inl a))] S σ Q = oE d 98 26 [l0, .inr (.inr (.inl a))] (.inr (.inr (.inl a)) :: S) σ Q := pLdN (k := 1) f_98_25 rfl rfl rfl
theorem f_98_26 : oFet 98 26 = some (.invokevirtual 19, 3) := by decide +kernel
theorem c_98_26 {d : Nat} {l0 l1 : oV} {x0 : oV} {a : Nat} {v : Option oV} {τ : oSg} {S : List oV} {σ : oSg} {Q : Option oV → (Nat → oC) → Prop} (hm : oMi d 103 [.inr (.inr (.inl a)), x0] σ v τ) (hk : oKd a = some 6) (hs : oSmall S = true) : oE d 98 26 [l0, l1] (x0 :: .inr (.inr (.inl a)) :: S) σ Q = oE d 98 29 [l0, l1] (v.toList ++ S) τ Q := pCallV f_98_26 ow_98 lk_6_19 mt_103 rfl rfl rfl hk hs hm
theorem f_98_29 : oFet 98 29 = some (.ifCond .eq 7, 3) := by decide +kernel
theorem s_98_29 {d : Nat} {l0 l1 : oV} {x : Int} {S : List oV} {σ : oSg} {Q : Option oV → (Nat → oC) → Prop} : oE d 98 29 [l0, l1] (.inl x :: S) σ Q = if x = 0 then oE d 98 36 [l0, l1] S σ Q else oE d 98 32 [l0, l1] S σ Q := oIfEq f_98_29 (by decide)
theorem f_98_32 : oFet 98 32 = some (.iconst 1, 1) := by decide +kernel
theorem s_98_32 {d : Nat} {l0 l1 : oV} {S : List oV} {σ : oSg} {Q : Option oV → (Nat → oC) → Prop} : oE d 98 32 [l0, l1] S σ Q = oE d 98 33 [l0, l1] (.inl (1) :: S) σ Q := pKst f_98_32 (by decide)
theorem f_98_33 : oFet 98 33 = some (.goto 4, 3) := by decide +kernel
theorem s_98_33 {d : Nat} {l0 l1 : oV} {S : List oV} {σ : oSg} {Q : Option oV → (Nat → oC) → Prop} : oE d 98 33 [l0, l1] S σ Q = oE d 98 37 [l0, l1] S σ Q := pGoto f_98_33 (by decide)
theorem f_98_36 : oFet 98 36 = some (.iconst 0, 1) := by decide +kernel
theorem s_98_36 {d : Nat} {l0 l1 : oV} {S : List oV} {σ : oSg} {Q : Option oV → (Nat → oC) → Prop} : oE d 98 36 [l0, l1] S σ Q = oE d 98 37 [l0, l1] (.inl (0) :: S) σ Q := pKst f_98_36 (by decide)
theorem f_98_37 : oFet 98 37 = some (.ireturn, 1) := by decide +kernel
theorem s_98_37 {d : Nat} {l0 l1 : oV} {x : Int} {σ : oSg} {Q : Option oV → (Nat → oC) → Prop} (hx : x = 0 ∨ x = 1) : oE d 98 37 [l0, l1] [.inl x] σ Q = Q (some (.inl x)) (oBld σ) := oZret f_98_37 rt_98 hx
theorem ow_99 : (oMt 99).2.2.2.2.1 = 6 := by decide +kernel
theorem rt_99 : (oMt 99).2.2.2.1 = some .boolean := by decide +kernel
theorem nl_99 : (oMt 99).2.2.1 = 5 := by decide +kernel
theorem f_99_0 : oFet 99 0 = some (.iconst 0, 1) := by decide +kernel
theorem s_99_0 {d : Nat} {l0 l1 l2 l3 l4 : oV} {S : List oV} {σ : oSg} {Q : Option oV → (Nat → oC) → Prop} : oE d 99 0 [l0, l1, l2, l3, l4] S σ Q = oE d 99 1 [l0, l1, l2, l3, l4] (.inl (0) :: S) σ Q := pKst f_99_0 (by decide)
theorem f_99_1 : oFet 99 1 = some (.istore_n 2, 1) := by decide +kernel
theorem s_99_1 {d : Nat} {l0 l1 l2 l3 l4 : oV} {x : Int} {S : List oV} {σ : oSg} {Q : Option oV → (Nat → oC) → Prop} (c2 : oCat l2 = 1) (c1 : oCat l1 = 1)  : oE d 99 1 [l0, l1, l2, l3, l4] (.inl x :: S) σ Q = oE d 99 2 [l0, l1, .inl x, l3, l4] S σ Q := pSt (i := 2) f_99_1 rfl rfl (show (2 : Nat) < 5 by decide) (oC1n c1) (oC1n c2) rfl
theorem f_99_2 : oFet 99 2 = some (.iload_n 2, 1) := by decide +kernel
theorem s_99_2 {d : Nat} {l0 l1 l3 l4 : oV} {x : Int} {S : List oV} {σ : oSg} {Q : Option oV → (Nat → oC) → Prop} : oE d 99 2 [l0, l1, .inl x, l3, l4] S σ Q = oE d 99 3 [l0, l1, .inl x, l3, l4] (.inl x :: S) σ Q := pLdN (k := 2) f_99_2 rfl rfl rfl
theorem f_99_3 : oFet 99 3 = some (.aload_n 1, 1) := by decide +kernel
theorem s_99_3 {d : Nat} {l0 l2 l3 l4 : oV} {a : Nat} {S : List oV} {σ : oSg} {Q : Option oV → (Nat → oC) → Prop} : oE d 99 3 [l0, .inr (.inr (.inl a)), l2, l3, l4] S σ Q = oE d 99 4 [l0, .inr (.inr (.inl a)), l2, l3, l4] (.inr (.inr (.inl a)) :: S) σ Q := pLdN (k := 1) f_99_3 rfl rfl rfl
theorem f_99_4 : oFet 99 4 = some (.getfield 32, 3) := by decide +kernel
theorem s_99_4 {d : Nat} {l0 l1 l2 l3 l4 : oV} {a : Nat} {S : List oV} {σ : oSg} {Q : Option oV → (Nat → oC) → Prop} (hk : oKd a = some 1) : oE d 99 4 [l0, l1, l2, l3, l4] (.inr (.inr (.inl a)) :: S) σ Q = oE d 99 7 [l0, l1, l2, l3, l4] (.inr (.inr (.inl (oRf a 0))) :: S) σ Q := pGfR f_99_4 ow_99 fl_6_32 rfl (by decide) hk
theorem f_99_7 : oFet 99 7 = some (.getfield 38, 3) := by decide +kernel
theorem s_99_7 {d : Nat} {l0 l1 l2 l3 l4 : oV} {a : Nat} {S : List oV} {σ : oSg} {Q : Option oV → (Nat → oC) → Prop} (hk : oKd a = some 4) : oE d 99 7 [l0, l1, l2, l3, l4] (.inr (.inr (.inl a)) :: S) σ Q = oE d 99 10 [l0, l1, l2, l3, l4] (.inl (σ.1 a 0) :: S) σ Q := pGfI f_99_7 ow_99 fl_6_38 rfl (by decide) hk
theorem f_99_10 : oFet 99 10 = some (.if_icmp .ge 70, 3) := by decide +kernel
theorem s_99_10 {d : Nat} {l0 l1 l2 l3 l4 : oV} {x y : Int} {S : List oV} {σ : oSg} {Q : Option oV → (Nat → oC) → Prop} : oE d 99 10 [l0, l1, l2, l3, l4] (.inl y :: .inl x :: S) σ Q = if y ≤ x then oE d 99 80 [l0, l1, l2, l3, l4] S σ Q else oE d 99 13 [l0, l1, l2, l3, l4] S σ Q := oCmpGe f_99_10 (by decide)
theorem f_99_13 : oFet 99 13 = some (.iload_n 2, 1) := by decide +kernel
theorem s_99_13 {d : Nat} {l0 l1 l3 l4 : oV} {x : Int} {S : List oV} {σ : oSg} {Q : Option oV → (Nat → oC) → Prop} : oE d 99 13 [l0, l1, .inl x, l3, l4] S σ Q = oE d 99 14 [l0, l1, .inl x, l3, l4] (.inl x :: S) σ Q := pLdN (k := 2) f_99_13 rfl rfl rfl
theorem f_99_14 : oFet 99 14 = some (.iconst 1, 1) := by decide +kernel
theorem s_99_14 {d : Nat} {l0 l1 l2 l3 l4 : oV} {S : List oV} {σ : oSg} {Q : Option oV → (Nat → oC) → Prop} : oE d 99 14 [l0, l1, l2, l3, l4] S σ Q = oE d 99 15 [l0, l1, l2, l3, l4] (.inl (1) :: S) σ Q := pKst f_99_14 (by decide)
theorem f_99_15 : oFet 99 15 = some (.iadd, 1) := by decide +kernel
theorem s_99_15 {d : Nat} {l0 l1 l2 l3 l4 : oV} {x y : Int} {S : List oV} {σ : oSg} {Q : Option oV → (Nat → oC) → Prop} : oE d 99 15 [l0, l1, l2, l3, l4] (.inl y :: .inl x :: S) σ Q = oE d 99 16 [l0, l1, l2, l3, l4] (.inl (oAdd x y) :: S) σ Q := oS3 f_99_15 rfl rfl rfl
theorem f_99_16 : oFet 99 16 = some (.istore_n 3, 1) := by decide +kernel
theorem s_99_16 {d : Nat} {l0 l1 l2 l3 l4 : oV} {x : Int} {S : List oV} {σ : oSg} {Q : Option oV → (Nat → oC) → Prop} (c3 : oCat l3 = 1) (c2 : oCat l2 = 1)  : oE d 99 16 [l0, l1, l2, l3, l4] (.inl x :: S) σ Q = oE d 99 17 [l0, l1, l2, .inl x, l4] S σ Q := pSt (i := 3) f_99_16 rfl rfl (show (3 : Nat) < 5 by decide) (oC1n c2) (oC1n c3) rfl
theorem f_99_17 : oFet 99 17 = some (.iload_n 3, 1) := by decide +kernel
theorem s_99_17 {d : Nat} {l0 l1 l2 l4 : oV} {x : Int} {S : List oV} {σ : oSg} {Q : Option oV → (Nat → oC) → Prop} : oE d 99 17 [l0, l1, l2, .inl x, l4] S σ Q = oE d 99 18 [l0, l1, l2, .inl x, l4] (.inl x :: S) σ Q := pLdN (k := 3) f_99_17 rfl rfl rfl
theorem f_99_18 : oFet 99 18 = some (.aload_n 1, 1) := by decide +kernel
theorem s_99_18 {d : Nat} {l0 l2 l3 l4 : oV} {a : Nat} {S : List oV} {σ : oSg} {Q : Option oV → (Nat → oC) → Prop} : oE d 99 18 [l0, .inr (.inr (.inl a)), l2, l3, l4] S σ Q = oE d 99 19 [l0, .inr (.inr (.inl a)), l2, l3, l4] (.inr (.inr (.inl a)) :: S) σ Q := pLdN (k := 1) f_99_18 rfl rfl rfl
theorem f_99_19 : oFet 99 19 = some (.getfield 32, 3) := by decide +kernel
theorem s_99_19 {d : Nat} {l0 l1 l2 l3 l4 : oV} {a : Nat} {S : List oV} {σ : oSg} {Q : Option oV → (Nat → oC) → Prop} (hk : oKd a = some 1) : oE d 99 19 [l0, l1, l2, l3, l4] (.inr (.inr (.inl a)) :: S) σ Q = oE d 99 22 [l0, l1, l2, l3, l4] (.inr (.inr (.inl (oRf a 0))) :: S) σ Q := pGfR f_99_19 ow_99 fl_6_32 rfl (by decide) hk
theorem f_99_22 : oFet 99 22 = some (.getfield 38, 3) := by decide +kernel
theorem s_99_22 {d : Nat} {l0 l1 l2 l3 l4 : oV} {a : Nat} {S : List oV} {σ : oSg} {Q : Option oV → (Nat → oC) → Prop} (hk : oKd a = some 4) : oE d 99 22 [l0, l1, l2, l3, l4] (.inr (.inr (.inl a)) :: S) σ Q = oE d 99 25 [l0, l1, l2, l3, l4] (.inl (σ.1 a 0) :: S) σ Q := pGfI f_99_22 ow_99 fl_6_38 rfl (by decide) hk
theorem f_99_25 : oFet 99 25 = some (.if_icmp .ge 49, 3) := by decide +kernel
theorem s_99_25 {d : Nat} {l0 l1 l2 l3 l4 : oV} {x y : Int} {S : List oV} {σ : oSg} {Q : Option oV → (Nat → oC) → Prop} : oE d 99 25 [l0, l1, l2, l3, l4] (.inl y :: .inl x :: S) σ Q = if y ≤ x then oE d 99 74 [l0, l1, l2, l3, l4] S σ Q else oE d 99 28 [l0, l1, l2, l3, l4] S σ Q := oCmpGe f_99_25 (by decide)
theorem f_99_28 : oFet 99 28 = some (.aload_n 1, 1) := by decide +kernel
theorem s_99_28 {d : Nat} {l0 l2 l3 l4 : oV} {a : Nat} {S : List oV} {σ : oSg} {Q : Option oV → (Nat → oC) → Prop} : oE d 99 28 [l0, .inr (.inr (.inl a)), l2, l3, l4] S σ Q = oE d 99 29 [l0, .inr (.inr (.inl a)), l2, l3, l4] (.inr (.inr (.inl a)) :: S) σ Q := pLdN (k := 1) f_99_28 rfl rfl rfl
theorem f_99_29 : oFet 99 29 = some (.iload_n 2, 1) := by decide +kernel
theorem s_99_29 {d : Nat} {l0 l1 l3 l4 : oV} {x : Int} {S : List oV} {σ : oSg} {Q : Option oV → (Nat → oC) → Prop} : oE d 99 29 [l0, l1, .inl x, l3, l4] S σ Q = oE d 99 30 [l0, l1, .inl x, l3, l4] (.inl x :: S) σ Q := pLdN (k := 2) f_99_29 rfl rfl rfl
theorem f_99_30 : oFet 99 30 = some (.iload_n 3, 1) := by decide +kernel
theorem s_99_30 {d : Nat} {l0 l1 l2 l4 : oV} {x : Int} {S : List oV} {σ : oSg} {Q : Option oV → (Nat → oC) → Prop} : oE d 99 30 [l0, l1, l2, .inl x, l4] S σ Q = oE d 99 31 [l0, l1, l2, .inl x, l4] (.inl x :: S) σ Q := pLdN (k := 3) f_99_30 rfl rfl rfl
theorem f_99_31 : oFet 99 31 = some (.invokevirtual 43, 3) := by decide +kernel
theorem c_99_31 {d : Nat} {l0 l1 l2 l3 l4 : oV} {x0 x1 : oV} {a : Nat} {v : Option oV} {τ : oSg} {S : List oV} {σ : oSg} {Q : Option oV → (Nat → oC) → Prop} (hm : oMi d 79 [.inr (.inr (.inl a)), x0, x1] σ v τ) (hk : oKd a = some 1) (hs : oSmall S = true) : oE d 99 31 [l0, l1, l2, l3, l4] (x1 :: x0 :: .inr (.inr (.inl a)) :: S) σ Q = oE d 99 34 [l0, l1, l2, l3, l4] (v.toList ++ S) τ Q := pCallV f_99_31 ow_99 lk_6_43 mt_79 rfl rfl rfl hk hs hm
theorem f_99_34 : oFet 99 34 = some (.istore 4, 2) := by decide +kernel
theorem s_99_34 {d : Nat} {l0 l1 l2 l3 l4 : oV} {x : Int} {S : List oV} {σ : oSg} {Q : Option oV → (Nat → oC) → Prop} (c4 : oCat l4 = 1) (c3 : oCat l3 = 1)  : oE d 99 34 [l0, l1, l2, l3, l4] (.inl x :: S) σ Q = oE d 99 36 [l0, l1, l2, l3, .inl x] S σ Q := pSt (i := 4) f_99_34 rfl rfl (show (4 : Nat) < 5 by decide) (oC1n c3) (oC1n c4) rfl
theorem f_99_36 : oFet 99 36 = some (.aload_n 1, 1) := by decide +kernel
theorem s_99_36 {d : Nat} {l0 l2 l3 l4 : oV} {a : Nat} {S : List oV} {σ : oSg} {Q : Option oV → (Nat → oC) → Prop} : oE d 99 36 [l0, .inr (.inr (.inl a)), l2, l3, l4] S σ Q = oE d 99 37 [l0, .inr (.inr (.inl a)), l2, l3, l4] (.inr (.inr (.inl a)) :: S) σ Q := pLdN (k := 1) f_99_36 rfl rfl rfl
theorem f_99_37 : oFet 99 37 = some (.getfield 32, 3) := by decide +kernel
theorem s_99_37 {d : Nat} {l0 l1 l2 l3 l4 : oV} {a : Nat} {S : List oV} {σ : oSg} {Q : Option oV → (Nat → oC) → Prop} (hk : oKd a = some 1) : oE d 99 37 [l0, l1, l2, l3, l4] (.inr (.inr (.inl a)) :: S) σ Q = oE d 99 40 [l0, l1, l2, l3, l4] (.inr (.inr (.inl (oRf a 0))) :: S) σ Q := pGfR f_99_37 ow_99 fl_6_32 rfl (by decide) hk
theorem f_99_40 : oFet 99 40 = some (.iload_n 2, 1) := by decide +kernel
theorem s_99_40 {d : Nat} {l0 l1 l3 l4 : oV} {x : Int} {S : List oV} {σ : oSg} {Q : Option oV → (Nat → oC) → Prop} : oE d 99 40 [l0, l1, .inl x, l3, l4] S σ Q = oE d 99 41 [l0, l1, .inl x, l3, l4] (.inl x :: S) σ Q := pLdN (k := 2) f_99_40 rfl rfl rfl
theorem f_99_41 : oFet 99 41 = some (.iload_n 3, 1) := by decide +kernel
theorem s_99_41 {d : Nat} {l0 l1 l2 l4 : oV} {x : Int} {S : List oV} {σ : oSg} {Q : Option oV → (Nat → oC) → Prop} : oE d 99 41 [l0, l1, l2, .inl x, l4] S σ Q = oE d 99 42 [l0, l1, l2, .inl x, l4] (.inl x :: S) σ Q := pLdN (k := 3) f_99_41 rfl rfl rfl
theorem f_99_42 : oFet 99 42 = some (.invokevirtual 47, 3) := by decide +kernel
theorem c_99_42 {d : Nat} {l0 l1 l2 l3 l4 : oV} {x0 x1 : oV} {a : Nat} {v : Option oV} {τ : oSg} {S : List oV} {σ : oSg} {Q : Option oV → (Nat → oC) → Prop} (hm : oMi d 22 [.inr (.inr (.inl a)), x0, x1] σ v τ) (hk : oKd a = some 4) (hs : oSmall S = true) : oE d 99 42 [l0, l1, l2, l3, l4] (x1 :: x0 :: .inr (.inr (.inl a)) :: S) σ Q = oE d 99 45 [l0, l1, l2, l3, l4] (v.toList ++ S) τ Q := pCallV f_99_42 ow_99 lk_6_47 mt_22 rfl rfl rfl hk hs hm
theorem f_99_45 : oFet 99 45 = some (.ifCond .eq 23, 3) := by decide +kernel
theorem s_99_45 {d : Nat} {l0 l1 l2 l3 l4 : oV} {x : Int} {S : List oV} {σ : oSg} {Q : Option oV → (Nat → oC) → Prop} : oE d 99 45 [l0, l1, l2, l3, l4] (.inl x :: S) σ Q = if x = 0 then oE d 99 68 [l0, l1, l2, l3, l4] S σ Q else oE d 99 48 [l0, l1, l2, l3, l4] S σ Q := oIfEq f_99_45 (by decide)
theorem f_99_48 : oFet 99 48 = some (.iload 4, 2) := by decide +kernel
theorem s_99_48 {d : Nat} {l0 l1 l2 l3 : oV} {x : Int} {S : List oV} {σ : oSg} {Q : Option oV → (Nat → oC) → Prop} : oE d 99 48 [l0, l1, l2, l3, .inl x] S σ Q = oE d 99 50 [l0, l1, l2, l3, .inl x] (.inl x :: S) σ Q := pLd (i := 4) f_99_48 rfl rfl rfl
theorem f_99_50 : oFet 99 50 = some (.ifCond .ge 18, 3) := by decide +kernel
theorem s_99_50 {d : Nat} {l0 l1 l2 l3 l4 : oV} {x : Int} {S : List oV} {σ : oSg} {Q : Option oV → (Nat → oC) → Prop} : oE d 99 50 [l0, l1, l2, l3, l4] (.inl x :: S) σ Q = if 0 ≤ x then oE d 99 68 [l0, l1, l2, l3, l4] S σ Q else oE d 99 53 [l0, l1, l2, l3, l4] S σ Q := oIfGe f_99_50 (by decide)
theorem f_99_53 : oFet 99 53 = some (.aload_n 0, 1) := by decide +kernel
theorem s_99_53 {d : Nat} {l1 l2 l3 l4 : oV} {a : Nat} {S : List oV} {σ : oSg} {Q : Option oV → (Nat → oC) → Prop} : oE d 99 53 [.inr (.inr (.inl a)), l1, l2, l3, l4] S σ Q = oE d 99 54 [.inr (.inr (.inl a)), l1, l2, l3, l4] (.inr (.inr (.inl a)) :: S) σ Q := pLdN (k := 0) f_99_53 rfl rfl rfl
theorem f_99_54 : oFet 99 54 = some (.iconst 1, 1) := by decide +kernel
theorem s_99_54 {d : Nat} {l0 l1 l2 l3 l4 : oV} {S : List oV} {σ : oSg} {Q : Option oV → (Nat → oC) → Prop} : oE d 99 54 [l0, l1, l2, l3, l4] S σ Q = oE d 99 55 [l0, l1, l2, l3, l4] (.inl (1) :: S) σ Q := pKst f_99_54 (by decide)
theorem f_99_55 : oFet 99 55 = some (.bipush 10, 2) := by decide +kernel
theorem s_99_55 {d : Nat} {l0 l1 l2 l3 l4 : oV} {S : List oV} {σ : oSg} {Q : Option oV → (Nat → oC) → Prop} : oE d 99 55 [l0, l1, l2, l3, l4] S σ Q = oE d 99 57 [l0, l1, l2, l3, l4] (.inl (10) :: S) σ Q := pBip f_99_55 (by decide)
theorem f_99_57 : oFet 99 57 = some (.iload_n 2, 1) := by decide +kernel
theorem s_99_57 {d : Nat} {l0 l1 l3 l4 : oV} {x : Int} {S : List oV} {σ : oSg} {Q : Option oV → (Nat → oC) → Prop} : oE d 99 57 [l0, l1, .inl x, l3, l4] S σ Q = oE d 99 58 [l0, l1, .inl x, l3, l4] (.inl x :: S) σ Q := pLdN (k := 2) f_99_57 rfl rfl rfl
theorem f_99_58 : oFet 99 58 = some (.imul, 1) := by decide +kernel
theorem s_99_58 {d : Nat} {l0 l1 l2 l3 l4 : oV} {x y : Int} {S : List oV} {σ : oSg} {Q : Option oV → (Nat → oC) → Prop} : oE d 99 58 [l0, l1, l2, l3, l4] (.inl y :: .inl x :: S) σ Q = oE d 99 59 [l0, l1, l2, l3, l4] (.inl (oMul x y) :: S) σ Q := oS3 f_99_58 rfl rfl rfl
theorem f_99_59 : oFet 99 59 = some (.iload_n 3, 1) := by decide +kernel
theorem s_99_59 {d : Nat} {l0 l1 l2 l4 : oV} {x : Int} {S : List oV} {σ : oSg} {Q : Option oV → (Nat → oC) → Prop} : oE d 99 59 [l0, l1, l2, .inl x, l4] S σ Q = oE d 99 60 [l0, l1, l2, .inl x, l4] (.inl x :: S) σ Q := pLdN (k := 3) f_99_59 rfl rfl rfl
theorem f_99_60 : oFet 99 60 = some (.iadd, 1) := by decide +kernel
theorem s_99_60 {d : Nat} {l0 l1 l2 l3 l4 : oV} {x y : Int} {S : List oV} {σ : oSg} {Q : Option oV → (Nat → oC) → Prop} : oE d 99 60 [l0, l1, l2, l3, l4] (.inl y :: .inl x :: S) σ Q = oE d 99 61 [l0, l1, l2, l3, l4] (.inl (oAdd x y) :: S) σ Q := oS3 f_99_60 rfl rfl rfl
theorem f_99_61 : oFet 99 61 = some (.iload 4, 2) := by decide +kernel
theorem s_99_61 {d : Nat} {l0 l1 l2 l3 : oV} {x : Int} {S : List oV} {σ : oSg} {Q : Option oV → (Nat → oC) → Prop} : oE d 99 61 [l0, l1, l2, l3, .inl x] S σ Q = oE d 99 63 [l0, l1, l2, l3, .inl x] (.inl x :: S) σ Q := pLd (i := 4) f_99_61 rfl rfl rfl
theorem f_99_63 : oFet 99 63 = some (.ineg, 1) := by decide +kernel
theorem s_99_63 {d : Nat} {l0 l1 l2 l3 l4 : oV} {x : Int} {S : List oV} {σ : oSg} {Q : Option oV → (Nat → oC) → Prop} : oE d 99 63 [l0, l1, l2, l3, l4] (.inl x :: S) σ Q = oE d 99 64 [l0, l1, l2, l3, l4] (.inl (oNeg x) :: S) σ Q := oS3 f_99_63 rfl rfl rfl
theorem f_99_64 : oFet 99 64 = some (.invokevirtual 51, 3) := by decide +kernel
theorem c_99_64 {d : Nat} {l0 l1 l2 l3 l4 : oV} {x0 x1 x2 : oV} {a : Nat} {v : Option oV} {τ : oSg} {S : List oV} {σ : oSg} {Q : Option oV → (Nat → oC) → Prop} (hm : oMi d 100 [.inr (.inr (.inl a)), x0, x1, x2] σ v τ) (hk : oKd a = some 6) (hs : oSmall S = true) : oE d 99 64 [l0, l1, l2, l3, l4] (x2 :: x1 :: x0 :: .inr (.inr (.inl a)) :: S) σ Q = oE d 99 67 [l0, l1, l2, l3, l4] (v.toList ++ S) τ Q := pCallV f_99_64 ow_99 lk_6_51 mt_100 rfl rfl rfl hk hs hm
theorem f_99_67 : oFet 99 67 = some (.ireturn, 1) := by decide +kernel
theorem s_99_67 {d : Nat} {l0 l1 l2 l3 l4 : oV} {x : Int} {σ : oSg} {Q : Option oV → (Nat → oC) → Prop} (hx : x = 0 ∨ x = 1) : oE d 99 67 [l0, l1, l2, l3, l4] [.inl x] σ Q = Q (some (.inl x)) (oBld σ) := oZret f_99_67 rt_99 hx
theorem f_99_68 : oFet 99 68 = some (.iinc 3 1, 3) := by decide +kernel
theorem s_99_68 {d : Nat} {l0 l1 l2 l4 : oV} {x : Int} {S : List oV} {σ : oSg} {Q : Option oV → (Nat → oC) → Prop} (c2 : oCat l2 = 1)  : oE d 99 68 [l0, l1, l2, .inl x, l4] S σ Q = oE d 99 71 [l0, l1, l2, .inl (oAdd x (1)), l4] S σ Q := pInc f_99_68 rfl (show (3 : Nat) < 5 by decide) (oC1n c2) (oC1n (v := .inl x) rfl) rfl
theorem f_99_71 : oFet 99 71 = some (.goto (-54), 3) := by decide +kernel
theorem s_99_71 {d : Nat} {l0 l1 l2 l3 l4 : oV} {S : List oV} {σ : oSg} {Q : Option oV → (Nat → oC) → Prop} : oE d 99 71 [l0, l1, l2, l3, l4] S σ Q = oE d 99 17 [l0, l1, l2, l3, l4] S σ Q := pGoto f_99_71 (by decide)
theorem f_99_74 : oFet 99 74 = some (.iinc 2 1, 3) := by decide +kernel
theorem s_99_74 {d : Nat} {l0 l1 l3 l4 : oV} {x : Int} {S : List oV} {σ : oSg} {Q : Option oV → (Nat → oC) → Prop} (c1 : oCat l1 = 1)  : oE d 99 74 [l0, l1, .inl x, l3, l4] S σ Q = oE d 99 77 [l0, l1, .inl (oAdd x (1)), l3, l4] S σ Q := pInc f_99_74 rfl (show (2 : Nat) < 5 by decide) (oC1n c1) (oC1n (v := .inl x) rfl) rfl
theorem f_99_77 : oFet 99 77 = some (.goto (-75), 3) := by decide +kernel
theorem s_99_77 {d : Nat} {l0 l1 l2 l3 l4 : oV} {S : List oV} {σ : oSg} {Q : Option oV → (Nat → oC) → Prop} : oE d 99 77 [l0, l1, l2, l3, l4] S σ Q = oE d 99 2 [l0, l1, l2, l3, l4] S σ Q := pGoto f_99_77 (by decide)
theorem f_99_80 : oFet 99 80 = some (.iconst 0, 1) := by decide +kernel
theorem s_99_80 {d : Nat} {l0 l1 l2 l3 l4 : oV} {S : List oV} {σ : oSg} {Q : Option oV → (Nat → oC) → Prop} : oE d 99 80 [l0, l1, l2, l3, l4] S σ Q = oE d 99 81 [l0, l1, l2, l3, l4] (.inl (0) :: S) σ Q := pKst f_99_80 (by decide)
theorem f_99_81 : oFet 99 81 = some (.ireturn, 1) := by decide +kernel
theorem s_99_81 {d : Nat} {l0 l1 l2 l3 l4 : oV} {x : Int} {σ : oSg} {Q : Option oV → (Nat → oC) → Prop} (hx : x = 0 ∨ x = 1) : oE d 99 81 [l0, l1, l2, l3, l4] [.inl x] σ Q = Q (some (.inl x)) (oBld σ) := oZret f_99_81 rt_99 hx
theorem ow_100 : (oMt 100).2.2.2.2.1 = 6 := by decide +kernel
theorem rt_100 : (oMt 100).2.2.2.1 = some .boolean := by decide +kernel
theorem nl_100 : (oMt 100).2.2.1 = 4 := by decide +kernel
theorem f_100_0 : oFet 100 0 = some (.aload_n 0, 1) := by decide +kernel
theorem s_100_0 {d : Nat} {l1 l2 l3 : oV} {a : Nat} {S : List oV} {σ : oSg} {Q : Option oV → (Nat → oC) → Prop} : oE d 100 0 [.inr (.inr (.inl a)), l1, l2, l3] S σ Q = oE d 100 1 [.inr (.inr (.inl a)), l1, l2, l3] (.inr (.inr (.inl a)) :: S) σ Q := pLdN (k := 0) f_100_0 rfl rfl rfl
theorem f_100_1 : oFet 100 1 = some (.iload_n 1, 1) := by decide +kernel
theorem s_100_1 {d : Nat} {l0 l2 l3 : oV} {x : Int} {S : List oV} {σ : oSg} {Q : Option oV → (Nat → oC) → Prop} : oE d 100 1 [l0, .inl x, l2, l3] S σ Q = oE d 100 2 [l0, .inl x, l2, l3] (.inl x :: S) σ Q := pLdN (k := 1) f_100_1 rfl rfl rfl
theorem f_100_2 : oFet 100 2 = some (.putfield 22, 3) := by decide +kernel
theorem s_100_2 {d : Nat} {l0 l1 l2 l3 : oV} {a : Nat} {v : Int} {S : List oV} {σ : oSg} {Q : Option oV → (Nat → oC) → Prop} (hk : oKd a = some 6) : oE d 100 2 [l0, l1, l2, l3] (.inl v :: .inr (.inr (.inl a)) :: S) σ Q = oE d 100 5 [l0, l1, l2, l3] S (oSF σ a 0 v) Q := pPfI f_100_2 ow_100 fl_6_22 rfl (by decide) rfl rfl hk
theorem f_100_5 : oFet 100 5 = some (.aload_n 0, 1) := by decide +kernel
theorem s_100_5 {d : Nat} {l1 l2 l3 : oV} {a : Nat} {S : List oV} {σ : oSg} {Q : Option oV → (Nat → oC) → Prop} : oE d 100 5 [.inr (.inr (.inl a)), l1, l2, l3] S σ Q = oE d 100 6 [.inr (.inr (.inl a)), l1, l2, l3] (.inr (.inr (.inl a)) :: S) σ Q := pLdN (k := 0) f_100_5 rfl rfl rfl
theorem f_100_6 : oFet 100 6 = some (.iload_n 2, 1) := by decide +kernel
theorem s_100_6 {d : Nat} {l0 l1 l3 : oV} {x : Int} {S : List oV} {σ : oSg} {Q : Option oV → (Nat → oC) → Prop} : oE d 100 6 [l0, l1, .inl x, l3] S σ Q = oE d 100 7 [l0, l1, .inl x, l3] (.inl x :: S) σ Q := pLdN (k := 2) f_100_6 rfl rfl rfl
theorem f_100_7 : oFet 100 7 = some (.putfield 26, 3) := by decide +kernel
theorem s_100_7 {d : Nat} {l0 l1 l2 l3 : oV} {a : Nat} {v : Int} {S : List oV} {σ : oSg} {Q : Option oV → (Nat → oC) → Prop} (hk : oKd a = some 6) : oE d 100 7 [l0, l1, l2, l3] (.inl v :: .inr (.inr (.inl a)) :: S) σ Q = oE d 100 10 [l0, l1, l2, l3] S (oSF σ a 1 v) Q := pPfI f_100_7 ow_100 fl_6_26 rfl (by decide) rfl rfl hk
theorem f_100_10 : oFet 100 10 = some (.aload_n 0, 1) := by decide +kernel
theorem s_100_10 {d : Nat} {l1 l2 l3 : oV} {a : Nat} {S : List oV} {σ : oSg} {Q : Option oV → (Nat → oC) → Prop} : oE d 100 10 [.inr (.inr (.inl a)), l1, l2, l3] S σ Q = oE d 100 11 [.inr (.inr (.inl a)), l1, l2, l3] (.inr (.inr (.inl a)) :: S) σ Q := pLdN (k := 0) f_100_10 rfl rfl rfl
theorem f_100_11 : oFet 100 11 = some (.iload_n 3, 1) := by decide +kernel
theorem s_100_11 {d : Nat} {l0 l1 l2 : oV} {x : Int} {S : List oV} {σ : oSg} {Q : Option oV → (Nat → oC) → Prop} : oE d 100 11 [l0, l1, l2, .inl x] S σ Q = oE d 100 12 [l0, l1, l2, .inl x] (.inl x :: S) σ Q := pLdN (k := 3) f_100_11 rfl rfl rfl
theorem f_100_12 : oFet 100 12 = some (.putfield 29, 3) := by decide +kernel
theorem s_100_12 {d : Nat} {l0 l1 l2 l3 : oV} {a : Nat} {v : Int} {S : List oV} {σ : oSg} {Q : Option oV → (Nat → oC) → Prop} (hk : oKd a = some 6) : oE d 100 12 [l0, l1, l2, l3] (.inl v :: .inr (.inr (.inl a)) :: S) σ Q = oE d 100 15 [l0, l1, l2, l3] S (oSF σ a 2 v) Q := pPfI f_100_12 ow_100 fl_6_29 rfl (by decide) rfl rfl hk
theorem f_100_15 : oFet 100 15 = some (.iconst 1, 1) := by decide +kernel
theorem s_100_15 {d : Nat} {l0 l1 l2 l3 : oV} {S : List oV} {σ : oSg} {Q : Option oV → (Nat → oC) → Prop} : oE d 100 15 [l0, l1, l2, l3] S σ Q = oE d 100 16 [l0, l1, l2, l3] (.inl (1) :: S) σ Q := pKst f_100_15 (by decide)
theorem f_100_16 : oFet 100 16 = some (.ireturn, 1) := by decide +kernel
theorem s_100_16 {d : Nat} {l0 l1 l2 l3 : oV} {x : Int} {σ : oSg} {Q : Option oV → (Nat → oC) → Prop} (hx : x = 0 ∨ x = 1) : oE d 100 16 [l0, l1, l2, l3] [.inl x] σ Q = Q (some (.inl x)) (oBld σ) := oZret f_100_16 rt_100 hx
theorem ow_101 : (oMt 101).2.2.2.2.1 = 6 := by decide +kernel
theorem rt_101 : (oMt 101).2.2.2.1 = some .boolean := by decide +kernel
theorem nl_101 : (oMt 101).2.2.1 = 5 := by decide +kernel
theorem f_101_0 : oFet 101 0 = some (.iconst 0, 1) := by decide +kernel
theorem s_101_0 {d : Nat} {l0 l1 l2 l3 l4 : oV} {S : List oV} {σ : oSg} {Q : Option oV → (Nat → oC) → Prop} : oE d 101 0 [l0, l1, l2, l3, l4] S σ Q = oE d 101 1 [l0, l1, l2, l3, l4] (.inl (0) :: S) σ Q := pKst f_101_0 (by decide)
theorem f_101_1 : oFet 101 1 = some (.istore_n 2, 1) := by decide +kernel
theorem s_101_1 {d : Nat} {l0 l1 l2 l3 l4 : oV} {x : Int} {S : List oV} {σ : oSg} {Q : Option oV → (Nat → oC) → Prop} (c2 : oCat l2 = 1) (c1 : oCat l1 = 1)  : oE d 101 1 [l0, l1, l2, l3, l4] (.inl x :: S) σ Q = oE d 101 2 [l0, l1, .inl x, l3, l4] S σ Q := pSt (i := 2) f_101_1 rfl rfl (show (2 : Nat) < 5 by decide) (oC1n c1) (oC1n c2) rfl
theorem f_101_2 : oFet 101 2 = some (.iload_n 2, 1) := by decide +kernel
theorem s_101_2 {d : Nat} {l0 l1 l3 l4 : oV} {x : Int} {S : List oV} {σ : oSg} {Q : Option oV → (Nat → oC) → Prop} : oE d 101 2 [l0, l1, .inl x, l3, l4] S σ Q = oE d 101 3 [l0, l1, .inl x, l3, l4] (.inl x :: S) σ Q := pLdN (k := 2) f_101_2 rfl rfl rfl
theorem f_101_3 : oFet 101 3 = some (.aload_n 1, 1) := by decide +kernel
theorem s_101_3 {d : Nat} {l0 l2 l3 l4 : oV} {a : Nat} {S : List oV} {σ : oSg} {Q : Option oV → (Nat → oC) → Prop} : oE d 101 3 [l0, .inr (.inr (.inl a)), l2, l3, l4] S σ Q = oE d 101 4 [l0, .inr (.inr (.inl a)), l2, l3, l4] (.inr (.inr (.inl a)) :: S) σ Q := pLdN (k := 1) f_101_3 rfl rfl rfl
theorem f_101_4 : oFet 101 4 = some (.getfield 55, 3) := by decide +kernel
theorem s_101_4 {d : Nat} {l0 l1 l2 l3 l4 : oV} {a : Nat} {S : List oV} {σ : oSg} {Q : Option oV → (Nat → oC) → Prop} (hk : oKd a = some 1) : oE d 101 4 [l0, l1, l2, l3, l4] (.inr (.inr (.inl a)) :: S) σ Q = oE d 101 7 [l0, l1, l2, l3, l4] (.inr (.inr (.inl (oRf a 3))) :: S) σ Q := pGfR f_101_4 ow_101 fl_6_55 rfl (by decide) hk
theorem f_101_7 : oFet 101 7 = some (.getfield 59, 3) := by decide +kernel
theorem s_101_7 {d : Nat} {l0 l1 l2 l3 l4 : oV} {a : Nat} {S : List oV} {σ : oSg} {Q : Option oV → (Nat → oC) → Prop} (hk : oKd a = some 7) : oE d 101 7 [l0, l1, l2, l3, l4] (.inr (.inr (.inl a)) :: S) σ Q = oE d 101 10 [l0, l1, l2, l3, l4] (.inl (σ.1 a 0) :: S) σ Q := pGfI f_101_7 ow_101 fl_6_59 rfl (by decide) hk
theorem f_101_10 : oFet 101 10 = some (.if_icmp .ge 43, 3) := by decide +kernel
theorem s_101_10 {d : Nat} {l0 l1 l2 l3 l4 : oV} {x y : Int} {S : List oV} {σ : oSg} {Q : Option oV → (Nat → oC) → Prop} : oE d 101 10 [l0, l1, l2, l3, l4] (.inl y :: .inl x :: S) σ Q = if y ≤ x then oE d 101 53 [l0, l1, l2, l3, l4] S σ Q else oE d 101 13 [l0, l1, l2, l3, l4] S σ Q := oCmpGe f_101_10 (by decide)
theorem f_101_13 : oFet 101 13 = some (.aload_n 1, 1) := by decide +kernel
theorem s_101_13 {d : Nat} {l0 l2 l3 l4 : oV} {a : Nat} {S : List oV} {σ : oSg} {Q : Option oV → (Nat → oC) → Prop} : oE d 101 13 [l0, .inr (.inr (.inl a)), l2, l3, l4] S σ Q = oE d 101 14 [l0, .inr (.inr (.inl a)), l2, l3, l4] (.inr (.inr (.inl a)) :: S) σ Q := pLdN (k := 1) f_101_13 rfl rfl rfl
theorem f_101_14 : oFet 101 14 = some (.getfield 55, 3) := by decide +kernel
theorem s_101_14 {d : Nat} {l0 l1 l2 l3 l4 : oV} {a : Nat} {S : List oV} {σ : oSg} {Q : Option oV → (Nat → oC) → Prop} (hk : oKd a = some 1) : oE d 101 14 [l0, l1, l2, l3, l4] (.inr (.inr (.inl a)) :: S) σ Q = oE d 101 17 [l0, l1, l2, l3, l4] (.inr (.inr (.inl (oRf a 3))) :: S) σ Q := pGfR f_101_14 ow_101 fl_6_55 rfl (by decide) hk
theorem f_101_17 : oFet 101 17 = some (.iload_n 2, 1) := by decide +kernel
theorem s_101_17 {d : Nat} {l0 l1 l3 l4 : oV} {x : Int} {S : List oV} {σ : oSg} {Q : Option oV → (Nat → oC) → Prop} : oE d 101 17 [l0, l1, .inl x, l3, l4] S σ Q = oE d 101 18 [l0, l1, .inl x, l3, l4] (.inl x :: S) σ Q := pLdN (k := 2) f_101_17 rfl rfl rfl
theorem f_101_18 : oFet 101 18 = some (.invokevirtual 64, 3) := by decide +kernel
theorem c_101_18 {d : Nat} {l0 l1 l2 l3 l4 : oV} {x0 : oV} {a : Nat} {v : Option oV} {τ : oSg} {S : List oV} {σ : oSg} {Q : Option oV → (Nat → oC) → Prop} (hm : oMi d 80 [.inr (.inr (.inl a)), x0] σ v τ) (hk : oKd a = some 7) (hs : oSmall S = true) : oE d 101 18 [l0, l1, l2, l3, l4] (x0 :: .inr (.inr (.inl a)) :: S) σ Q = oE d 101 21 [l0, l1, l2, l3, l4] (v.toList ++ S) τ Q := pCallV f_101_18 ow_101 lk_6_64 mt_80 rfl rfl rfl hk hs hm
theorem f_101_21 : oFet 101 21 = some (.istore_n 3, 1) := by decide +kernel
theorem s_101_21 {d : Nat} {l0 l1 l2 l3 l4 : oV} {x : Int} {S : List oV} {σ : oSg} {Q : Option oV → (Nat → oC) → Prop} (c3 : oCat l3 = 1) (c2 : oCat l2 = 1)  : oE d 101 21 [l0, l1, l2, l3, l4] (.inl x :: S) σ Q = oE d 101 22 [l0, l1, l2, .inl x, l4] S σ Q := pSt (i := 3) f_101_21 rfl rfl (show (3 : Nat) < 5 by decide) (oC1n c2) (oC1n c3) rfl
theorem f_101_22 : oFet 101 22 = some (.aload_n 1, 1) := by decide +kernel
theorem s_101_22 {d : Nat} {l0 l2 l3 l4 : oV} {a : Nat} {S : List oV} {σ : oSg} {Q : Option oV → (Nat → oC) → Prop} : oE d 101 22 [l0, .inr (.inr (.inl a)), l2, l3, l4] S σ Q = oE d 101 23 [l0, .inr (.inr (.inl a)), l2, l3, l4] (.inr (.inr (.inl a)) :: S) σ Q := pLdN (k := 1) f_101_22 rfl rfl rfl
theorem f_101_23 : oFet 101 23 = some (.iload_n 3, 1) := by decide +kernel
theorem s_101_23 {d : Nat} {l0 l1 l2 l4 : oV} {x : Int} {S : List oV} {σ : oSg} {Q : Option oV → (Nat → oC) → Prop} : oE d 101 23 [l0, l1, l2, .inl x, l4] S σ Q = oE d 101 24 [l0, l1, l2, .inl x, l4] (.inl x :: S) σ Q := pLdN (k := 3) f_101_23 rfl rfl rfl
theorem f_101_24 : oFet 101 24 = some (.invokevirtual 68, 3) := by decide +kernel
theorem c_101_24 {d : Nat} {l0 l1 l2 l3 l4 : oV} {x0 : oV} {a : Nat} {v : Option oV} {τ : oSg} {S : List oV} {σ : oSg} {Q : Option oV → (Nat → oC) → Prop} (hm : oMi d 27 [.inr (.inr (.inl a)), x0] σ v τ) (hk : oKd a = some 1) (hs : oSmall S = true) : oE d 101 24 [l0, l1, l2, l3, l4] (x0 :: .inr (.inr (.inl a)) :: S) σ Q = oE d 101 27 [l0, l1, l2, l3, l4] (v.toList ++ S) τ Q := pCallV f_101_24 ow_101 lk_6_68 mt_27 rfl rfl rfl hk hs hm
theorem f_101_27 : oFet 101 27 = some (.istore 4, 2) := by decide +kernel
theorem s_101_27 {d : Nat} {l0 l1 l2 l3 l4 : oV} {x : Int} {S : List oV} {σ : oSg} {Q : Option oV → (Nat → oC) → Prop} (c4 : oCat l4 = 1) (c3 : oCat l3 = 1)  : oE d 101 27 [l0, l1, l2, l3, l4] (.inl x :: S) σ Q = oE d 101 29 [l0, l1, l2, l3, .inl x] S σ Q := pSt (i := 4) f_101_27 rfl rfl (show (4 : Nat) < 5 by decide) (oC1n c3) (oC1n c4) rfl
theorem f_101_29 : oFet 101 29 = some (.iload 4, 2) := by decide +kernel
theorem s_101_29 {d : Nat} {l0 l1 l2 l3 : oV} {x : Int} {S : List oV} {σ : oSg} {Q : Option oV → (Nat → oC) → Prop} : oE d 101 29 [l0, l1, l2, l3, .inl x] S σ Q = oE d 101 31 [l0, l1, l2, l3, .inl x] (.inl x :: S) σ Q := pLd (i := 4) f_101_29 rfl rfl rfl
theorem f_101_31 : oFet 101 31 = some (.iload_n 3, 1) := by decide +kernel
theorem s_101_31 {d : Nat} {l0 l1 l2 l4 : oV} {x : Int} {S : List oV} {σ : oSg} {Q : Option oV → (Nat → oC) → Prop} : oE d 101 31 [l0, l1, l2, .inl x, l4] S σ Q = oE d 101 32 [l0, l1, l2, .inl x, l4] (.inl x :: S) σ Q := pLdN (k := 3) f_101_31 rfl rfl rfl
theorem f_101_32 : oFet 101 32 = some (.invokestatic 71, 3) := by decide +kernel
theorem c_101_32 {d : Nat} {l0 l1 l2 l3 l4 : oV} {x0 : oV} {v : Option oV} {τ : oSg} {S : List oV} {σ : oSg} {Q : Option oV → (Nat → oC) → Prop} (hm : oMi d 83 [x0] σ v τ) (hs : oSmall S = true) : oE d 101 32 [l0, l1, l2, l3, l4] (x0 :: S) σ Q = oE d 101 35 [l0, l1, l2, l3, l4] (v.toList ++ S) τ Q := pCallS f_101_32 ow_101 lk_6_71 mt_83 rfl rfl rfl hs hm
theorem f_101_35 : oFet 101 35 = some (.if_icmp .ge 12, 3) := by decide +kernel
theorem s_101_35 {d : Nat} {l0 l1 l2 l3 l4 : oV} {x y : Int} {S : List oV} {σ : oSg} {Q : Option oV → (Nat → oC) → Prop} : oE d 101 35 [l0, l1, l2, l3, l4] (.inl y :: .inl x :: S) σ Q = if y ≤ x then oE d 101 47 [l0, l1, l2, l3, l4] S σ Q else oE d 101 38 [l0, l1, l2, l3, l4] S σ Q := oCmpGe f_101_35 (by decide)
theorem f_101_38 : oFet 101 38 = some (.aload_n 0, 1) := by decide +kernel
theorem s_101_38 {d : Nat} {l1 l2 l3 l4 : oV} {a : Nat} {S : List oV} {σ : oSg} {Q : Option oV → (Nat → oC) → Prop} : oE d 101 38 [.inr (.inr (.inl a)), l1, l2, l3, l4] S σ Q = oE d 101 39 [.inr (.inr (.inl a)), l1, l2, l3, l4] (.inr (.inr (.inl a)) :: S) σ Q := pLdN (k := 0) f_101_38 rfl rfl rfl
theorem f_101_39 : oFet 101 39 = some (.iconst 2, 1) := by decide +kernel
theorem s_101_39 {d : Nat} {l0 l1 l2 l3 l4 : oV} {S : List oV} {σ : oSg} {Q : Option oV → (Nat → oC) → Prop} : oE d 101 39 [l0, l1, l2, l3, l4] S σ Q = oE d 101 40 [l0, l1, l2, l3, l4] (.inl (2) :: S) σ Q := pKst f_101_39 (by decide)
theorem f_101_40 : oFet 101 40 = some (.iload_n 3, 1) := by decide +kernel
theorem s_101_40 {d : Nat} {l0 l1 l2 l4 : oV} {x : Int} {S : List oV} {σ : oSg} {Q : Option oV → (Nat → oC) → Prop} : oE d 101 40 [l0, l1, l2, .inl x, l4] S σ Q = oE d 101 41 [l0, l1, l2, .inl x, l4] (.inl x :: S) σ Q := pLdN (k := 3) f_101_40 rfl rfl rfl
theorem f_101_41 : oFet 101 41 = some (.iload 4, 2) := by decide +kernel
theorem s_101_41 {d : Nat} {l0 l1 l2 l3 : oV} {x : Int} {S : List oV} {σ : oSg} {Q : Option oV → (Nat → oC) → Prop} : oE d 101 41 [l0, l1, l2, l3, .inl x] S σ Q = oE d 101 43 [l0, l1, l2, l3, .inl x] (.inl x :: S) σ Q := pLd (i := 4) f_101_41 rfl rfl rfl
theorem f_101_43 : oFet 101 43 = some (.invokevirtual 51, 3) := by decide +kernel
theorem c_101_43 {d : Nat} {l0 l1 l2 l3 l4 : oV} {x0 x1 x2 : oV} {a : Nat} {v : Option oV} {τ : oSg} {S : List oV} {σ : oSg} {Q : Option oV → (Nat → oC) → Prop} (hm : oMi d 100 [.inr (.inr (.inl a)), x0, x1, x2] σ v τ) (hk : oKd a = some 6) (hs : oSmall S = true) : oE d 101 43 [l0, l1, l2, l3, l4] (x2 :: x1 :: x0 :: .inr (.inr (.inl a)) :: S) σ Q = oE d 101 46 [l0, l1, l2, l3, l4] (v.toList ++ S) τ Q := pCallV f_101_43 ow_101 lk_6_51 mt_100 rfl rfl rfl hk hs hm
theorem f_101_46 : oFet 101 46 = some (.ireturn, 1) := by decide +kernel
theorem s_101_46 {d : Nat} {l0 l1 l2 l3 l4 : oV} {x : Int} {σ : oSg} {Q : Option oV → (Nat → oC) → Prop} (hx : x = 0 ∨ x = 1) : oE d 101 46 [l0, l1, l2, l3, l4] [.inl x] σ Q = Q (some (.inl x)) (oBld σ) := oZret f_101_46 rt_101 hx
theorem f_101_47 : oFet 101 47 = some (.iinc 2 1, 3) := by decide +kernel
theorem s_101_47 {d : Nat} {l0 l1 l3 l4 : oV} {x : Int} {S : List oV} {σ : oSg} {Q : Option oV → (Nat → oC) → Prop} (c1 : oCat l1 = 1)  : oE d 101 47 [l0, l1, .inl x, l3, l4] S σ Q = oE d 101 50 [l0, l1, .inl (oAdd x (1)), l3, l4] S σ Q := pInc f_101_47 rfl (show (2 : Nat) < 5 by decide) (oC1n c1) (oC1n (v := .inl x) rfl) rfl
theorem f_101_50 : oFet 101 50 = some (.goto (-48), 3) := by decide +kernel
theorem s_101_50 {d : Nat} {l0 l1 l2 l3 l4 : oV} {S : List oV} {σ : oSg} {Q : Option oV → (Nat → oC) → Prop} : oE d 101 50 [l0, l1, l2, l3, l4] S σ Q = oE d 101 2 [l0, l1, l2, l3, l4] S σ Q := pGoto f_101_50 (by decide)
theorem f_101_53 : oFet 101 53 = some (.iconst 0, 1) := by decide +kernel
theorem s_101_53 {d : Nat} {l0 l1 l2 l3 l4 : oV} {S : List oV} {σ : oSg} {Q : Option oV → (Nat → oC) → Prop} : oE d 101 53 [l0, l1, l2, l3, l4] S σ Q = oE d 101 54 [l0, l1, l2, l3, l4] (.inl (0) :: S) σ Q := pKst f_101_53 (by decide)
theorem f_101_54 : oFet 101 54 = some (.ireturn, 1) := by decide +kernel
theorem s_101_54 {d : Nat} {l0 l1 l2 l3 l4 : oV} {x : Int} {σ : oSg} {Q : Option oV → (Nat → oC) → Prop} (hx : x = 0 ∨ x = 1) : oE d 101 54 [l0, l1, l2, l3, l4] [.inl x] σ Q = Q (some (.inl x)) (oBld σ) := oZret f_101_54 rt_101 hx
theorem ow_102 : (oMt 102).2.2.2.2.1 = 6 := by decide +kernel
theorem rt_102 : (oMt 102).2.2.2.1 = some .boolean := by decide +kernel
theorem nl_102 : (oMt 102).2.2.1 = 3 := by decide +kernel
theorem f_102_0 : oFet 102 0 = some (.iconst 0, 1) := by decide +kernel
theorem s_102_0 {d : Nat} {l0 l1 l2 : oV} {S : List oV} {σ : oSg} {Q : Option oV → (Nat → oC) → Prop} : oE d 102 0 [l0, l1, l2] S σ Q = oE d 102 1 [l0, l1, l2] (.inl (0) :: S) σ Q := pKst f_102_0 (by decide)
theorem f_102_1 : oFet 102 1 = some (.istore_n 2, 1) := by decide +kernel
theorem s_102_1 {d : Nat} {l0 l1 l2 : oV} {x : Int} {S : List oV} {σ : oSg} {Q : Option oV → (Nat → oC) → Prop} (c2 : oCat l2 = 1) (c1 : oCat l1 = 1)  : oE d 102 1 [l0, l1, l2] (.inl x :: S) σ Q = oE d 102 2 [l0, l1, .inl x] S σ Q := pSt (i := 2) f_102_1 rfl rfl (show (2 : Nat) < 3 by decide) (oC1n c1) (oC1n c2) rfl
theorem f_102_2 : oFet 102 2 = some (.iload_n 2, 1) := by decide +kernel
theorem s_102_2 {d : Nat} {l0 l1 : oV} {x : Int} {S : List oV} {σ : oSg} {Q : Option oV → (Nat → oC) → Prop} : oE d 102 2 [l0, l1, .inl x] S σ Q = oE d 102 3 [l0, l1, .inl x] (.inl x :: S) σ Q := pLdN (k := 2) f_102_2 rfl rfl rfl
theorem f_102_3 : oFet 102 3 = some (.aload_n 1, 1) := by decide +kernel
theorem s_102_3 {d : Nat} {l0 l2 : oV} {a : Nat} {S : List oV} {σ : oSg} {Q : Option oV → (Nat → oC) → Prop} : oE d 102 3 [l0, .inr (.inr (.inl a)), l2] S σ Q = oE d 102 4 [l0, .inr (.inr (.inl a)), l2] (.inr (.inr (.inl a)) :: S) σ Q := pLdN (k := 1) f_102_3 rfl rfl rfl
theorem f_102_4 : oFet 102 4 = some (.getfield 32, 3) := by decide +kernel
theorem s_102_4 {d : Nat} {l0 l1 l2 : oV} {a : Nat} {S : List oV} {σ : oSg} {Q : Option oV → (Nat → oC) → Prop} (hk : oKd a = some 1) : oE d 102 4 [l0, l1, l2] (.inr (.inr (.inl a)) :: S) σ Q = oE d 102 7 [l0, l1, l2] (.inr (.inr (.inl (oRf a 0))) :: S) σ Q := pGfR f_102_4 ow_102 fl_6_32 rfl (by decide) hk
theorem f_102_7 : oFet 102 7 = some (.getfield 38, 3) := by decide +kernel
theorem s_102_7 {d : Nat} {l0 l1 l2 : oV} {a : Nat} {S : List oV} {σ : oSg} {Q : Option oV → (Nat → oC) → Prop} (hk : oKd a = some 4) : oE d 102 7 [l0, l1, l2] (.inr (.inr (.inl a)) :: S) σ Q = oE d 102 10 [l0, l1, l2] (.inl (σ.1 a 0) :: S) σ Q := pGfI f_102_7 ow_102 fl_6_38 rfl (by decide) hk
theorem f_102_10 : oFet 102 10 = some (.if_icmp .ge 37, 3) := by decide +kernel
theorem s_102_10 {d : Nat} {l0 l1 l2 : oV} {x y : Int} {S : List oV} {σ : oSg} {Q : Option oV → (Nat → oC) → Prop} : oE d 102 10 [l0, l1, l2] (.inl y :: .inl x :: S) σ Q = if y ≤ x then oE d 102 47 [l0, l1, l2] S σ Q else oE d 102 13 [l0, l1, l2] S σ Q := oCmpGe f_102_10 (by decide)
theorem f_102_13 : oFet 102 13 = some (.aload_n 1, 1) := by decide +kernel
theorem s_102_13 {d : Nat} {l0 l2 : oV} {a : Nat} {S : List oV} {σ : oSg} {Q : Option oV → (Nat → oC) → Prop} : oE d 102 13 [l0, .inr (.inr (.inl a)), l2] S σ Q = oE d 102 14 [l0, .inr (.inr (.inl a)), l2] (.inr (.inr (.inl a)) :: S) σ Q := pLdN (k := 1) f_102_13 rfl rfl rfl
theorem f_102_14 : oFet 102 14 = some (.iload_n 2, 1) := by decide +kernel
theorem s_102_14 {d : Nat} {l0 l1 : oV} {x : Int} {S : List oV} {σ : oSg} {Q : Option oV → (Nat → oC) → Prop} : oE d 102 14 [l0, l1, .inl x] S σ Q = oE d 102 15 [l0, l1, .inl x] (.inl x :: S) σ Q := pLdN (k := 2) f_102_14 rfl rfl rfl
theorem f_102_15 : oFet 102 15 = some (.invokevirtual 74, 3) := by decide +kernel
theorem c_102_15 {d : Nat} {l0 l1 l2 : oV} {x0 : oV} {a : Nat} {v : Option oV} {τ : oSg} {S : List oV} {σ : oSg} {Q : Option oV → (Nat → oC) → Prop} (hm : oMi d 23 [.inr (.inr (.inl a)), x0] σ v τ) (hk : oKd a = some 1) (hs : oSmall S = true) : oE d 102 15 [l0, l1, l2] (x0 :: .inr (.inr (.inl a)) :: S) σ Q = oE d 102 18 [l0, l1, l2] (v.toList ++ S) τ Q := pCallV f_102_15 ow_102 lk_6_74 mt_23 rfl rfl rfl hk hs hm
theorem f_102_18 : oFet 102 18 = some (.ifCond .eq 23, 3) := by decide +kernel
theorem s_102_18 {d : Nat} {l0 l1 l2 : oV} {x : Int} {S : List oV} {σ : oSg} {Q : Option oV → (Nat → oC) → Prop} : oE d 102 18 [l0, l1, l2] (.inl x :: S) σ Q = if x = 0 then oE d 102 41 [l0, l1, l2] S σ Q else oE d 102 21 [l0, l1, l2] S σ Q := oIfEq f_102_18 (by decide)
theorem f_102_21 : oFet 102 21 = some (.aload_n 1, 1) := by decide +kernel
theorem s_102_21 {d : Nat} {l0 l2 : oV} {a : Nat} {S : List oV} {σ : oSg} {Q : Option oV → (Nat → oC) → Prop} : oE d 102 21 [l0, .inr (.inr (.inl a)), l2] S σ Q = oE d 102 22 [l0, .inr (.inr (.inl a)), l2] (.inr (.inr (.inl a)) :: S) σ Q := pLdN (k := 1) f_102_21 rfl rfl rfl
theorem f_102_22 : oFet 102 22 = some (.iload_n 2, 1) := by decide +kernel
theorem s_102_22 {d : Nat} {l0 l1 : oV} {x : Int} {S : List oV} {σ : oSg} {Q : Option oV → (Nat → oC) → Prop} : oE d 102 22 [l0, l1, .inl x] S σ Q = oE d 102 23 [l0, l1, .inl x] (.inl x :: S) σ Q := pLdN (k := 2) f_102_22 rfl rfl rfl
theorem f_102_23 : oFet 102 23 = some (.invokevirtual 78, 3) := by decide +kernel
theorem c_102_23 {d : Nat} {l0 l1 l2 : oV} {x0 : oV} {a : Nat} {v : Option oV} {τ : oSg} {S : List oV} {σ : oSg} {Q : Option oV → (Nat → oC) → Prop} (hm : oMi d 63 [.inr (.inr (.inl a)), x0] σ v τ) (hk : oKd a = some 1) (hs : oSmall S = true) : oE d 102 23 [l0, l1, l2] (x0 :: .inr (.inr (.inl a)) :: S) σ Q = oE d 102 26 [l0, l1, l2] (v.toList ++ S) τ Q := pCallV f_102_23 ow_102 lk_6_78 mt_63 rfl rfl rfl hk hs hm
theorem f_102_26 : oFet 102 26 = some (.ifCond .le 15, 3) := by decide +kernel
theorem s_102_26 {d : Nat} {l0 l1 l2 : oV} {x : Int} {S : List oV} {σ : oSg} {Q : Option oV → (Nat → oC) → Prop} : oE d 102 26 [l0, l1, l2] (.inl x :: S) σ Q = if x ≤ 0 then oE d 102 41 [l0, l1, l2] S σ Q else oE d 102 29 [l0, l1, l2] S σ Q := oIfLe f_102_26 (by decide)
theorem f_102_29 : oFet 102 29 = some (.aload_n 0, 1) := by decide +kernel
theorem s_102_29 {d : Nat} {l1 l2 : oV} {a : Nat} {S : List oV} {σ : oSg} {Q : Option oV → (Nat → oC) → Prop} : oE d 102 29 [.inr (.inr (.inl a)), l1, l2] S σ Q = oE d 102 30 [.inr (.inr (.inl a)), l1, l2] (.inr (.inr (.inl a)) :: S) σ Q := pLdN (k := 0) f_102_29 rfl rfl rfl
theorem f_102_30 : oFet 102 30 = some (.iconst 3, 1) := by decide +kernel
theorem s_102_30 {d : Nat} {l0 l1 l2 : oV} {S : List oV} {σ : oSg} {Q : Option oV → (Nat → oC) → Prop} : oE d 102 30 [l0, l1, l2] S σ Q = oE d 102 31 [l0, l1, l2] (.inl (3) :: S) σ Q := pKst f_102_30 (by decide)
theorem f_102_31 : oFet 102 31 = some (.iload_n 2, 1) := by decide +kernel
theorem s_102_31 {d : Nat} {l0 l1 : oV} {x : Int} {S : List oV} {σ : oSg} {Q : Option oV → (Nat → oC) → Prop} : oE d 102 31 [l0, l1, .inl x] S σ Q = oE d 102 32 [l0, l1, .inl x] (.inl x :: S) σ Q := pLdN (k := 2) f_102_31 rfl rfl rfl
theorem f_102_32 : oFet 102 32 = some (.aload_n 1, 1) := by decide +kernel
theorem s_102_32 {d : Nat} {l0 l2 : oV} {a : Nat} {S : List oV} {σ : oSg} {Q : Option oV → (Nat → oC) → Prop} : oE d 102 32 [l0, .inr (.inr (.inl a)), l2] S σ Q = oE d 102 33 [l0, .inr (.inr (.inl a)), l2] (.inr (.inr (.inl a)) :: S) σ Q := pLdN (k := 1) f_102_32 rfl rfl rfl
theorem f_102_33 : oFet 102 33 = some (.iload_n 2, 1) := by decide +kernel
theorem s_102_33 {d : Nat} {l0 l1 : oV} {x : Int} {S : List oV} {σ : oSg} {Q : Option oV → (Nat → oC) → Prop} : oE d 102 33 [l0, l1, .inl x] S σ Q = oE d 102 34 [l0, l1, .inl x] (.inl x :: S) σ Q := pLdN (k := 2) f_102_33 rfl rfl rfl
theorem f_102_34 : oFet 102 34 = some (.invokevirtual 78, 3) := by decide +kernel
theorem c_102_34 {d : Nat} {l0 l1 l2 : oV} {x0 : oV} {a : Nat} {v : Option oV} {τ : oSg} {S : List oV} {σ : oSg} {Q : Option oV → (Nat → oC) → Prop} (hm : oMi d 63 [.inr (.inr (.inl a)), x0] σ v τ) (hk : oKd a = some 1) (hs : oSmall S = true) : oE d 102 34 [l0, l1, l2] (x0 :: .inr (.inr (.inl a)) :: S) σ Q = oE d 102 37 [l0, l1, l2] (v.toList ++ S) τ Q := pCallV f_102_34 ow_102 lk_6_78 mt_63 rfl rfl rfl hk hs hm
theorem f_102_37 : oFet 102 37 = some (.invokevirtual 51, 3) := by decide +kernel
theorem c_102_37 {d : Nat} {l0 l1 l2 : oV} {x0 x1 x2 : oV} {a : Nat} {v : Option oV} {τ : oSg} {S : List oV} {σ : oSg} {Q : Option oV → (Nat → oC) → Prop} (hm : oMi d 100 [.inr (.inr (.inl a)), x0, x1, x2] σ v τ) (hk : oKd a = some 6) (hs : oSmall S = true) : oE d 102 37 [l0, l1, l2] (x2 :: x1 :: x0 :: .inr (.inr (.inl a)) :: S) σ Q = oE d 102 40 [l0, l1, l2] (v.toList ++ S) τ Q := pCallV f_102_37 ow_102 lk_6_51 mt_100 rfl rfl rfl hk hs hm
theorem f_102_40 : oFet 102 40 = some (.ireturn, 1) := by decide +kernel
theorem s_102_40 {d : Nat} {l0 l1 l2 : oV} {x : Int} {σ : oSg} {Q : Option oV → (Nat → oC) → Prop} (hx : x = 0 ∨ x = 1) : oE d 102 40 [l0, l1, l2] [.inl x] σ Q = Q (some (.inl x)) (oBld σ) := oZret f_102_40 rt_102 hx
theorem f_102_41 : oFet 102 41 = some (.iinc 2 1, 3) := by decide +kernel
theorem s_102_41 {d : Nat} {l0 l1 : oV} {x : Int} {S : List oV} {σ : oSg} {Q : Option oV → (Nat → oC) → Prop} (c1 : oCat l1 = 1)  : oE d 102 41 [l0, l1, .inl x] S σ Q = oE d 102 44 [l0, l1, .inl (oAdd x (1))] S σ Q := pInc f_102_41 rfl (show (2 : Nat) < 3 by decide) (oC1n c1) (oC1n (v := .inl x) rfl) rfl
theorem f_102_44 : oFet 102 44 = some (.goto (-42), 3) := by decide +kernel
theorem s_102_44 {d : Nat} {l0 l1 l2 : oV} {S : List oV} {σ : oSg} {Q : Option oV → (Nat → oC) → Prop} : oE d 102 44 [l0, l1, l2] S σ Q = oE d 102 2 [l0, l1, l2] S σ Q := pGoto f_102_44 (by decide)
theorem f_102_47 : oFet 102 47 = some (.iconst 0, 1) := by decide +kernel
theorem s_102_47 {d : Nat} {l0 l1 l2 : oV} {S : List oV} {σ : oSg} {Q : Option oV → (Nat → oC) → Prop} : oE d 102 47 [l0, l1, l2] S σ Q = oE d 102 48 [l0, l1, l2] (.inl (0) :: S) σ Q := pKst f_102_47 (by decide)
theorem f_102_48 : oFet 102 48 = some (.ireturn, 1) := by decide +kernel
theorem s_102_48 {d : Nat} {l0 l1 l2 : oV} {x : Int} {σ : oSg} {Q : Option oV → (Nat → oC) → Prop} (hx : x = 0 ∨ x = 1) : oE d 102 48 [l0, l1, l2] [.inl x] σ Q = Q (some (.inl x)) (oBld σ) := oZret f_102_48 rt_102 hx
theorem ow_103 : (oMt 103).2.2.2.2.1 = 6 := by decide +kernel
theorem rt_103 : (oMt 103).2.2.2.1 = some .boolean := by decide +kernel
theorem nl_103 : (oMt 103).2.2.1 = 4 := by decide +kernel
theorem f_103_0 : oFet 103 0 = some (.iconst 0, 1) := by decide +kernel
theorem s_103_0 {d : Nat} {l0 l1 l2 l3 : oV} {S : List oV} {σ : oSg} {Q : Option oV → (Nat → oC) → Prop} : oE d 103 0 [l0, l1, l2, l3] S σ Q = oE d 103 1 [l0, l1, l2, l3] (.inl (0) :: S) σ Q := pKst f_103_0 (by decide)
theorem f_103_1 : oFet 103 1 = some (.istore_n 2, 1) := by decide +kernel
theorem s_103_1 {d : Nat} {l0 l1 l2 l3 : oV} {x : Int} {S : List oV} {σ : oSg} {Q : Option oV → (Nat → oC) → Prop} (c2 : oCat l2 = 1) (c1 : oCat l1 = 1)  : oE d 103 1 [l0, l1, l2, l3] (.inl x :: S) σ Q = oE d 103 2 [l0, l1, .inl x, l3] S σ Q := pSt (i := 2) f_103_1 rfl rfl (show (2 : Nat) < 4 by decide) (oC1n c1) (oC1n c2) rfl
theorem f_103_2 : oFet 103 2 = some (.iload_n 2, 1) := by decide +kernel
theorem s_103_2 {d : Nat} {l0 l1 l3 : oV} {x : Int} {S : List oV} {σ : oSg} {Q : Option oV → (Nat → oC) → Prop} : oE d 103 2 [l0, l1, .inl x, l3] S σ Q = oE d 103 3 [l0, l1, .inl x, l3] (.inl x :: S) σ Q := pLdN (k := 2) f_103_2 rfl rfl rfl
theorem f_103_3 : oFet 103 3 = some (.aload_n 1, 1) := by decide +kernel
theorem s_103_3 {d : Nat} {l0 l2 l3 : oV} {a : Nat} {S : List oV} {σ : oSg} {Q : Option oV → (Nat → oC) → Prop} : oE d 103 3 [l0, .inr (.inr (.inl a)), l2, l3] S σ Q = oE d 103 4 [l0, .inr (.inr (.inl a)), l2, l3] (.inr (.inr (.inl a)) :: S) σ Q := pLdN (k := 1) f_103_3 rfl rfl rfl
theorem f_103_4 : oFet 103 4 = some (.getfield 32, 3) := by decide +kernel
theorem s_103_4 {d : Nat} {l0 l1 l2 l3 : oV} {a : Nat} {S : List oV} {σ : oSg} {Q : Option oV → (Nat → oC) → Prop} (hk : oKd a = some 1) : oE d 103 4 [l0, l1, l2, l3] (.inr (.inr (.inl a)) :: S) σ Q = oE d 103 7 [l0, l1, l2, l3] (.inr (.inr (.inl (oRf a 0))) :: S) σ Q := pGfR f_103_4 ow_103 fl_6_32 rfl (by decide) hk
theorem f_103_7 : oFet 103 7 = some (.getfield 38, 3) := by decide +kernel
theorem s_103_7 {d : Nat} {l0 l1 l2 l3 : oV} {a : Nat} {S : List oV} {σ : oSg} {Q : Option oV → (Nat → oC) → Prop} (hk : oKd a = some 4) : oE d 103 7 [l0, l1, l2, l3] (.inr (.inr (.inl a)) :: S) σ Q = oE d 103 10 [l0, l1, l2, l3] (.inl (σ.1 a 0) :: S) σ Q := pGfI f_103_7 ow_103 fl_6_38 rfl (by decide) hk
theorem f_103_10 : oFet 103 10 = some (.if_icmp .ge 47, 3) := by decide +kernel
theorem s_103_10 {d : Nat} {l0 l1 l2 l3 : oV} {x y : Int} {S : List oV} {σ : oSg} {Q : Option oV → (Nat → oC) → Prop} : oE d 103 10 [l0, l1, l2, l3] (.inl y :: .inl x :: S) σ Q = if y ≤ x then oE d 103 57 [l0, l1, l2, l3] S σ Q else oE d 103 13 [l0, l1, l2, l3] S σ Q := oCmpGe f_103_10 (by decide)
theorem f_103_13 : oFet 103 13 = some (.aload_n 1, 1) := by decide +kernel
theorem s_103_13 {d : Nat} {l0 l2 l3 : oV} {a : Nat} {S : List oV} {σ : oSg} {Q : Option oV → (Nat → oC) → Prop} : oE d 103 13 [l0, .inr (.inr (.inl a)), l2, l3] S σ Q = oE d 103 14 [l0, .inr (.inr (.inl a)), l2, l3] (.inr (.inr (.inl a)) :: S) σ Q := pLdN (k := 1) f_103_13 rfl rfl rfl
theorem f_103_14 : oFet 103 14 = some (.iload_n 2, 1) := by decide +kernel
theorem s_103_14 {d : Nat} {l0 l1 l3 : oV} {x : Int} {S : List oV} {σ : oSg} {Q : Option oV → (Nat → oC) → Prop} : oE d 103 14 [l0, l1, .inl x, l3] S σ Q = oE d 103 15 [l0, l1, .inl x, l3] (.inl x :: S) σ Q := pLdN (k := 2) f_103_14 rfl rfl rfl
theorem f_103_15 : oFet 103 15 = some (.invokevirtual 81, 3) := by decide +kernel
theorem c_103_15 {d : Nat} {l0 l1 l2 l3 : oV} {x0 : oV} {a : Nat} {v : Option oV} {τ : oSg} {S : List oV} {σ : oSg} {Q : Option oV → (Nat → oC) → Prop} (hm : oMi d 18 [.inr (.inr (.inl a)), x0] σ v τ) (hk : oKd a = some 1) (hs : oSmall S = true) : oE d 103 15 [l0, l1, l2, l3] (x0 :: .inr (.inr (.inl a)) :: S) σ Q = oE d 103 18 [l0, l1, l2, l3] (v.toList ++ S) τ Q := pCallV f_103_15 ow_103 lk_6_81 mt_18 rfl rfl rfl hk hs hm
theorem f_103_18 : oFet 103 18 = some (.istore_n 3, 1) := by decide +kernel
theorem s_103_18 {d : Nat} {l0 l1 l2 l3 : oV} {x : Int} {S : List oV} {σ : oSg} {Q : Option oV → (Nat → oC) → Prop} (c3 : oCat l3 = 1) (c2 : oCat l2 = 1)  : oE d 103 18 [l0, l1, l2, l3] (.inl x :: S) σ Q = oE d 103 19 [l0, l1, l2, .inl x] S σ Q := pSt (i := 3) f_103_18 rfl rfl (show (3 : Nat) < 4 by decide) (oC1n c2) (oC1n c3) rfl
theorem f_103_19 : oFet 103 19 = some (.iload_n 3, 1) := by decide +kernel
theorem s_103_19 {d : Nat} {l0 l1 l2 : oV} {x : Int} {S : List oV} {σ : oSg} {Q : Option oV → (Nat → oC) → Prop} : oE d 103 19 [l0, l1, l2, .inl x] S σ Q = oE d 103 20 [l0, l1, l2, .inl x] (.inl x :: S) σ Q := pLdN (k := 3) f_103_19 rfl rfl rfl
theorem f_103_20 : oFet 103 20 = some (.iload_n 2, 1) := by decide +kernel
theorem s_103_20 {d : Nat} {l0 l1 l3 : oV} {x : Int} {S : List oV} {σ : oSg} {Q : Option oV → (Nat → oC) → Prop} : oE d 103 20 [l0, l1, .inl x, l3] S σ Q = oE d 103 21 [l0, l1, .inl x, l3] (.inl x :: S) σ Q := pLdN (k := 2) f_103_20 rfl rfl rfl
theorem f_103_21 : oFet 103 21 = some (.if_icmp .le 30, 3) := by decide +kernel
theorem s_103_21 {d : Nat} {l0 l1 l2 l3 : oV} {x y : Int} {S : List oV} {σ : oSg} {Q : Option oV → (Nat → oC) → Prop} : oE d 103 21 [l0, l1, l2, l3] (.inl y :: .inl x :: S) σ Q = if x ≤ y then oE d 103 51 [l0, l1, l2, l3] S σ Q else oE d 103 24 [l0, l1, l2, l3] S σ Q := oCmpLe f_103_21 (by decide)
theorem f_103_24 : oFet 103 24 = some (.aload_n 1, 1) := by decide +kernel
theorem s_103_24 {d : Nat} {l0 l2 l3 : oV} {a : Nat} {S : List oV} {σ : oSg} {Q : Option oV → (Nat → oC) → Prop} : oE d 103 24 [l0, .inr (.inr (.inl a)), l2, l3] S σ Q = oE d 103 25 [l0, .inr (.inr (.inl a)), l2, l3] (.inr (.inr (.inl a)) :: S) σ Q := pLdN (k := 1) f_103_24 rfl rfl rfl
theorem f_103_25 : oFet 103 25 = some (.iload_n 2, 1) := by decide +kernel
theorem s_103_25 {d : Nat} {l0 l1 l3 : oV} {x : Int} {S : List oV} {σ : oSg} {Q : Option oV → (Nat → oC) → Prop} : oE d 103 25 [l0, l1, .inl x, l3] S σ Q = oE d 103 26 [l0, l1, .inl x, l3] (.inl x :: S) σ Q := pLdN (k := 2) f_103_25 rfl rfl rfl
theorem f_103_26 : oFet 103 26 = some (.iload_n 3, 1) := by decide +kernel
theorem s_103_26 {d : Nat} {l0 l1 l2 : oV} {x : Int} {S : List oV} {σ : oSg} {Q : Option oV → (Nat → oC) → Prop} : oE d 103 26 [l0, l1, l2, .inl x] S σ Q = oE d 103 27 [l0, l1, l2, .inl x] (.inl x :: S) σ Q := pLdN (k := 3) f_103_26 rfl rfl rfl
theorem f_103_27 : oFet 103 27 = some (.invokevirtual 43, 3) := by decide +kernel
theorem c_103_27 {d : Nat} {l0 l1 l2 l3 : oV} {x0 x1 : oV} {a : Nat} {v : Option oV} {τ : oSg} {S : List oV} {σ : oSg} {Q : Option oV → (Nat → oC) → Prop} (hm : oMi d 79 [.inr (.inr (.inl a)), x0, x1] σ v τ) (hk : oKd a = some 1) (hs : oSmall S = true) : oE d 103 27 [l0, l1, l2, l3] (x1 :: x0 :: .inr (.inr (.inl a)) :: S) σ Q = oE d 103 30 [l0, l1, l2, l3] (v.toList ++ S) τ Q := pCallV f_103_27 ow_103 lk_6_43 mt_79 rfl rfl rfl hk hs hm
theorem f_103_30 : oFet 103 30 = some (.ifCond .eq 21, 3) := by decide +kernel
theorem s_103_30 {d : Nat} {l0 l1 l2 l3 : oV} {x : Int} {S : List oV} {σ : oSg} {Q : Option oV → (Nat → oC) → Prop} : oE d 103 30 [l0, l1, l2, l3] (.inl x :: S) σ Q = if x = 0 then oE d 103 51 [l0, l1, l2, l3] S σ Q else oE d 103 33 [l0, l1, l2, l3] S σ Q := oIfEq f_103_30 (by decide)
theorem f_103_33 : oFet 103 33 = some (.aload_n 0, 1) := by decide +kernel
theorem s_103_33 {d : Nat} {l1 l2 l3 : oV} {a : Nat} {S : List oV} {σ : oSg} {Q : Option oV → (Nat → oC) → Prop} : oE d 103 33 [.inr (.inr (.inl a)), l1, l2, l3] S σ Q = oE d 103 34 [.inr (.inr (.inl a)), l1, l2, l3] (.inr (.inr (.inl a)) :: S) σ Q := pLdN (k := 0) f_103_33 rfl rfl rfl
theorem f_103_34 : oFet 103 34 = some (.iconst 4, 1) := by decide +kernel
theorem s_103_34 {d : Nat} {l0 l1 l2 l3 : oV} {S : List oV} {σ : oSg} {Q : Option oV → (Nat → oC) → Prop} : oE d 103 34 [l0, l1, l2, l3] S σ Q = oE d 103 35 [l0, l1, l2, l3] (.inl (4) :: S) σ Q := pKst f_103_34 (by decide)
theorem f_103_35 : oFet 103 35 = some (.bipush 10, 2) := by decide +kernel
theorem s_103_35 {d : Nat} {l0 l1 l2 l3 : oV} {S : List oV} {σ : oSg} {Q : Option oV → (Nat → oC) → Prop} : oE d 103 35 [l0, l1, l2, l3] S σ Q = oE d 103 37 [l0, l1, l2, l3] (.inl (10) :: S) σ Q := pBip f_103_35 (by decide)
theorem f_103_37 : oFet 103 37 = some (.iload_n 2, 1) := by decide +kernel
theorem s_103_37 {d : Nat} {l0 l1 l3 : oV} {x : Int} {S : List oV} {σ : oSg} {Q : Option oV → (Nat → oC) → Prop} : oE d 103 37 [l0, l1, .inl x, l3] S σ Q = oE d 103 38 [l0, l1, .inl x, l3] (.inl x :: S) σ Q := pLdN (k := 2) f_103_37 rfl rfl rfl
theorem f_103_38 : oFet 103 38 = some (.imul, 1) := by decide +kernel
theorem s_103_38 {d : Nat} {l0 l1 l2 l3 : oV} {x y : Int} {S : List oV} {σ : oSg} {Q : Option oV → (Nat → oC) → Prop} : oE d 103 38 [l0, l1, l2, l3] (.inl y :: .inl x :: S) σ Q = oE d 103 39 [l0, l1, l2, l3] (.inl (oMul x y) :: S) σ Q := oS3 f_103_38 rfl rfl rfl
theorem f_103_39 : oFet 103 39 = some (.iload_n 3, 1) := by decide +kernel
theorem s_103_39 {d : Nat} {l0 l1 l2 : oV} {x : Int} {S : List oV} {σ : oSg} {Q : Option oV → (Nat → oC) → Prop} : oE d 103 39 [l0, l1, l2, .inl x] S σ Q = oE d 103 40 [l0, l1, l2, .inl x] (.inl x :: S) σ Q := pLdN (k := 3) f_103_39 rfl rfl rfl
theorem f_103_40 : oFet 103 40 = some (.iadd, 1) := by decide +kernel
theorem s_103_40 {d : Nat} {l0 l1 l2 l3 : oV} {x y : Int} {S : List oV} {σ : oSg} {Q : Option oV → (Nat → oC) → Prop} : oE d 103 40 [l0, l1, l2, l3] (.inl y :: .inl x :: S) σ Q = oE d 103 41 [l0, l1, l2, l3] (.inl (oAdd x y) :: S) σ Q := oS3 f_103_40 rfl rfl rfl
theorem f_103_41 : oFet 103 41 = some (.aload_n 1, 1) := by decide +kernel
theorem s_103_41 {d : Nat} {l0 l2 l3 : oV} {a : Nat} {S : List oV} {σ : oSg} {Q : Option oV → (Nat → oC) → Prop} : oE d 103 41 [l0, .inr (.inr (.inl a)), l2, l3] S σ Q = oE d 103 42 [l0, .inr (.inr (.inl a)), l2, l3] (.inr (.inr (.inl a)) :: S) σ Q := pLdN (k := 1) f_103_41 rfl rfl rfl
theorem f_103_42 : oFet 103 42 = some (.iload_n 2, 1) := by decide +kernel
theorem s_103_42 {d : Nat} {l0 l1 l3 : oV} {x : Int} {S : List oV} {σ : oSg} {Q : Option oV → (Nat → oC) → Prop} : oE d 103 42 [l0, l1, .inl x, l3] S σ Q = oE d 103 43 [l0, l1, .inl x, l3] (.inl x :: S) σ Q := pLdN (k := 2) f_103_42 rfl rfl rfl
theorem f_103_43 : oFet 103 43 = some (.iload_n 3, 1) := by decide +kernel
theorem s_103_43 {d : Nat} {l0 l1 l2 : oV} {x : Int} {S : List oV} {σ : oSg} {Q : Option oV → (Nat → oC) → Prop} : oE d 103 43 [l0, l1, l2, .inl x] S σ Q = oE d 103 44 [l0, l1, l2, .inl x] (.inl x :: S) σ Q := pLdN (k := 3) f_103_43 rfl rfl rfl
theorem f_103_44 : oFet 103 44 = some (.invokevirtual 43, 3) := by decide +kernel
theorem c_103_44 {d : Nat} {l0 l1 l2 l3 : oV} {x0 x1 : oV} {a : Nat} {v : Option oV} {τ : oSg} {S : List oV} {σ : oSg} {Q : Option oV → (Nat → oC) → Prop} (hm : oMi d 79 [.inr (.inr (.inl a)), x0, x1] σ v τ) (hk : oKd a = some 1) (hs : oSmall S = true) : oE d 103 44 [l0, l1, l2, l3] (x1 :: x0 :: .inr (.inr (.inl a)) :: S) σ Q = oE d 103 47 [l0, l1, l2, l3] (v.toList ++ S) τ Q := pCallV f_103_44 ow_103 lk_6_43 mt_79 rfl rfl rfl hk hs hm
theorem f_103_47 : oFet 103 47 = some (.invokevirtual 51, 3) := by decide +kernel
theorem c_103_47 {d : Nat} {l0 l1 l2 l3 : oV} {x0 x1 x2 : oV} {a : Nat} {v : Option oV} {τ : oSg} {S : List oV} {σ : oSg} {Q : Option oV → (Nat → oC) → Prop} (hm : oMi d 100 [.inr (.inr (.inl a)), x0, x1, x2] σ v τ) (hk : oKd a = some 6) (hs : oSmall S = true) : oE d 103 47 [l0, l1, l2, l3] (x2 :: x1 :: x0 :: .inr (.inr (.inl a)) :: S) σ Q = oE d 103 50 [l0, l1, l2, l3] (v.toList ++ S) τ Q := pCallV f_103_47 ow_103 lk_6_51 mt_100 rfl rfl rfl hk hs hm
theorem f_103_50 : oFet 103 50 = some (.ireturn, 1) := by decide +kernel
theorem s_103_50 {d : Nat} {l0 l1 l2 l3 : oV} {x : Int} {σ : oSg} {Q : Option oV → (Nat → oC) → Prop} (hx : x = 0 ∨ x = 1) : oE d 103 50 [l0, l1, l2, l3] [.inl x] σ Q = Q (some (.inl x)) (oBld σ) := oZret f_103_50 rt_103 hx
theorem f_103_51 : oFet 103 51 = some (.iinc 2 1, 3) := by decide +kernel
theorem s_103_51 {d : Nat} {l0 l1 l3 : oV} {x : Int} {S : List oV} {σ : oSg} {Q : Option oV → (Nat → oC) → Prop} (c1 : oCat l1 = 1)  : oE d 103 51 [l0, l1, .inl x, l3] S σ Q = oE d 103 54 [l0, l1, .inl (oAdd x (1)), l3] S σ Q := pInc f_103_51 rfl (show (2 : Nat) < 4 by decide) (oC1n c1) (oC1n (v := .inl x) rfl) rfl
theorem f_103_54 : oFet 103 54 = some (.goto (-52), 3) := by decide +kernel
theorem s_103_54 {d : Nat} {l0 l1 l2 l3 : oV} {S : List oV} {σ : oSg} {Q : Option oV → (Nat → oC) → Prop} : oE d 103 54 [l0, l1, l2, l3] S σ Q = oE d 103 2 [l0, l1, l2, l3] S σ Q := pGoto f_103_54 (by decide)
theorem f_103_57 : oFet 103 57 = some (.iconst 0, 1) := by decide +kernel
theorem s_103_57 {d : Nat} {l0 l1 l2 l3 : oV} {S : List oV} {σ : oSg} {Q : Option oV → (Nat → oC) → Prop} : oE d 103 57 [l0, l1, l2, l3] S σ Q = oE d 103 58 [l0, l1, l2, l3] (.inl (0) :: S) σ Q := pKst f_103_57 (by decide)
theorem f_103_58 : oFet 103 58 = some (.ireturn, 1) := by decide +kernel
theorem s_103_58 {d : Nat} {l0 l1 l2 l3 : oV} {x : Int} {σ : oSg} {Q : Option oV → (Nat → oC) → Prop} (hx : x = 0 ∨ x = 1) : oE d 103 58 [l0, l1, l2, l3] [.inl x] σ Q = Q (some (.inl x)) (oBld σ) := oZret f_103_58 rt_103 hx
theorem ow_104 : (oMt 104).2.2.2.2.1 = 10 := by decide +kernel
theorem rt_104 : (oMt 104).2.2.2.1 = some .int := by decide +kernel
theorem nl_104 : (oMt 104).2.2.1 = 3 := by decide +kernel
theorem f_104_0 : oFet 104 0 = some (.aload_n 0, 1) := by decide +kernel
theorem s_104_0 {d : Nat} {l1 l2 : oV} {a : Nat} {S : List oV} {σ : oSg} {Q : Option oV → (Nat → oC) → Prop} : oE d 104 0 [.inr (.inr (.inl a)), l1, l2] S σ Q = oE d 104 1 [.inr (.inr (.inl a)), l1, l2] (.inr (.inr (.inl a)) :: S) σ Q := pLdN (k := 0) f_104_0 rfl rfl rfl
theorem f_104_1 : oFet 104 1 = some (.aload_n 0, 1) := by decide +kernel
theorem s_104_1 {d : Nat} {l1 l2 : oV} {a : Nat} {S : List oV} {σ : oSg} {Q : Option oV → (Nat → oC) → Prop} : oE d 104 1 [.inr (.inr (.inl a)), l1, l2] S σ Q = oE d 104 2 [.inr (.inr (.inl a)), l1, l2] (.inr (.inr (.inl a)) :: S) σ Q := pLdN (k := 0) f_104_1 rfl rfl rfl
theorem f_104_2 : oFet 104 2 = some (.getfield 12, 3) := by decide +kernel
theorem s_104_2 {d : Nat} {l0 l1 l2 : oV} {a : Nat} {S : List oV} {σ : oSg} {Q : Option oV → (Nat → oC) → Prop} (hk : oKd a = some 10) : oE d 104 2 [l0, l1, l2] (.inr (.inr (.inl a)) :: S) σ Q = oE d 104 5 [l0, l1, l2] (.inr (.inr (.inl (oRf a 0))) :: S) σ Q := pGfR f_104_2 ow_104 fl_10_12 rfl (by decide) hk
theorem f_104_5 : oFet 104 5 = some (.getfield 293, 3) := by decide +kernel
theorem s_104_5 {d : Nat} {l0 l1 l2 : oV} {a : Nat} {S : List oV} {σ : oSg} {Q : Option oV → (Nat → oC) → Prop} (hk : oKd a = some 1) : oE d 104 5 [l0, l1, l2] (.inr (.inr (.inl a)) :: S) σ Q = oE d 104 8 [l0, l1, l2] (.inr (.inr (.inl (oRf a 4))) :: S) σ Q := pGfR f_104_5 ow_104 fl_10_293 rfl (by decide) hk
theorem f_104_8 : oFet 104 8 = some (.iload_n 1, 1) := by decide +kernel
theorem s_104_8 {d : Nat} {l0 l2 : oV} {x : Int} {S : List oV} {σ : oSg} {Q : Option oV → (Nat → oC) → Prop} : oE d 104 8 [l0, .inl x, l2] S σ Q = oE d 104 9 [l0, .inl x, l2] (.inl x :: S) σ Q := pLdN (k := 1) f_104_8 rfl rfl rfl
theorem f_104_9 : oFet 104 9 = some (.iload_n 2, 1) := by decide +kernel
theorem s_104_9 {d : Nat} {l0 l1 : oV} {x : Int} {S : List oV} {σ : oSg} {Q : Option oV → (Nat → oC) → Prop} : oE d 104 9 [l0, l1, .inl x] S σ Q = oE d 104 10 [l0, l1, .inl x] (.inl x :: S) σ Q := pLdN (k := 2) f_104_9 rfl rfl rfl
theorem f_104_10 : oFet 104 10 = some (.invokevirtual 296, 3) := by decide +kernel
theorem c_104_10 {d : Nat} {l0 l1 l2 : oV} {x0 x1 x2 : oV} {a : Nat} {v : Option oV} {τ : oSg} {S : List oV} {σ : oSg} {Q : Option oV → (Nat → oC) → Prop} (hm : oMi d 105 [.inr (.inr (.inl a)), x0, x1, x2] σ v τ) (hk : oKd a = some 10) (hs : oSmall S = true) : oE d 104 10 [l0, l1, l2] (x2 :: x1 :: x0 :: .inr (.inr (.inl a)) :: S) σ Q = oE d 104 13 [l0, l1, l2] (v.toList ++ S) τ Q := pCallV f_104_10 ow_104 lk_10_296 mt_105 rfl rfl rfl hk hs hm
theorem f_104_13 : oFet 104 13 = some (.ireturn, 1) := by decide +kernel
theorem s_104_13 {d : Nat} {l0 l1 l2 : oV} {x : Int} {σ : oSg} {Q : Option oV → (Nat → oC) → Prop} : oE d 104 13 [l0, l1, l2] [.inl x] σ Q = Q (some (.inl x)) (oBld σ) := oIret f_104_13 rt_104
