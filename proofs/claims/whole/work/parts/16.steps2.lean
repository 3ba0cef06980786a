/-! steps, by program -/
theorem ow_105 : (oMt 105).2.2.2.2.1 = 10 := by decide +kernel
theorem rt_105 : (oMt 105).2.2.2.1 = some .int := by decide +kernel
theorem nl_105 : (oMt 105).2.2.1 = 4 := by decide +kernel
theorem f_105_0 : oFet 105 0 = some (.iload_n 2, 1) := by decide +kernel
theorem s_105_0 {d : Nat} {l0 l1 l3 : oV} {x : Int} {S : List oV} {σ : oSg} {Q : Option oV → (Nat → oC) → Prop} : oE d 105 0 [l0, l1, .inl x, l3] S σ Q = oE d 105 1 [l0, l1, .inl x, l3] (.inl x :: S) σ Q := pLdN (k := 2) f_105_0 rfl rfl rfl
theorem f_105_1 : oFet 105 1 = some (.iconst (-1), 1) := by decide +kernel
theorem s_105_1 {d : Nat} {l0 l1 l2 l3 : oV} {S : List oV} {σ : oSg} {Q : Option oV → (Nat → oC) → Prop} : oE d 105 1 [l0, l1, l2, l3] S σ Q = oE d 105 2 [l0, l1, l2, l3] (.inl (-1) :: S) σ Q := pKst f_105_1 (by decide)
theorem f_105_2 : oFet 105 2 = some (.if_icmp .ne 8, 3) := by decide +kernel
theorem s_105_2 {d : Nat} {l0 l1 l2 l3 : oV} {x y : Int} {S : List oV} {σ : oSg} {Q : Option oV → (Nat → oC) → Prop} : oE d 105 2 [l0, l1, l2, l3] (.inl y :: .inl x :: S) σ Q = if ¬ x = y then oE d 105 10 [l0, l1, l2, l3] S σ Q else oE d 105 5 [l0, l1, l2, l3] S σ Q := oCmpNe f_105_2 (by decide)
theorem f_105_5 : oFet 105 5 = some (.aload_n 1, 1) := by decide +kernel
theorem s_105_5 {d : Nat} {l0 l2 l3 : oV} {a : Nat} {S : List oV} {σ : oSg} {Q : Option oV → (Nat → oC) → Prop} : oE d 105 5 [l0, .inr (.inr (.inl a)), l2, l3] S σ Q = oE d 105 6 [l0, .inr (.inr (.inl a)), l2, l3] (.inr (.inr (.inl a)) :: S) σ Q := pLdN (k := 1) f_105_5 rfl rfl rfl
theorem f_105_6 : oFet 105 6 = some (.invokevirtual 269, 3) := by decide +kernel
theorem c_105_6 {d : Nat} {l0 l1 l2 l3 : oV} {a : Nat} {v : Option oV} {τ : oSg} {S : List oV} {σ : oSg} {Q : Option oV → (Nat → oC) → Prop} (hm : oMi d 92 [.inr (.inr (.inl a))] σ v τ) (hk : oKd a = some 7) (hs : oSmall S = true) : oE d 105 6 [l0, l1, l2, l3] (.inr (.inr (.inl a)) :: S) σ Q = oE d 105 9 [l0, l1, l2, l3] (v.toList ++ S) τ Q := pCallV f_105_6 ow_105 lk_10_269 mt_92 rfl rfl rfl hk hs hm
theorem f_105_9 : oFet 105 9 = some (.ireturn, 1) := by decide +kernel
theorem s_105_9 {d : Nat} {l0 l1 l2 l3 : oV} {x : Int} {σ : oSg} {Q : Option oV → (Nat → oC) → Prop} : oE d 105 9 [l0, l1, l2, l3] [.inl x] σ Q = Q (some (.inl x)) (oBld σ) := oIret f_105_9 rt_105
theorem f_105_10 : oFet 105 10 = some (.aload_n 0, 1) := by decide +kernel
theorem s_105_10 {d : Nat} {l1 l2 l3 : oV} {a : Nat} {S : List oV} {σ : oSg} {Q : Option oV → (Nat → oC) → Prop} : oE d 105 10 [.inr (.inr (.inl a)), l1, l2, l3] S σ Q = oE d 105 11 [.inr (.inr (.inl a)), l1, l2, l3] (.inr (.inr (.inl a)) :: S) σ Q := pLdN (k := 0) f_105_10 rfl rfl rfl
theorem f_105_11 : oFet 105 11 = some (.getfield 12, 3) := by decide +kernel
theorem s_105_11 {d : Nat} {l0 l1 l2 l3 : oV} {a : Nat} {S : List oV} {σ : oSg} {Q : Option oV → (Nat → oC) → Prop} (hk : oKd a = some 10) : oE d 105 11 [l0, l1, l2, l3] (.inr (.inr (.inl a)) :: S) σ Q = oE d 105 14 [l0, l1, l2, l3] (.inr (.inr (.inl (oRf a 0))) :: S) σ Q := pGfR f_105_11 ow_105 fl_10_12 rfl (by decide) hk
theorem f_105_14 : oFet 105 14 = some (.getfield 73, 3) := by decide +kernel
theorem s_105_14 {d : Nat} {l0 l1 l2 l3 : oV} {a : Nat} {S : List oV} {σ : oSg} {Q : Option oV → (Nat → oC) → Prop} (hk : oKd a = some 1) : oE d 105 14 [l0, l1, l2, l3] (.inr (.inr (.inl a)) :: S) σ Q = oE d 105 17 [l0, l1, l2, l3] (.inr (.inr (.inl (oRf a 0))) :: S) σ Q := pGfR f_105_14 ow_105 fl_10_73 rfl (by decide) hk
theorem f_105_17 : oFet 105 17 = some (.iload_n 2, 1) := by decide +kernel
theorem s_105_17 {d : Nat} {l0 l1 l3 : oV} {x : Int} {S : List oV} {σ : oSg} {Q : Option oV → (Nat → oC) → Prop} : oE d 105 17 [l0, l1, .inl x, l3] S σ Q = oE d 105 18 [l0, l1, .inl x, l3] (.inl x :: S) σ Q := pLdN (k := 2) f_105_17 rfl rfl rfl
theorem f_105_18 : oFet 105 18 = some (.iload_n 3, 1) := by decide +kernel
theorem s_105_18 {d : Nat} {l0 l1 l2 : oV} {x : Int} {S : List oV} {σ : oSg} {Q : Option oV → (Nat → oC) → Prop} : oE d 105 18 [l0, l1, l2, .inl x] S σ Q = oE d 105 19 [l0, l1, l2, .inl x] (.inl x :: S) σ Q := pLdN (k := 3) f_105_18 rfl rfl rfl
theorem f_105_19 : oFet 105 19 = some (.invokevirtual 80, 3) := by decide +kernel
theorem c_105_19 {d : Nat} {l0 l1 l2 l3 : oV} {x0 x1 : oV} {a : Nat} {v : Option oV} {τ : oSg} {S : List oV} {σ : oSg} {Q : Option oV → (Nat → oC) → Prop} (hm : oMi d 14 [.inr (.inr (.inl a)), x0, x1] σ v τ) (hk : oKd a = some 4) (hs : oSmall S = true) : oE d 105 19 [l0, l1, l2, l3] (x1 :: x0 :: .inr (.inr (.inl a)) :: S) σ Q = oE d 105 22 [l0, l1, l2, l3] (v.toList ++ S) τ Q := pCallV f_105_19 ow_105 lk_10_80 mt_14 rfl rfl rfl hk hs hm
theorem f_105_22 : oFet 105 22 = some (.ifCond .eq 12, 3) := by decide +kernel
theorem s_105_22 {d : Nat} {l0 l1 l2 l3 : oV} {x : Int} {S : List oV} {σ : oSg} {Q : Option oV → (Nat → oC) → Prop} : oE d 105 22 [l0, l1, l2, l3] (.inl x :: S) σ Q = if x = 0 then oE d 105 34 [l0, l1, l2, l3] S σ Q else oE d 105 25 [l0, l1, l2, l3] S σ Q := oIfEq f_105_22 (by decide)
theorem f_105_25 : oFet 105 25 = some (.aload_n 1, 1) := by decide +kernel
theorem s_105_25 {d : Nat} {l0 l2 l3 : oV} {a : Nat} {S : List oV} {σ : oSg} {Q : Option oV → (Nat → oC) → Prop} : oE d 105 25 [l0, .inr (.inr (.inl a)), l2, l3] S σ Q = oE d 105 26 [l0, .inr (.inr (.inl a)), l2, l3] (.inr (.inr (.inl a)) :: S) σ Q := pLdN (k := 1) f_105_25 rfl rfl rfl
theorem f_105_26 : oFet 105 26 = some (.iload_n 2, 1) := by decide +kernel
theorem s_105_26 {d : Nat} {l0 l1 l3 : oV} {x : Int} {S : List oV} {σ : oSg} {Q : Option oV → (Nat → oC) → Prop} : oE d 105 26 [l0, l1, .inl x, l3] S σ Q = oE d 105 27 [l0, l1, .inl x, l3] (.inl x :: S) σ Q := pLdN (k := 2) f_105_26 rfl rfl rfl
theorem f_105_27 : oFet 105 27 = some (.iload_n 3, 1) := by decide +kernel
theorem s_105_27 {d : Nat} {l0 l1 l2 : oV} {x : Int} {S : List oV} {σ : oSg} {Q : Option oV → (Nat → oC) → Prop} : oE d 105 27 [l0, l1, l2, .inl x] S σ Q = oE d 105 28 [l0, l1, l2, .inl x] (.inl x :: S) σ Q := pLdN (k := 3) f_105_27 rfl rfl rfl
theorem f_105_28 : oFet 105 28 = some (.invokevirtual 277, 3) := by decide +kernel
theorem c_105_28 {d : Nat} {l0 l1 l2 l3 : oV} {x0 x1 : oV} {a : Nat} {v : Option oV} {τ : oSg} {S : List oV} {σ : oSg} {Q : Option oV → (Nat → oC) → Prop} (hm : oMi d 94 [.inr (.inr (.inl a)), x0, x1] σ v τ) (hk : oKd a = some 7) (hs : oSmall S = true) : oE d 105 28 [l0, l1, l2, l3] (x1 :: x0 :: .inr (.inr (.inl a)) :: S) σ Q = oE d 105 31 [l0, l1, l2, l3] (v.toList ++ S) τ Q := pCallV f_105_28 ow_105 lk_10_277 mt_94 rfl rfl rfl hk hs hm
theorem f_105_31 : oFet 105 31 = some (.goto 4, 3) := by decide +kernel
theorem s_105_31 {d : Nat} {l0 l1 l2 l3 : oV} {S : List oV} {σ : oSg} {Q : Option oV → (Nat → oC) → Prop} : oE d 105 31 [l0, l1, l2, l3] S σ Q = oE d 105 35 [l0, l1, l2, l3] S σ Q := pGoto f_105_31 (by decide)
theorem f_105_34 : oFet 105 34 = some (.iconst (-1), 1) := by decide +kernel
theorem s_105_34 {d : Nat} {l0 l1 l2 l3 : oV} {S : List oV} {σ : oSg} {Q : Option oV → (Nat → oC) → Prop} : oE d 105 34 [l0, l1, l2, l3] S σ Q = oE d 105 35 [l0, l1, l2, l3] (.inl (-1) :: S) σ Q := pKst f_105_34 (by decide)
theorem f_105_35 : oFet 105 35 = some (.ireturn, 1) := by decide +kernel
theorem s_105_35 {d : Nat} {l0 l1 l2 l3 : oV} {x : Int} {σ : oSg} {Q : Option oV → (Nat → oC) → Prop} : oE d 105 35 [l0, l1, l2, l3] [.inl x] σ Q = Q (some (.inl x)) (oBld σ) := oIret f_105_35 rt_105
theorem ow_106 : (oMt 106).2.2.2.2.1 = 10 := by decide +kernel
theorem rt_106 : (oMt 106).2.2.2.1 = some .int := by decide +kernel
theorem nl_106 : (oMt 106).2.2.1 = 7 := by decide +kernel
theorem f_106_0 : oFet 106 0 = some (.aload_n 0, 1) := by decide +kernel
theorem s_106_0 {d : Nat} {l1 l2 l3 l4 l5 l6 : oV} {a : Nat} {S : List oV} {σ : oSg} {Q : Option oV → (Nat → oC) → Prop} : oE d 106 0 [.inr (.inr (.inl a)), l1, l2, l3, l4, l5, l6] S σ Q = oE d 106 1 [.inr (.inr (.inl a)), l1, l2, l3, l4, l5, l6] (.inr (.inr (.inl a)) :: S) σ Q := pLdN (k := 0) f_106_0 rfl rfl rfl
theorem f_106_1 : oFet 106 1 = some (.getfield 12, 3) := by decide +kernel
theorem s_106_1 {d : Nat} {l0 l1 l2 l3 l4 l5 l6 : oV} {a : Nat} {S : List oV} {σ : oSg} {Q : Option oV → (Nat → oC) → Prop} (hk : oKd a = some 10) : oE d 106 1 [l0, l1, l2, l3, l4, l5, l6] (.inr (.inr (.inl a)) :: S) σ Q = oE d 106 4 [l0, l1, l2, l3, l4, l5, l6] (.inr (.inr (.inl (oRf a 0))) :: S) σ Q := pGfR f_106_1 ow_106 fl_10_12 rfl (by decide) hk
theorem f_106_4 : oFet 106 4 = some (.getfield 73, 3) := by decide +kernel
theorem s_106_4 {d : Nat} {l0 l1 l2 l3 l4 l5 l6 : oV} {a : Nat} {S : List oV} {σ : oSg} {Q : Option oV → (Nat → oC) → Prop} (hk : oKd a = some 1) : oE d 106 4 [l0, l1, l2, l3, l4, l5, l6] (.inr (.inr (.inl a)) :: S) σ Q = oE d 106 7 [l0, l1, l2, l3, l4, l5, l6] (.inr (.inr (.inl (oRf a 0))) :: S) σ Q := pGfR f_106_4 ow_106 fl_10_73 rfl (by decide) hk
theorem f_106_7 : oFet 106 7 = some (.iload_n 1, 1) := by decide +kernel
theorem s_106_7 {d : Nat} {l0 l2 l3 l4 l5 l6 : oV} {x : Int} {S : List oV} {σ : oSg} {Q : Option oV → (Nat → oC) → Prop} : oE d 106 7 [l0, .inl x, l2, l3, l4, l5, l6] S σ Q = oE d 106 8 [l0, .inl x, l2, l3, l4, l5, l6] (.inl x :: S) σ Q := pLdN (k := 1) f_106_7 rfl rfl rfl
theorem f_106_8 : oFet 106 8 = some (.iload_n 2, 1) := by decide +kernel
theorem s_106_8 {d : Nat} {l0 l1 l3 l4 l5 l6 : oV} {x : Int} {S : List oV} {σ : oSg} {Q : Option oV → (Nat → oC) → Prop} : oE d 106 8 [l0, l1, .inl x, l3, l4, l5, l6] S σ Q = oE d 106 9 [l0, l1, .inl x, l3, l4, l5, l6] (.inl x :: S) σ Q := pLdN (k := 2) f_106_8 rfl rfl rfl
theorem f_106_9 : oFet 106 9 = some (.invokevirtual 80, 3) := by decide +kernel
theorem c_106_9 {d : Nat} {l0 l1 l2 l3 l4 l5 l6 : oV} {x0 x1 : oV} {a : Nat} {v : Option oV} {τ : oSg} {S : List oV} {σ : oSg} {Q : Option oV → (Nat → oC) → Prop} (hm : oMi d 14 [.inr (.inr (.inl a)), x0, x1] σ v τ) (hk : oKd a = some 4) (hs : oSmall S = true) : oE d 106 9 [l0, l1, l2, l3, l4, l5, l6] (x1 :: x0 :: .inr (.inr (.inl a)) :: S) σ Q = oE d 106 12 [l0, l1, l2, l3, l4, l5, l6] (v.toList ++ S) τ Q := pCallV f_106_9 ow_106 lk_10_80 mt_14 rfl rfl rfl hk hs hm
theorem f_106_12 : oFet 106 12 = some (.ifCond .eq 12, 3) := by decide +kernel
theorem s_106_12 {d : Nat} {l0 l1 l2 l3 l4 l5 l6 : oV} {x : Int} {S : List oV} {σ : oSg} {Q : Option oV → (Nat → oC) → Prop} : oE d 106 12 [l0, l1, l2, l3, l4, l5, l6] (.inl x :: S) σ Q = if x = 0 then oE d 106 24 [l0, l1, l2, l3, l4, l5, l6] S σ Q else oE d 106 15 [l0, l1, l2, l3, l4, l5, l6] S σ Q := oIfEq f_106_12 (by decide)
theorem f_106_15 : oFet 106 15 = some (.iload_n 3, 1) := by decide +kernel
theorem s_106_15 {d : Nat} {l0 l1 l2 l4 l5 l6 : oV} {x : Int} {S : List oV} {σ : oSg} {Q : Option oV → (Nat → oC) → Prop} : oE d 106 15 [l0, l1, l2, .inl x, l4, l5, l6] S σ Q = oE d 106 16 [l0, l1, l2, .inl x, l4, l5, l6] (.inl x :: S) σ Q := pLdN (k := 3) f_106_15 rfl rfl rfl
theorem f_106_16 : oFet 106 16 = some (.ifCond .lt 8, 3) := by decide +kernel
theorem s_106_16 {d : Nat} {l0 l1 l2 l3 l4 l5 l6 : oV} {x : Int} {S : List oV} {σ : oSg} {Q : Option oV → (Nat → oC) → Prop} : oE d 106 16 [l0, l1, l2, l3, l4, l5, l6] (.inl x :: S) σ Q = if x < 0 then oE d 106 24 [l0, l1, l2, l3, l4, l5, l6] S σ Q else oE d 106 19 [l0, l1, l2, l3, l4, l5, l6] S σ Q := oIfLt f_106_16 (by decide)
theorem f_106_19 : oFet 106 19 = some (.iload_n 3, 1) := by decide +kernel
theorem s_106_19 {d : Nat} {l0 l1 l2 l4 l5 l6 : oV} {x : Int} {S : List oV} {σ : oSg} {Q : Option oV → (Nat → oC) → Prop} : oE d 106 19 [l0, l1, l2, .inl x, l4, l5, l6] S σ Q = oE d 106 20 [l0, l1, l2, .inl x, l4, l5, l6] (.inl x :: S) σ Q := pLdN (k := 3) f_106_19 rfl rfl rfl
theorem f_106_20 : oFet 106 20 = some (.iconst 1, 1) := by decide +kernel
theorem s_106_20 {d : Nat} {l0 l1 l2 l3 l4 l5 l6 : oV} {S : List oV} {σ : oSg} {Q : Option oV → (Nat → oC) → Prop} : oE d 106 20 [l0, l1, l2, l3, l4, l5, l6] S σ Q = oE d 106 21 [l0, l1, l2, l3, l4, l5, l6] (.inl (1) :: S) σ Q := pKst f_106_20 (by decide)
theorem f_106_21 : oFet 106 21 = some (.if_icmp .le 5, 3) := by decide +kernel
theorem s_106_21 {d : Nat} {l0 l1 l2 l3 l4 l5 l6 : oV} {x y : Int} {S : List oV} {σ : oSg} {Q : Option oV → (Nat → oC) → Prop} : oE d 106 21 [l0, l1, l2, l3, l4, l5, l6] (.inl y :: .inl x :: S) σ Q = if x ≤ y then oE d 106 26 [l0, l1, l2, l3, l4, l5, l6] S σ Q else oE d 106 24 [l0, l1, l2, l3, l4, l5, l6] S σ Q := oCmpLe f_106_21 (by decide)
theorem f_106_24 : oFet 106 24 = some (.iconst (-1), 1) := by decide +kernel
theorem s_106_24 {d : Nat} {l0 l1 l2 l3 l4 l5 l6 : oV} {S : List oV} {σ : oSg} {Q : Option oV → (Nat → oC) → Prop} : oE d 106 24 [l0, l1, l2, l3, l4, l5, l6] S σ Q = oE d 106 25 [l0, l1, l2, l3, l4, l5, l6] (.inl (-1) :: S) σ Q := pKst f_106_24 (by decide)
theorem f_106_25 : oFet 106 25 = some (.ireturn, 1) := by decide +kernel
theorem s_106_25 {d : Nat} {l0 l1 l2 l3 l4 l5 l6 : oV} {x : Int} {σ : oSg} {Q : Option oV → (Nat → oC) → Prop} : oE d 106 25 [l0, l1, l2, l3, l4, l5, l6] [.inl x] σ Q = Q (some (.inl x)) (oBld σ) := oIret f_106_25 rt_106
theorem f_106_26 : oFet 106 26 = some (.iconst 0, 1) := by decide +kernel
theorem s_106_26 {d : Nat} {l0 l1 l2 l3 l4 l5 l6 : oV} {S : List oV} {σ : oSg} {Q : Option oV → (Nat → oC) → Prop} : oE d 106 26 [l0, l1, l2, l3, l4, l5, l6] S σ Q = oE d 106 27 [l0, l1, l2, l3, l4, l5, l6] (.inl (0) :: S) σ Q := pKst f_106_26 (by decide)
theorem f_106_27 : oFet 106 27 = some (.istore 4, 2) := by decide +kernel
theorem s_106_27 {d : Nat} {l0 l1 l2 l3 l4 l5 l6 : oV} {x : Int} {S : List oV} {σ : oSg} {Q : Option oV → (Nat → oC) → Prop} (c4 : oCat l4 = 1) (c3 : oCat l3 = 1)  : oE d 106 27 [l0, l1, l2, l3, l4, l5, l6] (.inl x :: S) σ Q = oE d 106 29 [l0, l1, l2, l3, .inl x, l5, l6] S σ Q := pSt (i := 4) f_106_27 rfl rfl (show (4 : Nat) < 7 by decide) (oC1n c3) (oC1n c4) rfl
theorem f_106_29 : oFet 106 29 = some (.bipush (-5), 2) := by decide +kernel
theorem s_106_29 {d : Nat} {l0 l1 l2 l3 l4 l5 l6 : oV} {S : List oV} {σ : oSg} {Q : Option oV → (Nat → oC) → Prop} : oE d 106 29 [l0, l1, l2, l3, l4, l5, l6] S σ Q = oE d 106 31 [l0, l1, l2, l3, l4, l5, l6] (.inl (-5) :: S) σ Q := pBip f_106_29 (by decide)
theorem f_106_31 : oFet 106 31 = some (.istore 5, 2) := by decide +kernel
theorem s_106_31 {d : Nat} {l0 l1 l2 l3 l4 l5 l6 : oV} {x : Int} {S : List oV} {σ : oSg} {Q : Option oV → (Nat → oC) → Prop} (c5 : oCat l5 = 1) (c4 : oCat l4 = 1)  : oE d 106 31 [l0, l1, l2, l3, l4, l5, l6] (.inl x :: S) σ Q = oE d 106 33 [l0, l1, l2, l3, l4, .inl x, l6] S σ Q := pSt (i := 5) f_106_31 rfl rfl (show (5 : Nat) < 7 by decide) (oC1n c4) (oC1n c5) rfl
theorem f_106_33 : oFet 106 33 = some (.aload_n 0, 1) := by decide +kernel
theorem s_106_33 {d : Nat} {l1 l2 l3 l4 l5 l6 : oV} {a : Nat} {S : List oV} {σ : oSg} {Q : Option oV → (Nat → oC) → Prop} : oE d 106 33 [.inr (.inr (.inl a)), l1, l2, l3, l4, l5, l6] S σ Q = oE d 106 34 [.inr (.inr (.inl a)), l1, l2, l3, l4, l5, l6] (.inr (.inr (.inl a)) :: S) σ Q := pLdN (k := 0) f_106_33 rfl rfl rfl
theorem f_106_34 : oFet 106 34 = some (.getfield 38, 3) := by decide +kernel
theorem s_106_34 {d : Nat} {l0 l1 l2 l3 l4 l5 l6 : oV} {a : Nat} {S : List oV} {σ : oSg} {Q : Option oV → (Nat → oC) → Prop} (hk : oKd a = some 10) : oE d 106 34 [l0, l1, l2, l3, l4, l5, l6] (.inr (.inr (.inl a)) :: S) σ Q = oE d 106 37 [l0, l1, l2, l3, l4, l5, l6] (.inr (.inr (.inl (oRf a 5))) :: S) σ Q := pGfR f_106_34 ow_106 fl_10_38 rfl (by decide) hk
theorem f_106_37 : oFet 106 37 = some (.aload_n 0, 1) := by decide +kernel
theorem s_106_37 {d : Nat} {l1 l2 l3 l4 l5 l6 : oV} {a : Nat} {S : List oV} {σ : oSg} {Q : Option oV → (Nat → oC) → Prop} : oE d 106 37 [.inr (.inr (.inl a)), l1, l2, l3, l4, l5, l6] S σ Q = oE d 106 38 [.inr (.inr (.inl a)), l1, l2, l3, l4, l5, l6] (.inr (.inr (.inl a)) :: S) σ Q := pLdN (k := 0) f_106_37 rfl rfl rfl
theorem f_106_38 : oFet 106 38 = some (.getfield 12, 3) := by decide +kernel
theorem s_106_38 {d : Nat} {l0 l1 l2 l3 l4 l5 l6 : oV} {a : Nat} {S : List oV} {σ : oSg} {Q : Option oV → (Nat → oC) → Prop} (hk : oKd a = some 10) : oE d 106 38 [l0, l1, l2, l3, l4, l5, l6] (.inr (.inr (.inl a)) :: S) σ Q = oE d 106 41 [l0, l1, l2, l3, l4, l5, l6] (.inr (.inr (.inl (oRf a 0))) :: S) σ Q := pGfR f_106_38 ow_106 fl_10_12 rfl (by decide) hk
theorem f_106_41 : oFet 106 41 = some (.getfield 73, 3) := by decide +kernel
theorem s_106_41 {d : Nat} {l0 l1 l2 l3 l4 l5 l6 : oV} {a : Nat} {S : List oV} {σ : oSg} {Q : Option oV → (Nat → oC) → Prop} (hk : oKd a = some 1) : oE d 106 41 [l0, l1, l2, l3, l4, l5, l6] (.inr (.inr (.inl a)) :: S) σ Q = oE d 106 44 [l0, l1, l2, l3, l4, l5, l6] (.inr (.inr (.inl (oRf a 0))) :: S) σ Q := pGfR f_106_41 ow_106 fl_10_73 rfl (by decide) hk
theorem f_106_44 : oFet 106 44 = some (.invokevirtual 205, 3) := by decide +kernel
theorem c_106_44 {d : Nat} {l0 l1 l2 l3 l4 l5 l6 : oV} {x0 : oV} {a : Nat} {v : Option oV} {τ : oSg} {S : List oV} {σ : oSg} {Q : Option oV → (Nat → oC) → Prop} (hm : oMi d 71 [.inr (.inr (.inl a)), x0] σ v τ) (hk : oKd a = some 4) (hs : oSmall S = true) : oE d 106 44 [l0, l1, l2, l3, l4, l5, l6] (x0 :: .inr (.inr (.inl a)) :: S) σ Q = oE d 106 47 [l0, l1, l2, l3, l4, l5, l6] (v.toList ++ S) τ Q := pCallV f_106_44 ow_106 lk_10_205 mt_71 rfl rfl rfl hk hs hm
theorem f_106_47 : oFet 106 47 = some (.bipush 20, 2) := by decide +kernel
theorem s_106_47 {d : Nat} {l0 l1 l2 l3 l4 l5 l6 : oV} {S : List oV} {σ : oSg} {Q : Option oV → (Nat → oC) → Prop} : oE d 106 47 [l0, l1, l2, l3, l4, l5, l6] S σ Q = oE d 106 49 [l0, l1, l2, l3, l4, l5, l6] (.inl (20) :: S) σ Q := pBip f_106_47 (by decide)
theorem f_106_49 : oFet 106 49 = some (.istore 6, 2) := by decide +kernel
theorem s_106_49 {d : Nat} {l0 l1 l2 l3 l4 l5 l6 : oV} {x : Int} {S : List oV} {σ : oSg} {Q : Option oV → (Nat → oC) → Prop} (c6 : oCat l6 = 1) (c5 : oCat l5 = 1)  : oE d 106 49 [l0, l1, l2, l3, l4, l5, l6] (.inl x :: S) σ Q = oE d 106 51 [l0, l1, l2, l3, l4, l5, .inl x] S σ Q := pSt (i := 6) f_106_49 rfl rfl (show (6 : Nat) < 7 by decide) (oC1n c5) (oC1n c6) rfl
theorem f_106_51 : oFet 106 51 = some (.iload 6, 2) := by decide +kernel
theorem s_106_51 {d : Nat} {l0 l1 l2 l3 l4 l5 : oV} {x : Int} {S : List oV} {σ : oSg} {Q : Option oV → (Nat → oC) → Prop} : oE d 106 51 [l0, l1, l2, l3, l4, l5, .inl x] S σ Q = oE d 106 53 [l0, l1, l2, l3, l4, l5, .inl x] (.inl x :: S) σ Q := pLd (i := 6) f_106_51 rfl rfl rfl
theorem f_106_53 : oFet 106 53 = some (.ifCond .lt 56, 3) := by decide +kernel
theorem s_106_53 {d : Nat} {l0 l1 l2 l3 l4 l5 l6 : oV} {x : Int} {S : List oV} {σ : oSg} {Q : Option oV → (Nat → oC) → Prop} : oE d 106 53 [l0, l1, l2, l3, l4, l5, l6] (.inl x :: S) σ Q = if x < 0 then oE d 106 109 [l0, l1, l2, l3, l4, l5, l6] S σ Q else oE d 106 56 [l0, l1, l2, l3, l4, l5, l6] S σ Q := oIfLt f_106_53 (by decide)
theorem f_106_56 : oFet 106 56 = some (.aload_n 0, 1) := by decide +kernel
theorem s_106_56 {d : Nat} {l1 l2 l3 l4 l5 l6 : oV} {a : Nat} {S : List oV} {σ : oSg} {Q : Option oV → (Nat → oC) → Prop} : oE d 106 56 [.inr (.inr (.inl a)), l1, l2, l3, l4, l5, l6] S σ Q = oE d 106 57 [.inr (.inr (.inl a)), l1, l2, l3, l4, l5, l6] (.inr (.inr (.inl a)) :: S) σ Q := pLdN (k := 0) f_106_56 rfl rfl rfl
theorem f_106_57 : oFet 106 57 = some (.getfield 38, 3) := by decide +kernel
theorem s_106_57 {d : Nat} {l0 l1 l2 l3 l4 l5 l6 : oV} {a : Nat} {S : List oV} {σ : oSg} {Q : Option oV → (Nat → oC) → Prop} (hk : oKd a = some 10) : oE d 106 57 [l0, l1, l2, l3, l4, l5, l6] (.inr (.inr (.inl a)) :: S) σ Q = oE d 106 60 [l0, l1, l2, l3, l4, l5, l6] (.inr (.inr (.inl (oRf a 5))) :: S) σ Q := pGfR f_106_57 ow_106 fl_10_38 rfl (by decide) hk
theorem f_106_60 : oFet 106 60 = some (.iload_n 1, 1) := by decide +kernel
theorem s_106_60 {d : Nat} {l0 l2 l3 l4 l5 l6 : oV} {x : Int} {S : List oV} {σ : oSg} {Q : Option oV → (Nat → oC) → Prop} : oE d 106 60 [l0, .inl x, l2, l3, l4, l5, l6] S σ Q = oE d 106 61 [l0, .inl x, l2, l3, l4, l5, l6] (.inl x :: S) σ Q := pLdN (k := 1) f_106_60 rfl rfl rfl
theorem f_106_61 : oFet 106 61 = some (.iload_n 2, 1) := by decide +kernel
theorem s_106_61 {d : Nat} {l0 l1 l3 l4 l5 l6 : oV} {x : Int} {S : List oV} {σ : oSg} {Q : Option oV → (Nat → oC) → Prop} : oE d 106 61 [l0, l1, .inl x, l3, l4, l5, l6] S σ Q = oE d 106 62 [l0, l1, .inl x, l3, l4, l5, l6] (.inl x :: S) σ Q := pLdN (k := 2) f_106_61 rfl rfl rfl
theorem f_106_62 : oFet 106 62 = some (.iload 6, 2) := by decide +kernel
theorem s_106_62 {d : Nat} {l0 l1 l2 l3 l4 l5 : oV} {x : Int} {S : List oV} {σ : oSg} {Q : Option oV → (Nat → oC) → Prop} : oE d 106 62 [l0, l1, l2, l3, l4, l5, .inl x] S σ Q = oE d 106 64 [l0, l1, l2, l3, l4, l5, .inl x] (.inl x :: S) σ Q := pLd (i := 6) f_106_62 rfl rfl rfl
theorem f_106_64 : oFet 106 64 = some (.invokevirtual 88, 3) := by decide +kernel
theorem c_106_64 {d : Nat} {l0 l1 l2 l3 l4 l5 l6 : oV} {x0 x1 x2 : oV} {a : Nat} {v : Option oV} {τ : oSg} {S : List oV} {σ : oSg} {Q : Option oV → (Nat → oC) → Prop} (hm : oMi d 17 [.inr (.inr (.inl a)), x0, x1, x2] σ v τ) (hk : oKd a = some 4) (hs : oSmall S = true) : oE d 106 64 [l0, l1, l2, l3, l4, l5, l6] (x2 :: x1 :: x0 :: .inr (.inr (.inl a)) :: S) σ Q = oE d 106 67 [l0, l1, l2, l3, l4, l5, l6] (v.toList ++ S) τ Q := pCallV f_106_64 ow_106 lk_10_88 mt_17 rfl rfl rfl hk hs hm
theorem f_106_67 : oFet 106 67 = some (.aload_n 0, 1) := by decide +kernel
theorem s_106_67 {d : Nat} {l1 l2 l3 l4 l5 l6 : oV} {a : Nat} {S : List oV} {σ : oSg} {Q : Option oV → (Nat → oC) → Prop} : oE d 106 67 [.inr (.inr (.inl a)), l1, l2, l3, l4, l5, l6] S σ Q = oE d 106 68 [.inr (.inr (.inl a)), l1, l2, l3, l4, l5, l6] (.inr (.inr (.inl a)) :: S) σ Q := pLdN (k := 0) f_106_67 rfl rfl rfl
theorem f_106_68 : oFet 106 68 = some (.getfield 49, 3) := by decide +kernel
theorem s_106_68 {d : Nat} {l0 l1 l2 l3 l4 l5 l6 : oV} {a : Nat} {S : List oV} {σ : oSg} {Q : Option oV → (Nat → oC) → Prop} (hk : oKd a = some 10) : oE d 106 68 [l0, l1, l2, l3, l4, l5, l6] (.inr (.inr (.inl a)) :: S) σ Q = oE d 106 71 [l0, l1, l2, l3, l4, l5, l6] (.inr (.inr (.inl (oRf a 7))) :: S) σ Q := pGfR f_106_68 ow_106 fl_10_49 rfl (by decide) hk
theorem f_106_71 : oFet 106 71 = some (.aload_n 0, 1) := by decide +kernel
theorem s_106_71 {d : Nat} {l1 l2 l3 l4 l5 l6 : oV} {a : Nat} {S : List oV} {σ : oSg} {Q : Option oV → (Nat → oC) → Prop} : oE d 106 71 [.inr (.inr (.inl a)), l1, l2, l3, l4, l5, l6] S σ Q = oE d 106 72 [.inr (.inr (.inl a)), l1, l2, l3, l4, l5, l6] (.inr (.inr (.inl a)) :: S) σ Q := pLdN (k := 0) f_106_71 rfl rfl rfl
theorem f_106_72 : oFet 106 72 = some (.getfield 38, 3) := by decide +kernel
theorem s_106_72 {d : Nat} {l0 l1 l2 l3 l4 l5 l6 : oV} {a : Nat} {S : List oV} {σ : oSg} {Q : Option oV → (Nat → oC) → Prop} (hk : oKd a = some 10) : oE d 106 72 [l0, l1, l2, l3, l4, l5, l6] (.inr (.inr (.inl a)) :: S) σ Q = oE d 106 75 [l0, l1, l2, l3, l4, l5, l6] (.inr (.inr (.inl (oRf a 5))) :: S) σ Q := pGfR f_106_72 ow_106 fl_10_38 rfl (by decide) hk
theorem f_106_75 : oFet 106 75 = some (.iconst 0, 1) := by decide +kernel
theorem s_106_75 {d : Nat} {l0 l1 l2 l3 l4 l5 l6 : oV} {S : List oV} {σ : oSg} {Q : Option oV → (Nat → oC) → Prop} : oE d 106 75 [l0, l1, l2, l3, l4, l5, l6] S σ Q = oE d 106 76 [l0, l1, l2, l3, l4, l5, l6] (.inl (0) :: S) σ Q := pKst f_106_75 (by decide)
theorem f_106_76 : oFet 106 76 = some (.invokevirtual 124, 3) := by decide +kernel
theorem c_106_76 {d : Nat} {l0 l1 l2 l3 l4 l5 l6 : oV} {x0 x1 : oV} {a : Nat} {v : Option oV} {τ : oSg} {S : List oV} {σ : oSg} {Q : Option oV → (Nat → oC) → Prop} (hm : oMi d 33 [.inr (.inr (.inl a)), x0, x1] σ v τ) (hk : oKd a = some 3) (hs : oSmall S = true) : oE d 106 76 [l0, l1, l2, l3, l4, l5, l6] (x1 :: x0 :: .inr (.inr (.inl a)) :: S) σ Q = oE d 106 79 [l0, l1, l2, l3, l4, l5, l6] (v.toList ++ S) τ Q := pCallV f_106_76 ow_106 lk_10_124 mt_33 rfl rfl rfl hk hs hm
theorem f_106_79 : oFet 106 79 = some (.aload_n 0, 1) := by decide +kernel
theorem s_106_79 {d : Nat} {l1 l2 l3 l4 l5 l6 : oV} {a : Nat} {S : List oV} {σ : oSg} {Q : Option oV → (Nat → oC) → Prop} : oE d 106 79 [.inr (.inr (.inl a)), l1, l2, l3, l4, l5, l6] S σ Q = oE d 106 80 [.inr (.inr (.inl a)), l1, l2, l3, l4, l5, l6] (.inr (.inr (.inl a)) :: S) σ Q := pLdN (k := 0) f_106_79 rfl rfl rfl
theorem f_106_80 : oFet 106 80 = some (.getfield 49, 3) := by decide +kernel
theorem s_106_80 {d : Nat} {l0 l1 l2 l3 l4 l5 l6 : oV} {a : Nat} {S : List oV} {σ : oSg} {Q : Option oV → (Nat → oC) → Prop} (hk : oKd a = some 10) : oE d 106 80 [l0, l1, l2, l3, l4, l5, l6] (.inr (.inr (.inl a)) :: S) σ Q = oE d 106 83 [l0, l1, l2, l3, l4, l5, l6] (.inr (.inr (.inl (oRf a 7))) :: S) σ Q := pGfR f_106_80 ow_106 fl_10_49 rfl (by decide) hk
theorem f_106_83 : oFet 106 83 = some (.aload_n 0, 1) := by decide +kernel
theorem s_106_83 {d : Nat} {l1 l2 l3 l4 l5 l6 : oV} {a : Nat} {S : List oV} {σ : oSg} {Q : Option oV → (Nat → oC) → Prop} : oE d 106 83 [.inr (.inr (.inl a)), l1, l2, l3, l4, l5, l6] S σ Q = oE d 106 84 [.inr (.inr (.inl a)), l1, l2, l3, l4, l5, l6] (.inr (.inr (.inl a)) :: S) σ Q := pLdN (k := 0) f_106_83 rfl rfl rfl
theorem f_106_84 : oFet 106 84 = some (.getfield 12, 3) := by decide +kernel
theorem s_106_84 {d : Nat} {l0 l1 l2 l3 l4 l5 l6 : oV} {a : Nat} {S : List oV} {σ : oSg} {Q : Option oV → (Nat → oC) → Prop} (hk : oKd a = some 10) : oE d 106 84 [l0, l1, l2, l3, l4, l5, l6] (.inr (.inr (.inl a)) :: S) σ Q = oE d 106 87 [l0, l1, l2, l3, l4, l5, l6] (.inr (.inr (.inl (oRf a 0))) :: S) σ Q := pGfR f_106_84 ow_106 fl_10_12 rfl (by decide) hk
theorem f_106_87 : oFet 106 87 = some (.getfield 293, 3) := by decide +kernel
theorem s_106_87 {d : Nat} {l0 l1 l2 l3 l4 l5 l6 : oV} {a : Nat} {S : List oV} {σ : oSg} {Q : Option oV → (Nat → oC) → Prop} (hk : oKd a = some 1) : oE d 106 87 [l0, l1, l2, l3, l4, l5, l6] (.inr (.inr (.inl a)) :: S) σ Q = oE d 106 90 [l0, l1, l2, l3, l4, l5, l6] (.inr (.inr (.inl (oRf a 4))) :: S) σ Q := pGfR f_106_87 ow_106 fl_10_293 rfl (by decide) hk
theorem f_106_90 : oFet 106 90 = some (.invokevirtual 300, 3) := by decide +kernel
theorem c_106_90 {d : Nat} {l0 l1 l2 l3 l4 l5 l6 : oV} {x0 : oV} {a : Nat} {v : Option oV} {τ : oSg} {S : List oV} {σ : oSg} {Q : Option oV → (Nat → oC) → Prop} (hm : oMi d 107 [.inr (.inr (.inl a)), x0] σ v τ) (hk : oKd a = some 3) (hs : oSmall S = true) : oE d 106 90 [l0, l1, l2, l3, l4, l5, l6] (x0 :: .inr (.inr (.inl a)) :: S) σ Q = oE d 106 93 [l0, l1, l2, l3, l4, l5, l6] (v.toList ++ S) τ Q := pCallV f_106_90 ow_106 lk_10_300 mt_107 rfl rfl rfl hk hs hm
theorem f_106_93 : oFet 106 93 = some (.ifCond .eq 10, 3) := by decide +kernel
theorem s_106_93 {d : Nat} {l0 l1 l2 l3 l4 l5 l6 : oV} {x : Int} {S : List oV} {σ : oSg} {Q : Option oV → (Nat → oC) → Prop} : oE d 106 93 [l0, l1, l2, l3, l4, l5, l6] (.inl x :: S) σ Q = if x = 0 then oE d 106 103 [l0, l1, l2, l3, l4, l5, l6] S σ Q else oE d 106 96 [l0, l1, l2, l3, l4, l5, l6] S σ Q := oIfEq f_106_93 (by decide)
theorem f_106_96 : oFet 106 96 = some (.iinc 4 1, 3) := by decide +kernel
theorem s_106_96 {d : Nat} {l0 l1 l2 l3 l5 l6 : oV} {x : Int} {S : List oV} {σ : oSg} {Q : Option oV → (Nat → oC) → Prop} (c3 : oCat l3 = 1)  : oE d 106 96 [l0, l1, l2, l3, .inl x, l5, l6] S σ Q = oE d 106 99 [l0, l1, l2, l3, .inl (oAdd x (1)), l5, l6] S σ Q := pInc f_106_96 rfl (show (4 : Nat) < 7 by decide) (oC1n c3) (oC1n (v := .inl x) rfl) rfl
theorem f_106_99 : oFet 106 99 = some (.iload 6, 2) := by decide +kernel
theorem s_106_99 {d : Nat} {l0 l1 l2 l3 l4 l5 : oV} {x : Int} {S : List oV} {σ : oSg} {Q : Option oV → (Nat → oC) → Prop} : oE d 106 99 [l0, l1, l2, l3, l4, l5, .inl x] S σ Q = oE d 106 101 [l0, l1, l2, l3, l4, l5, .inl x] (.inl x :: S) σ Q := pLd (i := 6) f_106_99 rfl rfl rfl
theorem f_106_101 : oFet 106 101 = some (.istore 5, 2) := by decide +kernel
theorem s_106_101 {d : Nat} {l0 l1 l2 l3 l4 l5 l6 : oV} {x : Int} {S : List oV} {σ : oSg} {Q : Option oV → (Nat → oC) → Prop} (c5 : oCat l5 = 1) (c4 : oCat l4 = 1)  : oE d 106 101 [l0, l1, l2, l3, l4, l5, l6] (.inl x :: S) σ Q = oE d 106 103 [l0, l1, l2, l3, l4, .inl x, l6] S σ Q := pSt (i := 5) f_106_101 rfl rfl (show (5 : Nat) < 7 by decide) (oC1n c4) (oC1n c5) rfl
theorem f_106_103 : oFet 106 103 = some (.iinc 6 (-1), 3) := by decide +kernel
theorem s_106_103 {d : Nat} {l0 l1 l2 l3 l4 l5 : oV} {x : Int} {S : List oV} {σ : oSg} {Q : Option oV → (Nat → oC) → Prop} (c5 : oCat l5 = 1)  : oE d 106 103 [l0, l1, l2, l3, l4, l5, .inl x] S σ Q = oE d 106 106 [l0, l1, l2, l3, l4, l5, .inl (oAdd x (-1))] S σ Q := pInc f_106_103 rfl (show (6 : Nat) < 7 by decide) (oC1n c5) (oC1n (v := .inl x) rfl) rfl
theorem f_106_106 : oFet 106 106 = some (.goto (-55), 3) := by decide +kernel
theorem s_106_106 {d : Nat} {l0 l1 l2 l3 l4 l5 l6 : oV} {S : List oV} {σ : oSg} {Q : Option oV → (Nat → oC) → Prop} : oE d 106 106 [l0, l1, l2, l3, l4, l5, l6] S σ Q = oE d 106 51 [l0, l1, l2, l3, l4, l5, l6] S σ Q := pGoto f_106_106 (by decide)
theorem f_106_109 : oFet 106 109 = some (.iload_n 3, 1) := by decide +kernel
theorem s_106_109 {d : Nat} {l0 l1 l2 l4 l5 l6 : oV} {x : Int} {S : List oV} {σ : oSg} {Q : Option oV → (Nat → oC) → Prop} : oE d 106 109 [l0, l1, l2, .inl x, l4, l5, l6] S σ Q = oE d 106 110 [l0, l1, l2, .inl x, l4, l5, l6] (.inl x :: S) σ Q := pLdN (k := 3) f_106_109 rfl rfl rfl
theorem f_106_110 : oFet 106 110 = some (.ifCond .ne 8, 3) := by decide +kernel
theorem s_106_110 {d : Nat} {l0 l1 l2 l3 l4 l5 l6 : oV} {x : Int} {S : List oV} {σ : oSg} {Q : Option oV → (Nat → oC) → Prop} : oE d 106 110 [l0, l1, l2, l3, l4, l5, l6] (.inl x :: S) σ Q = if ¬ x = 0 then oE d 106 118 [l0, l1, l2, l3, l4, l5, l6] S σ Q else oE d 106 113 [l0, l1, l2, l3, l4, l5, l6] S σ Q := oIfNe f_106_110 (by decide)
theorem f_106_113 : oFet 106 113 = some (.iload 4, 2) := by decide +kernel
theorem s_106_113 {d : Nat} {l0 l1 l2 l3 l5 l6 : oV} {x : Int} {S : List oV} {σ : oSg} {Q : Option oV → (Nat → oC) → Prop} : oE d 106 113 [l0, l1, l2, l3, .inl x, l5, l6] S σ Q = oE d 106 115 [l0, l1, l2, l3, .inl x, l5, l6] (.inl x :: S) σ Q := pLd (i := 4) f_106_113 rfl rfl rfl
theorem f_106_115 : oFet 106 115 = some (.goto 5, 3) := by decide +kernel
theorem s_106_115 {d : Nat} {l0 l1 l2 l3 l4 l5 l6 : oV} {S : List oV} {σ : oSg} {Q : Option oV → (Nat → oC) → Prop} : oE d 106 115 [l0, l1, l2, l3, l4, l5, l6] S σ Q = oE d 106 120 [l0, l1, l2, l3, l4, l5, l6] S σ Q := pGoto f_106_115 (by decide)
theorem f_106_118 : oFet 106 118 = some (.iload 5, 2) := by decide +kernel
theorem s_106_118 {d : Nat} {l0 l1 l2 l3 l4 l6 : oV} {x : Int} {S : List oV} {σ : oSg} {Q : Option oV → (Nat → oC) → Prop} : oE d 106 118 [l0, l1, l2, l3, l4, .inl x, l6] S σ Q = oE d 106 120 [l0, l1, l2, l3, l4, .inl x, l6] (.inl x :: S) σ Q := pLd (i := 5) f_106_118 rfl rfl rfl
theorem f_106_120 : oFet 106 120 = some (.ireturn, 1) := by decide +kernel
theorem s_106_120 {d : Nat} {l0 l1 l2 l3 l4 l5 l6 : oV} {x : Int} {σ : oSg} {Q : Option oV → (Nat → oC) → Prop} : oE d 106 120 [l0, l1, l2, l3, l4, l5, l6] [.inl x] σ Q = Q (some (.inl x)) (oBld σ) := oIret f_106_120 rt_106
theorem ow_107 : (oMt 107).2.2.2.2.1 = 3 := by decide +kernel
theorem rt_107 : (oMt 107).2.2.2.1 = some .boolean := by decide +kernel
theorem nl_107 : (oMt 107).2.2.1 = 3 := by decide +kernel
theorem f_107_0 : oFet 107 0 = some (.iconst 0, 1) := by decide +kernel
theorem s_107_0 {d : Nat} {l0 l1 l2 : oV} {S : List oV} {σ : oSg} {Q : Option oV → (Nat → oC) → Prop} : oE d 107 0 [l0, l1, l2] S σ Q = oE d 107 1 [l0, l1, l2] (.inl (0) :: S) σ Q := pKst f_107_0 (by decide)
theorem f_107_1 : oFet 107 1 = some (.istore_n 2, 1) := by decide +kernel
theorem s_107_1 {d : Nat} {l0 l1 l2 : oV} {x : Int} {S : List oV} {σ : oSg} {Q : Option oV → (Nat → oC) → Prop} (c2 : oCat l2 = 1) (c1 : oCat l1 = 1)  : oE d 107 1 [l0, l1, l2] (.inl x :: S) σ Q = oE d 107 2 [l0, l1, .inl x] S σ Q := pSt (i := 2) f_107_1 rfl rfl (show (2 : Nat) < 3 by decide) (oC1n c1) (oC1n c2) rfl
theorem f_107_2 : oFet 107 2 = some (.iload_n 2, 1) := by decide +kernel
theorem s_107_2 {d : Nat} {l0 l1 : oV} {x : Int} {S : List oV} {σ : oSg} {Q : Option oV → (Nat → oC) → Prop} : oE d 107 2 [l0, l1, .inl x] S σ Q = oE d 107 3 [l0, l1, .inl x] (.inl x :: S) σ Q := pLdN (k := 2) f_107_2 rfl rfl rfl
theorem f_107_3 : oFet 107 3 = some (.aload_n 1, 1) := by decide +kernel
theorem s_107_3 {d : Nat} {l0 l2 : oV} {a : Nat} {S : List oV} {σ : oSg} {Q : Option oV → (Nat → oC) → Prop} : oE d 107 3 [l0, .inr (.inr (.inl a)), l2] S σ Q = oE d 107 4 [l0, .inr (.inr (.inl a)), l2] (.inr (.inr (.inl a)) :: S) σ Q := pLdN (k := 1) f_107_3 rfl rfl rfl
theorem f_107_4 : oFet 107 4 = some (.getfield 84, 3) := by decide +kernel
theorem s_107_4 {d : Nat} {l0 l1 l2 : oV} {a : Nat} {S : List oV} {σ : oSg} {Q : Option oV → (Nat → oC) → Prop} (hk : oKd a = some 7) : oE d 107 4 [l0, l1, l2] (.inr (.inr (.inl a)) :: S) σ Q = oE d 107 7 [l0, l1, l2] (.inl (σ.1 a 0) :: S) σ Q := pGfI f_107_4 ow_107 fl_3_84 rfl (by decide) hk
theorem f_107_7 : oFet 107 7 = some (.if_icmp .ge 28, 3) := by decide +kernel
theorem s_107_7 {d : Nat} {l0 l1 l2 : oV} {x y : Int} {S : List oV} {σ : oSg} {Q : Option oV → (Nat → oC) → Prop} : oE d 107 7 [l0, l1, l2] (.inl y :: .inl x :: S) σ Q = if y ≤ x then oE d 107 35 [l0, l1, l2] S σ Q else oE d 107 10 [l0, l1, l2] S σ Q := oCmpGe f_107_7 (by decide)
theorem f_107_10 : oFet 107 10 = some (.aload_n 0, 1) := by decide +kernel
theorem s_107_10 {d : Nat} {l1 l2 : oV} {a : Nat} {S : List oV} {σ : oSg} {Q : Option oV → (Nat → oC) → Prop} : oE d 107 10 [.inr (.inr (.inl a)), l1, l2] S σ Q = oE d 107 11 [.inr (.inr (.inl a)), l1, l2] (.inr (.inr (.inl a)) :: S) σ Q := pLdN (k := 0) f_107_10 rfl rfl rfl
theorem f_107_11 : oFet 107 11 = some (.aload_n 1, 1) := by decide +kernel
theorem s_107_11 {d : Nat} {l0 l2 : oV} {a : Nat} {S : List oV} {σ : oSg} {Q : Option oV → (Nat → oC) → Prop} : oE d 107 11 [l0, .inr (.inr (.inl a)), l2] S σ Q = oE d 107 12 [l0, .inr (.inr (.inl a)), l2] (.inr (.inr (.inl a)) :: S) σ Q := pLdN (k := 1) f_107_11 rfl rfl rfl
theorem f_107_12 : oFet 107 12 = some (.iload_n 2, 1) := by decide +kernel
theorem s_107_12 {d : Nat} {l0 l1 : oV} {x : Int} {S : List oV} {σ : oSg} {Q : Option oV → (Nat → oC) → Prop} : oE d 107 12 [l0, l1, .inl x] S σ Q = oE d 107 13 [l0, l1, .inl x] (.inl x :: S) σ Q := pLdN (k := 2) f_107_12 rfl rfl rfl
theorem f_107_13 : oFet 107 13 = some (.invokevirtual 89, 3) := by decide +kernel
theorem c_107_13 {d : Nat} {l0 l1 l2 : oV} {x0 : oV} {a : Nat} {v : Option oV} {τ : oSg} {S : List oV} {σ : oSg} {Q : Option oV → (Nat → oC) → Prop} (hm : oMi d 80 [.inr (.inr (.inl a)), x0] σ v τ) (hk : oKd a = some 7) (hs : oSmall S = true) : oE d 107 13 [l0, l1, l2] (x0 :: .inr (.inr (.inl a)) :: S) σ Q = oE d 107 16 [l0, l1, l2] (v.toList ++ S) τ Q := pCallV f_107_13 ow_107 lk_3_89 mt_80 rfl rfl rfl hk hs hm
theorem f_107_16 : oFet 107 16 = some (.invokevirtual 92, 3) := by decide +kernel
theorem c_107_16 {d : Nat} {l0 l1 l2 : oV} {x0 : oV} {a : Nat} {v : Option oV} {τ : oSg} {S : List oV} {σ : oSg} {Q : Option oV → (Nat → oC) → Prop} (hm : oMi d 41 [.inr (.inr (.inl a)), x0] σ v τ) (hk : oKd a = some 3) (hs : oSmall S = true) : oE d 107 16 [l0, l1, l2] (x0 :: .inr (.inr (.inl a)) :: S) σ Q = oE d 107 19 [l0, l1, l2] (v.toList ++ S) τ Q := pCallV f_107_16 ow_107 lk_3_92 mt_41 rfl rfl rfl hk hs hm
theorem f_107_19 : oFet 107 19 = some (.aload_n 1, 1) := by decide +kernel
theorem s_107_19 {d : Nat} {l0 l2 : oV} {a : Nat} {S : List oV} {σ : oSg} {Q : Option oV → (Nat → oC) → Prop} : oE d 107 19 [l0, .inr (.inr (.inl a)), l2] S σ Q = oE d 107 20 [l0, .inr (.inr (.inl a)), l2] (.inr (.inr (.inl a)) :: S) σ Q := pLdN (k := 1) f_107_19 rfl rfl rfl
theorem f_107_20 : oFet 107 20 = some (.iload_n 2, 1) := by decide +kernel
theorem s_107_20 {d : Nat} {l0 l1 : oV} {x : Int} {S : List oV} {σ : oSg} {Q : Option oV → (Nat → oC) → Prop} : oE d 107 20 [l0, l1, .inl x] S σ Q = oE d 107 21 [l0, l1, .inl x] (.inl x :: S) σ Q := pLdN (k := 2) f_107_20 rfl rfl rfl
theorem f_107_21 : oFet 107 21 = some (.invokevirtual 95, 3) := by decide +kernel
theorem c_107_21 {d : Nat} {l0 l1 l2 : oV} {x0 : oV} {a : Nat} {v : Option oV} {τ : oSg} {S : List oV} {σ : oSg} {Q : Option oV → (Nat → oC) → Prop} (hm : oMi d 81 [.inr (.inr (.inl a)), x0] σ v τ) (hk : oKd a = some 7) (hs : oSmall S = true) : oE d 107 21 [l0, l1, l2] (x0 :: .inr (.inr (.inl a)) :: S) σ Q = oE d 107 24 [l0, l1, l2] (v.toList ++ S) τ Q := pCallV f_107_21 ow_107 lk_3_95 mt_81 rfl rfl rfl hk hs hm
theorem f_107_24 : oFet 107 24 = some (.if_icmp .eq 5, 3) := by decide +kernel
theorem s_107_24 {d : Nat} {l0 l1 l2 : oV} {x y : Int} {S : List oV} {σ : oSg} {Q : Option oV → (Nat → oC) → Prop} : oE d 107 24 [l0, l1, l2] (.inl y :: .inl x :: S) σ Q = if x = y then oE d 107 29 [l0, l1, l2] S σ Q else oE d 107 27 [l0, l1, l2] S σ Q := oCmpEq f_107_24 (by decide)
theorem f_107_27 : oFet 107 27 = some (.iconst 0, 1) := by decide +kernel
theorem s_107_27 {d : Nat} {l0 l1 l2 : oV} {S : List oV} {σ : oSg} {Q : Option oV → (Nat → oC) → Prop} : oE d 107 27 [l0, l1, l2] S σ Q = oE d 107 28 [l0, l1, l2] (.inl (0) :: S) σ Q := pKst f_107_27 (by decide)
theorem f_107_28 : oFet 107 28 = some (.ireturn, 1) := by decide +kernel
theorem s_107_28 {d : Nat} {l0 l1 l2 : oV} {x : Int} {σ : oSg} {Q : Option oV → (Nat → oC) → Prop} (hx : x = 0 ∨ x = 1) : oE d 107 28 [l0, l1, l2] [.inl x] σ Q = Q (some (.inl x)) (oBld σ) := oZret f_107_28 rt_107 hx
theorem f_107_29 : oFet 107 29 = some (.iinc 2 1, 3) := by decide +kernel
theorem s_107_29 {d : Nat} {l0 l1 : oV} {x : Int} {S : List oV} {σ : oSg} {Q : Option oV → (Nat → oC) → Prop} (c1 : oCat l1 = 1)  : oE d 107 29 [l0, l1, .inl x] S σ Q = oE d 107 32 [l0, l1, .inl (oAdd x (1))] S σ Q := pInc f_107_29 rfl (show (2 : Nat) < 3 by decide) (oC1n c1) (oC1n (v := .inl x) rfl) rfl
theorem f_107_32 : oFet 107 32 = some (.goto (-30), 3) := by decide +kernel
theorem s_107_32 {d : Nat} {l0 l1 l2 : oV} {S : List oV} {σ : oSg} {Q : Option oV → (Nat → oC) → Prop} : oE d 107 32 [l0, l1, l2] S σ Q = oE d 107 2 [l0, l1, l2] S σ Q := pGoto f_107_32 (by decide)
theorem f_107_35 : oFet 107 35 = some (.iconst 1, 1) := by decide +kernel
theorem s_107_35 {d : Nat} {l0 l1 l2 : oV} {S : List oV} {σ : oSg} {Q : Option oV → (Nat → oC) → Prop} : oE d 107 35 [l0, l1, l2] S σ Q = oE d 107 36 [l0, l1, l2] (.inl (1) :: S) σ Q := pKst f_107_35 (by decide)
theorem f_107_36 : oFet 107 36 = some (.ireturn, 1) := by decide +kernel
theorem s_107_36 {d : Nat} {l0 l1 l2 : oV} {x : Int} {σ : oSg} {Q : Option oV → (Nat → oC) → Prop} (hx : x = 0 ∨ x = 1) : oE d 107 36 [l0, l1, l2] [.inl x] σ Q = Q (some (.inl x)) (oBld σ) := oZret f_107_36 rt_107 hx
theorem ow_108 : (oMt 108).2.2.2.2.1 = 10 := by decide +kernel
theorem rt_108 : (oMt 108).2.2.2.1 = some .long := by decide +kernel
theorem nl_108 : (oMt 108).2.2.1 = 6 := by decide +kernel
theorem f_108_0 : oFet 108 0 = some (.aload_n 0, 1) := by decide +kernel
theorem s_108_0 {d : Nat} {l1 l2 l3 l4 l5 : oV} {a : Nat} {S : List oV} {σ : oSg} {Q : Option oV → (Nat → oC) → Prop} : oE d 108 0 [.inr (.inr (.inl a)), l1, l2, l3, l4, l5] S σ Q = oE d 108 1 [.inr (.inr (.inl a)), l1, l2, l3, l4, l5] (.inr (.inr (.inl a)) :: S) σ Q := pLdN (k := 0) f_108_0 rfl rfl rfl
theorem f_108_1 : oFet 108 1 = some (.getfield 12, 3) := by decide +kernel
theorem s_108_1 {d : Nat} {l0 l1 l2 l3 l4 l5 : oV} {a : Nat} {S : List oV} {σ : oSg} {Q : Option oV → (Nat → oC) → Prop} (hk : oKd a = some 10) : oE d 108 1 [l0, l1, l2, l3, l4, l5] (.inr (.inr (.inl a)) :: S) σ Q = oE d 108 4 [l0, l1, l2, l3, l4, l5] (.inr (.inr (.inl (oRf a 0))) :: S) σ Q := pGfR f_108_1 ow_108 fl_10_12 rfl (by decide) hk
theorem f_108_4 : oFet 108 4 = some (.getfield 73, 3) := by decide +kernel
theorem s_108_4 {d : Nat} {l0 l1 l2 l3 l4 l5 : oV} {a : Nat} {S : List oV} {σ : oSg} {Q : Option oV → (Nat → oC) → Prop} (hk : oKd a = some 1) : oE d 108 4 [l0, l1, l2, l3, l4, l5] (.inr (.inr (.inl a)) :: S) σ Q = oE d 108 7 [l0, l1, l2, l3, l4, l5] (.inr (.inr (.inl (oRf a 0))) :: S) σ Q := pGfR f_108_4 ow_108 fl_10_73 rfl (by decide) hk
theorem f_108_7 : oFet 108 7 = some (.iload_n 1, 1) := by decide +kernel
theorem s_108_7 {d : Nat} {l0 l2 l3 l4 l5 : oV} {x : Int} {S : List oV} {σ : oSg} {Q : Option oV → (Nat → oC) → Prop} : oE d 108 7 [l0, .inl x, l2, l3, l4, l5] S σ Q = oE d 108 8 [l0, .inl x, l2, l3, l4, l5] (.inl x :: S) σ Q := pLdN (k := 1) f_108_7 rfl rfl rfl
theorem f_108_8 : oFet 108 8 = some (.iload_n 2, 1) := by decide +kernel
theorem s_108_8 {d : Nat} {l0 l1 l3 l4 l5 : oV} {x : Int} {S : List oV} {σ : oSg} {Q : Option oV → (Nat → oC) → Prop} : oE d 108 8 [l0, l1, .inl x, l3, l4, l5] S σ Q = oE d 108 9 [l0, l1, .inl x, l3, l4, l5] (.inl x :: S) σ Q := pLdN (k := 2) f_108_8 rfl rfl rfl
theorem f_108_9 : oFet 108 9 = some (.invokevirtual 80, 3) := by decide +kernel
theorem c_108_9 {d : Nat} {l0 l1 l2 l3 l4 l5 : oV} {x0 x1 : oV} {a : Nat} {v : Option oV} {τ : oSg} {S : List oV} {σ : oSg} {Q : Option oV → (Nat → oC) → Prop} (hm : oMi d 14 [.inr (.inr (.inl a)), x0, x1] σ v τ) (hk : oKd a = some 4) (hs : oSmall S = true) : oE d 108 9 [l0, l1, l2, l3, l4, l5] (x1 :: x0 :: .inr (.inr (.inl a)) :: S) σ Q = oE d 108 12 [l0, l1, l2, l3, l4, l5] (v.toList ++ S) τ Q := pCallV f_108_9 ow_108 lk_10_80 mt_14 rfl rfl rfl hk hs hm
theorem f_108_12 : oFet 108 12 = some (.ifCond .ne 7, 3) := by decide +kernel
theorem s_108_12 {d : Nat} {l0 l1 l2 l3 l4 l5 : oV} {x : Int} {S : List oV} {σ : oSg} {Q : Option oV → (Nat → oC) → Prop} : oE d 108 12 [l0, l1, l2, l3, l4, l5] (.inl x :: S) σ Q = if ¬ x = 0 then oE d 108 19 [l0, l1, l2, l3, l4, l5] S σ Q else oE d 108 15 [l0, l1, l2, l3, l4, l5] S σ Q := oIfNe f_108_12 (by decide)
theorem f_108_15 : oFet 108 15 = some (.ldc2_w 304, 3) := by decide +kernel
theorem s_108_15 {d : Nat} {l0 l1 l2 l3 l4 l5 : oV} {S : List oV} {σ : oSg} {Q : Option oV → (Nat → oC) → Prop} : oE d 108 15 [l0, l1, l2, l3, l4, l5] S σ Q = oE d 108 18 [l0, l1, l2, l3, l4, l5] (.inr (.inl (-9223372036854775808)) :: S) σ Q := pLdc2 f_108_15 ow_108 (by decide +kernel)
theorem f_108_18 : oFet 108 18 = some (.lreturn, 1) := by decide +kernel
theorem s_108_18 {d : Nat} {l0 l1 l2 l3 l4 l5 : oV} {x : Int} {σ : oSg} {Q : Option oV → (Nat → oC) → Prop} : oE d 108 18 [l0, l1, l2, l3, l4, l5] [.inr (.inl x)] σ Q = Q (some (.inr (.inl x))) (oBld σ) := oLret f_108_18 rt_108
theorem f_108_19 : oFet 108 19 = some (.iconst 0, 1) := by decide +kernel
theorem s_108_19 {d : Nat} {l0 l1 l2 l3 l4 l5 : oV} {S : List oV} {σ : oSg} {Q : Option oV → (Nat → oC) → Prop} : oE d 108 19 [l0, l1, l2, l3, l4, l5] S σ Q = oE d 108 20 [l0, l1, l2, l3, l4, l5] (.inl (0) :: S) σ Q := pKst f_108_19 (by decide)
theorem f_108_20 : oFet 108 20 = some (.istore 4, 2) := by decide +kernel
theorem s_108_20 {d : Nat} {l0 l1 l2 l3 l4 l5 : oV} {x : Int} {S : List oV} {σ : oSg} {Q : Option oV → (Nat → oC) → Prop} (c4 : oCat l4 = 1) (c3 : oCat l3 = 1)  : oE d 108 20 [l0, l1, l2, l3, l4, l5] (.inl x :: S) σ Q = oE d 108 22 [l0, l1, l2, l3, .inl x, l5] S σ Q := pSt (i := 4) f_108_20 rfl rfl (show (4 : Nat) < 6 by decide) (oC1n c3) (oC1n c4) rfl
theorem f_108_22 : oFet 108 22 = some (.aload_n 0, 1) := by decide +kernel
theorem s_108_22 {d : Nat} {l1 l2 l3 l4 l5 : oV} {a : Nat} {S : List oV} {σ : oSg} {Q : Option oV → (Nat → oC) → Prop} : oE d 108 22 [.inr (.inr (.inl a)), l1, l2, l3, l4, l5] S σ Q = oE d 108 23 [.inr (.inr (.inl a)), l1, l2, l3, l4, l5] (.inr (.inr (.inl a)) :: S) σ Q := pLdN (k := 0) f_108_22 rfl rfl rfl
theorem f_108_23 : oFet 108 23 = some (.getfield 38, 3) := by decide +kernel
theorem s_108_23 {d : Nat} {l0 l1 l2 l3 l4 l5 : oV} {a : Nat} {S : List oV} {σ : oSg} {Q : Option oV → (Nat → oC) → Prop} (hk : oKd a = some 10) : oE d 108 23 [l0, l1, l2, l3, l4, l5] (.inr (.inr (.inl a)) :: S) σ Q = oE d 108 26 [l0, l1, l2, l3, l4, l5] (.inr (.inr (.inl (oRf a 5))) :: S) σ Q := pGfR f_108_23 ow_108 fl_10_38 rfl (by decide) hk
theorem f_108_26 : oFet 108 26 = some (.aload_n 0, 1) := by decide +kernel
theorem s_108_26 {d : Nat} {l1 l2 l3 l4 l5 : oV} {a : Nat} {S : List oV} {σ : oSg} {Q : Option oV → (Nat → oC) → Prop} : oE d 108 26 [.inr (.inr (.inl a)), l1, l2, l3, l4, l5] S σ Q = oE d 108 27 [.inr (.inr (.inl a)), l1, l2, l3, l4, l5] (.inr (.inr (.inl a)) :: S) σ Q := pLdN (k := 0) f_108_26 rfl rfl rfl
theorem f_108_27 : oFet 108 27 = some (.getfield 12, 3) := by decide +kernel
theorem s_108_27 {d : Nat} {l0 l1 l2 l3 l4 l5 : oV} {a : Nat} {S : List oV} {σ : oSg} {Q : Option oV → (Nat → oC) → Prop} (hk : oKd a = some 10) : oE d 108 27 [l0, l1, l2, l3, l4, l5] (.inr (.inr (.inl a)) :: S) σ Q = oE d 108 30 [l0, l1, l2, l3, l4, l5] (.inr (.inr (.inl (oRf a 0))) :: S) σ Q := pGfR f_108_27 ow_108 fl_10_12 rfl (by decide) hk
theorem f_108_30 : oFet 108 30 = some (.getfield 73, 3) := by decide +kernel
theorem s_108_30 {d : Nat} {l0 l1 l2 l3 l4 l5 : oV} {a : Nat} {S : List oV} {σ : oSg} {Q : Option oV → (Nat → oC) → Prop} (hk : oKd a = some 1) : oE d 108 30 [l0, l1, l2, l3, l4, l5] (.inr (.inr (.inl a)) :: S) σ Q = oE d 108 33 [l0, l1, l2, l3, l4, l5] (.inr (.inr (.inl (oRf a 0))) :: S) σ Q := pGfR f_108_30 ow_108 fl_10_73 rfl (by decide) hk
theorem f_108_33 : oFet 108 33 = some (.invokevirtual 205, 3) := by decide +kernel
theorem c_108_33 {d : Nat} {l0 l1 l2 l3 l4 l5 : oV} {x0 : oV} {a : Nat} {v : Option oV} {τ : oSg} {S : List oV} {σ : oSg} {Q : Option oV → (Nat → oC) → Prop} (hm : oMi d 71 [.inr (.inr (.inl a)), x0] σ v τ) (hk : oKd a = some 4) (hs : oSmall S = true) : oE d 108 33 [l0, l1, l2, l3, l4, l5] (x0 :: .inr (.inr (.inl a)) :: S) σ Q = oE d 108 36 [l0, l1, l2, l3, l4, l5] (v.toList ++ S) τ Q := pCallV f_108_33 ow_108 lk_10_205 mt_71 rfl rfl rfl hk hs hm
theorem f_108_36 : oFet 108 36 = some (.iconst 0, 1) := by decide +kernel
theorem s_108_36 {d : Nat} {l0 l1 l2 l3 l4 l5 : oV} {S : List oV} {σ : oSg} {Q : Option oV → (Nat → oC) → Prop} : oE d 108 36 [l0, l1, l2, l3, l4, l5] S σ Q = oE d 108 37 [l0, l1, l2, l3, l4, l5] (.inl (0) :: S) σ Q := pKst f_108_36 (by decide)
theorem f_108_37 : oFet 108 37 = some (.istore 5, 2) := by decide +kernel
theorem s_108_37 {d : Nat} {l0 l1 l2 l3 l4 l5 : oV} {x : Int} {S : List oV} {σ : oSg} {Q : Option oV → (Nat → oC) → Prop} (c5 : oCat l5 = 1) (c4 : oCat l4 = 1)  : oE d 108 37 [l0, l1, l2, l3, l4, l5] (.inl x :: S) σ Q = oE d 108 39 [l0, l1, l2, l3, l4, .inl x] S σ Q := pSt (i := 5) f_108_37 rfl rfl (show (5 : Nat) < 6 by decide) (oC1n c4) (oC1n c5) rfl
theorem f_108_39 : oFet 108 39 = some (.iload 5, 2) := by decide +kernel
theorem s_108_39 {d : Nat} {l0 l1 l2 l3 l4 : oV} {x : Int} {S : List oV} {σ : oSg} {Q : Option oV → (Nat → oC) → Prop} : oE d 108 39 [l0, l1, l2, l3, l4, .inl x] S σ Q = oE d 108 41 [l0, l1, l2, l3, l4, .inl x] (.inl x :: S) σ Q := pLd (i := 5) f_108_39 rfl rfl rfl
theorem f_108_41 : oFet 108 41 = some (.bipush 10, 2) := by decide +kernel
theorem s_108_41 {d : Nat} {l0 l1 l2 l3 l4 l5 : oV} {S : List oV} {σ : oSg} {Q : Option oV → (Nat → oC) → Prop} : oE d 108 41 [l0, l1, l2, l3, l4, l5] S σ Q = oE d 108 43 [l0, l1, l2, l3, l4, l5] (.inl (10) :: S) σ Q := pBip f_108_41 (by decide)
theorem f_108_43 : oFet 108 43 = some (.if_icmp .ge 47, 3) := by decide +kernel
theorem s_108_43 {d : Nat} {l0 l1 l2 l3 l4 l5 : oV} {x y : Int} {S : List oV} {σ : oSg} {Q : Option oV → (Nat → oC) → Prop} : oE d 108 43 [l0, l1, l2, l3, l4, l5] (.inl y :: .inl x :: S) σ Q = if y ≤ x then oE d 108 90 [l0, l1, l2, l3, l4, l5] S σ Q else oE d 108 46 [l0, l1, l2, l3, l4, l5] S σ Q := oCmpGe f_108_43 (by decide)
theorem f_108_46 : oFet 108 46 = some (.aload_n 0, 1) := by decide +kernel
theorem s_108_46 {d : Nat} {l1 l2 l3 l4 l5 : oV} {a : Nat} {S : List oV} {σ : oSg} {Q : Option oV → (Nat → oC) → Prop} : oE d 108 46 [.inr (.inr (.inl a)), l1, l2, l3, l4, l5] S σ Q = oE d 108 47 [.inr (.inr (.inl a)), l1, l2, l3, l4, l5] (.inr (.inr (.inl a)) :: S) σ Q := pLdN (k := 0) f_108_46 rfl rfl rfl
theorem f_108_47 : oFet 108 47 = some (.getfield 38, 3) := by decide +kernel
theorem s_108_47 {d : Nat} {l0 l1 l2 l3 l4 l5 : oV} {a : Nat} {S : List oV} {σ : oSg} {Q : Option oV → (Nat → oC) → Prop} (hk : oKd a = some 10) : oE d 108 47 [l0, l1, l2, l3, l4, l5] (.inr (.inr (.inl a)) :: S) σ Q = oE d 108 50 [l0, l1, l2, l3, l4, l5] (.inr (.inr (.inl (oRf a 5))) :: S) σ Q := pGfR f_108_47 ow_108 fl_10_38 rfl (by decide) hk
theorem f_108_50 : oFet 108 50 = some (.iload_n 1, 1) := by decide +kernel
theorem s_108_50 {d : Nat} {l0 l2 l3 l4 l5 : oV} {x : Int} {S : List oV} {σ : oSg} {Q : Option oV → (Nat → oC) → Prop} : oE d 108 50 [l0, .inl x, l2, l3, l4, l5] S σ Q = oE d 108 51 [l0, .inl x, l2, l3, l4, l5] (.inl x :: S) σ Q := pLdN (k := 1) f_108_50 rfl rfl rfl
theorem f_108_51 : oFet 108 51 = some (.iload_n 2, 1) := by decide +kernel
theorem s_108_51 {d : Nat} {l0 l1 l3 l4 l5 : oV} {x : Int} {S : List oV} {σ : oSg} {Q : Option oV → (Nat → oC) → Prop} : oE d 108 51 [l0, l1, .inl x, l3, l4, l5] S σ Q = oE d 108 52 [l0, l1, .inl x, l3, l4, l5] (.inl x :: S) σ Q := pLdN (k := 2) f_108_51 rfl rfl rfl
theorem f_108_52 : oFet 108 52 = some (.iload 5, 2) := by decide +kernel
theorem s_108_52 {d : Nat} {l0 l1 l2 l3 l4 : oV} {x : Int} {S : List oV} {σ : oSg} {Q : Option oV → (Nat → oC) → Prop} : oE d 108 52 [l0, l1, l2, l3, l4, .inl x] S σ Q = oE d 108 54 [l0, l1, l2, l3, l4, .inl x] (.inl x :: S) σ Q := pLd (i := 5) f_108_52 rfl rfl rfl
theorem f_108_54 : oFet 108 54 = some (.invokevirtual 88, 3) := by decide +kernel
theorem c_108_54 {d : Nat} {l0 l1 l2 l3 l4 l5 : oV} {x0 x1 x2 : oV} {a : Nat} {v : Option oV} {τ : oSg} {S : List oV} {σ : oSg} {Q : Option oV → (Nat → oC) → Prop} (hm : oMi d 17 [.inr (.inr (.inl a)), x0, x1, x2] σ v τ) (hk : oKd a = some 4) (hs : oSmall S = true) : oE d 108 54 [l0, l1, l2, l3, l4, l5] (x2 :: x1 :: x0 :: .inr (.inr (.inl a)) :: S) σ Q = oE d 108 57 [l0, l1, l2, l3, l4, l5] (v.toList ++ S) τ Q := pCallV f_108_54 ow_108 lk_10_88 mt_17 rfl rfl rfl hk hs hm
theorem f_108_57 : oFet 108 57 = some (.aload_n 0, 1) := by decide +kernel
theorem s_108_57 {d : Nat} {l1 l2 l3 l4 l5 : oV} {a : Nat} {S : List oV} {σ : oSg} {Q : Option oV → (Nat → oC) → Prop} : oE d 108 57 [.inr (.inr (.inl a)), l1, l2, l3, l4, l5] S σ Q = oE d 108 58 [.inr (.inr (.inl a)), l1, l2, l3, l4, l5] (.inr (.inr (.inl a)) :: S) σ Q := pLdN (k := 0) f_108_57 rfl rfl rfl
theorem f_108_58 : oFet 108 58 = some (.getfield 49, 3) := by decide +kernel
theorem s_108_58 {d : Nat} {l0 l1 l2 l3 l4 l5 : oV} {a : Nat} {S : List oV} {σ : oSg} {Q : Option oV → (Nat → oC) → Prop} (hk : oKd a = some 10) : oE d 108 58 [l0, l1, l2, l3, l4, l5] (.inr (.inr (.inl a)) :: S) σ Q = oE d 108 61 [l0, l1, l2, l3, l4, l5] (.inr (.inr (.inl (oRf a 7))) :: S) σ Q := pGfR f_108_58 ow_108 fl_10_49 rfl (by decide) hk
theorem f_108_61 : oFet 108 61 = some (.aload_n 0, 1) := by decide +kernel
theorem s_108_61 {d : Nat} {l1 l2 l3 l4 l5 : oV} {a : Nat} {S : List oV} {σ : oSg} {Q : Option oV → (Nat → oC) → Prop} : oE d 108 61 [.inr (.inr (.inl a)), l1, l2, l3, l4, l5] S σ Q = oE d 108 62 [.inr (.inr (.inl a)), l1, l2, l3, l4, l5] (.inr (.inr (.inl a)) :: S) σ Q := pLdN (k := 0) f_108_61 rfl rfl rfl
theorem f_108_62 : oFet 108 62 = some (.getfield 38, 3) := by decide +kernel
theorem s_108_62 {d : Nat} {l0 l1 l2 l3 l4 l5 : oV} {a : Nat} {S : List oV} {σ : oSg} {Q : Option oV → (Nat → oC) → Prop} (hk : oKd a = some 10) : oE d 108 62 [l0, l1, l2, l3, l4, l5] (.inr (.inr (.inl a)) :: S) σ Q = oE d 108 65 [l0, l1, l2, l3, l4, l5] (.inr (.inr (.inl (oRf a 5))) :: S) σ Q := pGfR f_108_62 ow_108 fl_10_38 rfl (by decide) hk
theorem f_108_65 : oFet 108 65 = some (.iconst 0, 1) := by decide +kernel
theorem s_108_65 {d : Nat} {l0 l1 l2 l3 l4 l5 : oV} {S : List oV} {σ : oSg} {Q : Option oV → (Nat → oC) → Prop} : oE d 108 65 [l0, l1, l2, l3, l4, l5] S σ Q = oE d 108 66 [l0, l1, l2, l3, l4, l5] (.inl (0) :: S) σ Q := pKst f_108_65 (by decide)
theorem f_108_66 : oFet 108 66 = some (.invokevirtual 124, 3) := by decide +kernel
theorem c_108_66 {d : Nat} {l0 l1 l2 l3 l4 l5 : oV} {x0 x1 : oV} {a : Nat} {v : Option oV} {τ : oSg} {S : List oV} {σ : oSg} {Q : Option oV → (Nat → oC) → Prop} (hm : oMi d 33 [.inr (.inr (.inl a)), x0, x1] σ v τ) (hk : oKd a = some 3) (hs : oSmall S = true) : oE d 108 66 [l0, l1, l2, l3, l4, l5] (x1 :: x0 :: .inr (.inr (.inl a)) :: S) σ Q = oE d 108 69 [l0, l1, l2, l3, l4, l5] (v.toList ++ S) τ Q := pCallV f_108_66 ow_108 lk_10_124 mt_33 rfl rfl rfl hk hs hm
theorem f_108_69 : oFet 108 69 = some (.aload_n 0, 1) := by decide +kernel
theorem s_108_69 {d : Nat} {l1 l2 l3 l4 l5 : oV} {a : Nat} {S : List oV} {σ : oSg} {Q : Option oV → (Nat → oC) → Prop} : oE d 108 69 [.inr (.inr (.inl a)), l1, l2, l3, l4, l5] S σ Q = oE d 108 70 [.inr (.inr (.inl a)), l1, l2, l3, l4, l5] (.inr (.inr (.inl a)) :: S) σ Q := pLdN (k := 0) f_108_69 rfl rfl rfl
theorem f_108_70 : oFet 108 70 = some (.getfield 49, 3) := by decide +kernel
theorem s_108_70 {d : Nat} {l0 l1 l2 l3 l4 l5 : oV} {a : Nat} {S : List oV} {σ : oSg} {Q : Option oV → (Nat → oC) → Prop} (hk : oKd a = some 10) : oE d 108 70 [l0, l1, l2, l3, l4, l5] (.inr (.inr (.inl a)) :: S) σ Q = oE d 108 73 [l0, l1, l2, l3, l4, l5] (.inr (.inr (.inl (oRf a 7))) :: S) σ Q := pGfR f_108_70 ow_108 fl_10_49 rfl (by decide) hk
theorem f_108_73 : oFet 108 73 = some (.iload_n 1, 1) := by decide +kernel
theorem s_108_73 {d : Nat} {l0 l2 l3 l4 l5 : oV} {x : Int} {S : List oV} {σ : oSg} {Q : Option oV → (Nat → oC) → Prop} : oE d 108 73 [l0, .inl x, l2, l3, l4, l5] S σ Q = oE d 108 74 [l0, .inl x, l2, l3, l4, l5] (.inl x :: S) σ Q := pLdN (k := 1) f_108_73 rfl rfl rfl
theorem f_108_74 : oFet 108 74 = some (.invokevirtual 215, 3) := by decide +kernel
theorem c_108_74 {d : Nat} {l0 l1 l2 l3 l4 l5 : oV} {x0 : oV} {a : Nat} {v : Option oV} {τ : oSg} {S : List oV} {σ : oSg} {Q : Option oV → (Nat → oC) → Prop} (hm : oMi d 41 [.inr (.inr (.inl a)), x0] σ v τ) (hk : oKd a = some 3) (hs : oSmall S = true) : oE d 108 74 [l0, l1, l2, l3, l4, l5] (x0 :: .inr (.inr (.inl a)) :: S) σ Q = oE d 108 77 [l0, l1, l2, l3, l4, l5] (v.toList ++ S) τ Q := pCallV f_108_74 ow_108 lk_10_215 mt_41 rfl rfl rfl hk hs hm
theorem f_108_77 : oFet 108 77 = some (.iload_n 2, 1) := by decide +kernel
theorem s_108_77 {d : Nat} {l0 l1 l3 l4 l5 : oV} {x : Int} {S : List oV} {σ : oSg} {Q : Option oV → (Nat → oC) → Prop} : oE d 108 77 [l0, l1, .inl x, l3, l4, l5] S σ Q = oE d 108 78 [l0, l1, .inl x, l3, l4, l5] (.inl x :: S) σ Q := pLdN (k := 2) f_108_77 rfl rfl rfl
theorem f_108_78 : oFet 108 78 = some (.if_icmp .ne 6, 3) := by decide +kernel
theorem s_108_78 {d : Nat} {l0 l1 l2 l3 l4 l5 : oV} {x y : Int} {S : List oV} {σ : oSg} {Q : Option oV → (Nat → oC) → Prop} : oE d 108 78 [l0, l1, l2, l3, l4, l5] (.inl y :: .inl x :: S) σ Q = if ¬ x = y then oE d 108 84 [l0, l1, l2, l3, l4, l5] S σ Q else oE d 108 81 [l0, l1, l2, l3, l4, l5] S σ Q := oCmpNe f_108_78 (by decide)
theorem f_108_81 : oFet 108 81 = some (.iinc 4 1, 3) := by decide +kernel
theorem s_108_81 {d : Nat} {l0 l1 l2 l3 l5 : oV} {x : Int} {S : List oV} {σ : oSg} {Q : Option oV → (Nat → oC) → Prop} (c3 : oCat l3 = 1)  : oE d 108 81 [l0, l1, l2, l3, .inl x, l5] S σ Q = oE d 108 84 [l0, l1, l2, l3, .inl (oAdd x (1)), l5] S σ Q := pInc f_108_81 rfl (show (4 : Nat) < 6 by decide) (oC1n c3) (oC1n (v := .inl x) rfl) rfl
theorem f_108_84 : oFet 108 84 = some (.iinc 5 1, 3) := by decide +kernel
theorem s_108_84 {d : Nat} {l0 l1 l2 l3 l4 : oV} {x : Int} {S : List oV} {σ : oSg} {Q : Option oV → (Nat → oC) → Prop} (c4 : oCat l4 = 1)  : oE d 108 84 [l0, l1, l2, l3, l4, .inl x] S σ Q = oE d 108 87 [l0, l1, l2, l3, l4, .inl (oAdd x (1))] S σ Q := pInc f_108_84 rfl (show (5 : Nat) < 6 by decide) (oC1n c4) (oC1n (v := .inl x) rfl) rfl
theorem f_108_87 : oFet 108 87 = some (.goto (-48), 3) := by decide +kernel
theorem s_108_87 {d : Nat} {l0 l1 l2 l3 l4 l5 : oV} {S : List oV} {σ : oSg} {Q : Option oV → (Nat → oC) → Prop} : oE d 108 87 [l0, l1, l2, l3, l4, l5] S σ Q = oE d 108 39 [l0, l1, l2, l3, l4, l5] S σ Q := pGoto f_108_87 (by decide)
theorem f_108_90 : oFet 108 90 = some (.iload 4, 2) := by decide +kernel
theorem s_108_90 {d : Nat} {l0 l1 l2 l3 l5 : oV} {x : Int} {S : List oV} {σ : oSg} {Q : Option oV → (Nat → oC) → Prop} : oE d 108 90 [l0, l1, l2, l3, .inl x, l5] S σ Q = oE d 108 92 [l0, l1, l2, l3, .inl x, l5] (.inl x :: S) σ Q := pLd (i := 4) f_108_90 rfl rfl rfl
theorem f_108_92 : oFet 108 92 = some (.bipush 10, 2) := by decide +kernel
theorem s_108_92 {d : Nat} {l0 l1 l2 l3 l4 l5 : oV} {S : List oV} {σ : oSg} {Q : Option oV → (Nat → oC) → Prop} : oE d 108 92 [l0, l1, l2, l3, l4, l5] S σ Q = oE d 108 94 [l0, l1, l2, l3, l4, l5] (.inl (10) :: S) σ Q := pBip f_108_92 (by decide)
theorem f_108_94 : oFet 108 94 = some (.iload_n 3, 1) := by decide +kernel
theorem s_108_94 {d : Nat} {l0 l1 l2 l4 l5 : oV} {x : Int} {S : List oV} {σ : oSg} {Q : Option oV → (Nat → oC) → Prop} : oE d 108 94 [l0, l1, l2, .inl x, l4, l5] S σ Q = oE d 108 95 [l0, l1, l2, .inl x, l4, l5] (.inl x :: S) σ Q := pLdN (k := 3) f_108_94 rfl rfl rfl
theorem f_108_95 : oFet 108 95 = some (.invokestatic 306, 3) := by decide +kernel
theorem c_108_95 {d : Nat} {l0 l1 l2 l3 l4 l5 : oV} {x0 x1 x2 : oV} {v : Option oV} {τ : oSg} {S : List oV} {σ : oSg} {Q : Option oV → (Nat → oC) → Prop} (hm : oMi d 109 [x0, x1, x2] σ v τ) (hs : oSmall S = true) : oE d 108 95 [l0, l1, l2, l3, l4, l5] (x2 :: x1 :: x0 :: S) σ Q = oE d 108 98 [l0, l1, l2, l3, l4, l5] (v.toList ++ S) τ Q := pCallS f_108_95 ow_108 lk_10_306 mt_109 rfl rfl rfl hs hm
theorem f_108_98 : oFet 108 98 = some (.lreturn, 1) := by decide +kernel
theorem s_108_98 {d : Nat} {l0 l1 l2 l3 l4 l5 : oV} {x : Int} {σ : oSg} {Q : Option oV → (Nat → oC) → Prop} : oE d 108 98 [l0, l1, l2, l3, l4, l5] [.inr (.inl x)] σ Q = Q (some (.inr (.inl x))) (oBld σ) := oLret f_108_98 rt_108
theorem ow_109 : (oMt 109).2.2.2.2.1 = 10 := by decide +kernel
theorem rt_109 : (oMt 109).2.2.2.1 = some .long := by decide +kernel
theorem nl_109 : (oMt 109).2.2.1 = 4 := by decide +kernel
theorem f_109_0 : oFet 109 0 = some (.iload_n 2, 1) := by decide +kernel
theorem s_109_0 {d : Nat} {l0 l1 l3 : oV} {x : Int} {S : List oV} {σ : oSg} {Q : Option oV → (Nat → oC) → Prop} : oE d 109 0 [l0, l1, .inl x, l3] S σ Q = oE d 109 1 [l0, l1, .inl x, l3] (.inl x :: S) σ Q := pLdN (k := 2) f_109_0 rfl rfl rfl
theorem f_109_1 : oFet 109 1 = some (.ifCond .lt 13, 3) := by decide +kernel
theorem s_109_1 {d : Nat} {l0 l1 l2 l3 : oV} {x : Int} {S : List oV} {σ : oSg} {Q : Option oV → (Nat → oC) → Prop} : oE d 109 1 [l0, l1, l2, l3] (.inl x :: S) σ Q = if x < 0 then oE d 109 14 [l0, l1, l2, l3] S σ Q else oE d 109 4 [l0, l1, l2, l3] S σ Q := oIfLt f_109_1 (by decide)
theorem f_109_4 : oFet 109 4 = some (.iload_n 2, 1) := by decide +kernel
theorem s_109_4 {d : Nat} {l0 l1 l3 : oV} {x : Int} {S : List oV} {σ : oSg} {Q : Option oV → (Nat → oC) → Prop} : oE d 109 4 [l0, l1, .inl x, l3] S σ Q = oE d 109 5 [l0, l1, .inl x, l3] (.inl x :: S) σ Q := pLdN (k := 2) f_109_4 rfl rfl rfl
theorem f_109_5 : oFet 109 5 = some (.iconst 1, 1) := by decide +kernel
theorem s_109_5 {d : Nat} {l0 l1 l2 l3 : oV} {S : List oV} {σ : oSg} {Q : Option oV → (Nat → oC) → Prop} : oE d 109 5 [l0, l1, l2, l3] S σ Q = oE d 109 6 [l0, l1, l2, l3] (.inl (1) :: S) σ Q := pKst f_109_5 (by decide)
theorem f_109_6 : oFet 109 6 = some (.if_icmp .gt 8, 3) := by decide +kernel
theorem s_109_6 {d : Nat} {l0 l1 l2 l3 : oV} {x y : Int} {S : List oV} {σ : oSg} {Q : Option oV → (Nat → oC) → Prop} : oE d 109 6 [l0, l1, l2, l3] (.inl y :: .inl x :: S) σ Q = if y < x then oE d 109 14 [l0, l1, l2, l3] S σ Q else oE d 109 9 [l0, l1, l2, l3] S σ Q := oCmpGt f_109_6 (by decide)
theorem f_109_9 : oFet 109 9 = some (.iload_n 1, 1) := by decide +kernel
theorem s_109_9 {d : Nat} {l0 l2 l3 : oV} {x : Int} {S : List oV} {σ : oSg} {Q : Option oV → (Nat → oC) → Prop} : oE d 109 9 [l0, .inl x, l2, l3] S σ Q = oE d 109 10 [l0, .inl x, l2, l3] (.inl x :: S) σ Q := pLdN (k := 1) f_109_9 rfl rfl rfl
theorem f_109_10 : oFet 109 10 = some (.iconst 1, 1) := by decide +kernel
theorem s_109_10 {d : Nat} {l0 l1 l2 l3 : oV} {S : List oV} {σ : oSg} {Q : Option oV → (Nat → oC) → Prop} : oE d 109 10 [l0, l1, l2, l3] S σ Q = oE d 109 11 [l0, l1, l2, l3] (.inl (1) :: S) σ Q := pKst f_109_10 (by decide)
theorem f_109_11 : oFet 109 11 = some (.if_icmp .ge 7, 3) := by decide +kernel
theorem s_109_11 {d : Nat} {l0 l1 l2 l3 : oV} {x y : Int} {S : List oV} {σ : oSg} {Q : Option oV → (Nat → oC) → Prop} : oE d 109 11 [l0, l1, l2, l3] (.inl y :: .inl x :: S) σ Q = if y ≤ x then oE d 109 18 [l0, l1, l2, l3] S σ Q else oE d 109 14 [l0, l1, l2, l3] S σ Q := oCmpGe f_109_11 (by decide)
theorem f_109_14 : oFet 109 14 = some (.ldc2_w 304, 3) := by decide +kernel
theorem s_109_14 {d : Nat} {l0 l1 l2 l3 : oV} {S : List oV} {σ : oSg} {Q : Option oV → (Nat → oC) → Prop} : oE d 109 14 [l0, l1, l2, l3] S σ Q = oE d 109 17 [l0, l1, l2, l3] (.inr (.inl (-9223372036854775808)) :: S) σ Q := pLdc2 f_109_14 ow_109 (by decide +kernel)
theorem f_109_17 : oFet 109 17 = some (.lreturn, 1) := by decide +kernel
theorem s_109_17 {d : Nat} {l0 l1 l2 l3 : oV} {x : Int} {σ : oSg} {Q : Option oV → (Nat → oC) → Prop} : oE d 109 17 [l0, l1, l2, l3] [.inr (.inl x)] σ Q = Q (some (.inr (.inl x))) (oBld σ) := oLret f_109_17 rt_109
theorem f_109_18 : oFet 109 18 = some (.iload_n 0, 1) := by decide +kernel
theorem s_109_18 {d : Nat} {l1 l2 l3 : oV} {x : Int} {S : List oV} {σ : oSg} {Q : Option oV → (Nat → oC) → Prop} : oE d 109 18 [.inl x, l1, l2, l3] S σ Q = oE d 109 19 [.inl x, l1, l2, l3] (.inl x :: S) σ Q := pLdN (k := 0) f_109_18 rfl rfl rfl
theorem f_109_19 : oFet 109 19 = some (.iload_n 1, 1) := by decide +kernel
theorem s_109_19 {d : Nat} {l0 l2 l3 : oV} {x : Int} {S : List oV} {σ : oSg} {Q : Option oV → (Nat → oC) → Prop} : oE d 109 19 [l0, .inl x, l2, l3] S σ Q = oE d 109 20 [l0, .inl x, l2, l3] (.inl x :: S) σ Q := pLdN (k := 1) f_109_19 rfl rfl rfl
theorem f_109_20 : oFet 109 20 = some (.invokestatic 310, 3) := by decide +kernel
theorem c_109_20 {d : Nat} {l0 l1 l2 l3 : oV} {x0 x1 : oV} {v : Option oV} {τ : oSg} {S : List oV} {σ : oSg} {Q : Option oV → (Nat → oC) → Prop} (hm : oMi d 110 [x0, x1] σ v τ) (hs : oSmall S = true) : oE d 109 20 [l0, l1, l2, l3] (x1 :: x0 :: S) σ Q = oE d 109 23 [l0, l1, l2, l3] (v.toList ++ S) τ Q := pCallS f_109_20 ow_109 lk_10_310 mt_110 rfl rfl rfl hs hm
theorem f_109_23 : oFet 109 23 = some (.istore_n 3, 1) := by decide +kernel
theorem s_109_23 {d : Nat} {l0 l1 l2 l3 : oV} {x : Int} {S : List oV} {σ : oSg} {Q : Option oV → (Nat → oC) → Prop} (c3 : oCat l3 = 1) (c2 : oCat l2 = 1)  : oE d 109 23 [l0, l1, l2, l3] (.inl x :: S) σ Q = oE d 109 24 [l0, l1, l2, .inl x] S σ Q := pSt (i := 3) f_109_23 rfl rfl (show (3 : Nat) < 4 by decide) (oC1n c2) (oC1n c3) rfl
theorem f_109_24 : oFet 109 24 = some (.iload_n 3, 1) := by decide +kernel
theorem s_109_24 {d : Nat} {l0 l1 l2 : oV} {x : Int} {S : List oV} {σ : oSg} {Q : Option oV → (Nat → oC) → Prop} : oE d 109 24 [l0, l1, l2, .inl x] S σ Q = oE d 109 25 [l0, l1, l2, .inl x] (.inl x :: S) σ Q := pLdN (k := 3) f_109_24 rfl rfl rfl
theorem f_109_25 : oFet 109 25 = some (.iconst 1, 1) := by decide +kernel
theorem s_109_25 {d : Nat} {l0 l1 l2 l3 : oV} {S : List oV} {σ : oSg} {Q : Option oV → (Nat → oC) → Prop} : oE d 109 25 [l0, l1, l2, l3] S σ Q = oE d 109 26 [l0, l1, l2, l3] (.inl (1) :: S) σ Q := pKst f_109_25 (by decide)
theorem f_109_26 : oFet 109 26 = some (.if_icmp .ge 7, 3) := by decide +kernel
theorem s_109_26 {d : Nat} {l0 l1 l2 l3 : oV} {x y : Int} {S : List oV} {σ : oSg} {Q : Option oV → (Nat → oC) → Prop} : oE d 109 26 [l0, l1, l2, l3] (.inl y :: .inl x :: S) σ Q = if y ≤ x then oE d 109 33 [l0, l1, l2, l3] S σ Q else oE d 109 29 [l0, l1, l2, l3] S σ Q := oCmpGe f_109_26 (by decide)
theorem f_109_29 : oFet 109 29 = some (.ldc2_w 304, 3) := by decide +kernel
theorem s_109_29 {d : Nat} {l0 l1 l2 l3 : oV} {S : List oV} {σ : oSg} {Q : Option oV → (Nat → oC) → Prop} : oE d 109 29 [l0, l1, l2, l3] S σ Q = oE d 109 32 [l0, l1, l2, l3] (.inr (.inl (-9223372036854775808)) :: S) σ Q := pLdc2 f_109_29 ow_109 (by decide +kernel)
theorem f_109_32 : oFet 109 32 = some (.lreturn, 1) := by decide +kernel
theorem s_109_32 {d : Nat} {l0 l1 l2 l3 : oV} {x : Int} {σ : oSg} {Q : Option oV → (Nat → oC) → Prop} : oE d 109 32 [l0, l1, l2, l3] [.inr (.inl x)] σ Q = Q (some (.inr (.inl x))) (oBld σ) := oLret f_109_32 rt_109
theorem f_109_33 : oFet 109 33 = some (.iload_n 2, 1) := by decide +kernel
theorem s_109_33 {d : Nat} {l0 l1 l3 : oV} {x : Int} {S : List oV} {σ : oSg} {Q : Option oV → (Nat → oC) → Prop} : oE d 109 33 [l0, l1, .inl x, l3] S σ Q = oE d 109 34 [l0, l1, .inl x, l3] (.inl x :: S) σ Q := pLdN (k := 2) f_109_33 rfl rfl rfl
theorem f_109_34 : oFet 109 34 = some (.ifCond .ne 10, 3) := by decide +kernel
theorem s_109_34 {d : Nat} {l0 l1 l2 l3 : oV} {x : Int} {S : List oV} {σ : oSg} {Q : Option oV → (Nat → oC) → Prop} : oE d 109 34 [l0, l1, l2, l3] (.inl x :: S) σ Q = if ¬ x = 0 then oE d 109 44 [l0, l1, l2, l3] S σ Q else oE d 109 37 [l0, l1, l2, l3] S σ Q := oIfNe f_109_34 (by decide)
theorem f_109_37 : oFet 109 37 = some (.iload_n 0, 1) := by decide +kernel
theorem s_109_37 {d : Nat} {l1 l2 l3 : oV} {x : Int} {S : List oV} {σ : oSg} {Q : Option oV → (Nat → oC) → Prop} : oE d 109 37 [.inl x, l1, l2, l3] S σ Q = oE d 109 38 [.inl x, l1, l2, l3] (.inl x :: S) σ Q := pLdN (k := 0) f_109_37 rfl rfl rfl
theorem f_109_38 : oFet 109 38 = some (.iload_n 3, 1) := by decide +kernel
theorem s_109_38 {d : Nat} {l0 l1 l2 : oV} {x : Int} {S : List oV} {σ : oSg} {Q : Option oV → (Nat → oC) → Prop} : oE d 109 38 [l0, l1, l2, .inl x] S σ Q = oE d 109 39 [l0, l1, l2, .inl x] (.inl x :: S) σ Q := pLdN (k := 3) f_109_38 rfl rfl rfl
theorem f_109_39 : oFet 109 39 = some (.idiv, 1) := by decide +kernel
theorem s_109_39 {d : Nat} {l0 l1 l2 l3 : oV} {x y : Int} {S : List oV} {σ : oSg} {Q : Option oV → (Nat → oC) → Prop} (hy : y ≠ 0) : oE d 109 39 [l0, l1, l2, l3] (.inl y :: .inl x :: S) σ Q = oE d 109 40 [l0, l1, l2, l3] (.inl (oDiv x y) :: S) σ Q := pDiv f_109_39 hy
theorem f_109_40 : oFet 109 40 = some (.i2l, 1) := by decide +kernel
theorem s_109_40 {d : Nat} {l0 l1 l2 l3 : oV} {x : Int} {S : List oV} {σ : oSg} {Q : Option oV → (Nat → oC) → Prop} : oE d 109 40 [l0, l1, l2, l3] (.inl x :: S) σ Q = oE d 109 41 [l0, l1, l2, l3] (.inr (.inl x) :: S) σ Q := oS4 f_109_40 rfl rfl rfl rfl
theorem f_109_41 : oFet 109 41 = some (.goto 7, 3) := by decide +kernel
theorem s_109_41 {d : Nat} {l0 l1 l2 l3 : oV} {S : List oV} {σ : oSg} {Q : Option oV → (Nat → oC) → Prop} : oE d 109 41 [l0, l1, l2, l3] S σ Q = oE d 109 48 [l0, l1, l2, l3] S σ Q := pGoto f_109_41 (by decide)
theorem f_109_44 : oFet 109 44 = some (.iload_n 1, 1) := by decide +kernel
theorem s_109_44 {d : Nat} {l0 l2 l3 : oV} {x : Int} {S : List oV} {σ : oSg} {Q : Option oV → (Nat → oC) → Prop} : oE d 109 44 [l0, .inl x, l2, l3] S σ Q = oE d 109 45 [l0, .inl x, l2, l3] (.inl x :: S) σ Q := pLdN (k := 1) f_109_44 rfl rfl rfl
theorem f_109_45 : oFet 109 45 = some (.iload_n 3, 1) := by decide +kernel
theorem s_109_45 {d : Nat} {l0 l1 l2 : oV} {x : Int} {S : List oV} {σ : oSg} {Q : Option oV → (Nat → oC) → Prop} : oE d 109 45 [l0, l1, l2, .inl x] S σ Q = oE d 109 46 [l0, l1, l2, .inl x] (.inl x :: S) σ Q := pLdN (k := 3) f_109_45 rfl rfl rfl
theorem f_109_46 : oFet 109 46 = some (.idiv, 1) := by decide +kernel
theorem s_109_46 {d : Nat} {l0 l1 l2 l3 : oV} {x y : Int} {S : List oV} {σ : oSg} {Q : Option oV → (Nat → oC) → Prop} (hy : y ≠ 0) : oE d 109 46 [l0, l1, l2, l3] (.inl y :: .inl x :: S) σ Q = oE d 109 47 [l0, l1, l2, l3] (.inl (oDiv x y) :: S) σ Q := pDiv f_109_46 hy
theorem f_109_47 : oFet 109 47 = some (.i2l, 1) := by decide +kernel
theorem s_109_47 {d : Nat} {l0 l1 l2 l3 : oV} {x : Int} {S : List oV} {σ : oSg} {Q : Option oV → (Nat → oC) → Prop} : oE d 109 47 [l0, l1, l2, l3] (.inl x :: S) σ Q = oE d 109 48 [l0, l1, l2, l3] (.inr (.inl x) :: S) σ Q := oS4 f_109_47 rfl rfl rfl rfl
theorem f_109_48 : oFet 109 48 = some (.lreturn, 1) := by decide +kernel
theorem s_109_48 {d : Nat} {l0 l1 l2 l3 : oV} {x : Int} {σ : oSg} {Q : Option oV → (Nat → oC) → Prop} : oE d 109 48 [l0, l1, l2, l3] [.inr (.inl x)] σ Q = Q (some (.inr (.inl x))) (oBld σ) := oLret f_109_48 rt_109
theorem ow_110 : (oMt 110).2.2.2.2.1 = 10 := by decide +kernel
theorem rt_110 : (oMt 110).2.2.2.1 = some .int := by decide +kernel
theorem nl_110 : (oMt 110).2.2.1 = 3 := by decide +kernel
theorem f_110_0 : oFet 110 0 = some (.iload_n 1, 1) := by decide +kernel
theorem s_110_0 {d : Nat} {l0 l2 : oV} {x : Int} {S : List oV} {σ : oSg} {Q : Option oV → (Nat → oC) → Prop} : oE d 110 0 [l0, .inl x, l2] S σ Q = oE d 110 1 [l0, .inl x, l2] (.inl x :: S) σ Q := pLdN (k := 1) f_110_0 rfl rfl rfl
theorem f_110_1 : oFet 110 1 = some (.istore_n 2, 1) := by decide +kernel
theorem s_110_1 {d : Nat} {l0 l1 l2 : oV} {x : Int} {S : List oV} {σ : oSg} {Q : Option oV → (Nat → oC) → Prop} (c2 : oCat l2 = 1) (c1 : oCat l1 = 1)  : oE d 110 1 [l0, l1, l2] (.inl x :: S) σ Q = oE d 110 2 [l0, l1, .inl x] S σ Q := pSt (i := 2) f_110_1 rfl rfl (show (2 : Nat) < 3 by decide) (oC1n c1) (oC1n c2) rfl
theorem f_110_2 : oFet 110 2 = some (.iload_n 2, 1) := by decide +kernel
theorem s_110_2 {d : Nat} {l0 l1 : oV} {x : Int} {S : List oV} {σ : oSg} {Q : Option oV → (Nat → oC) → Prop} : oE d 110 2 [l0, l1, .inl x] S σ Q = oE d 110 3 [l0, l1, .inl x] (.inl x :: S) σ Q := pLdN (k := 2) f_110_2 rfl rfl rfl
theorem f_110_3 : oFet 110 3 = some (.iconst 1, 1) := by decide +kernel
theorem s_110_3 {d : Nat} {l0 l1 l2 : oV} {S : List oV} {σ : oSg} {Q : Option oV → (Nat → oC) → Prop} : oE d 110 3 [l0, l1, l2] S σ Q = oE d 110 4 [l0, l1, l2] (.inl (1) :: S) σ Q := pKst f_110_3 (by decide)
theorem f_110_4 : oFet 110 4 = some (.if_icmp .le 23, 3) := by decide +kernel
theorem s_110_4 {d : Nat} {l0 l1 l2 : oV} {x y : Int} {S : List oV} {σ : oSg} {Q : Option oV → (Nat → oC) → Prop} : oE d 110 4 [l0, l1, l2] (.inl y :: .inl x :: S) σ Q = if x ≤ y then oE d 110 27 [l0, l1, l2] S σ Q else oE d 110 7 [l0, l1, l2] S σ Q := oCmpLe f_110_4 (by decide)
theorem f_110_7 : oFet 110 7 = some (.iload_n 0, 1) := by decide +kernel
theorem s_110_7 {d : Nat} {l1 l2 : oV} {x : Int} {S : List oV} {σ : oSg} {Q : Option oV → (Nat → oC) → Prop} : oE d 110 7 [.inl x, l1, l2] S σ Q = oE d 110 8 [.inl x, l1, l2] (.inl x :: S) σ Q := pLdN (k := 0) f_110_7 rfl rfl rfl
theorem f_110_8 : oFet 110 8 = some (.iload_n 2, 1) := by decide +kernel
theorem s_110_8 {d : Nat} {l0 l1 : oV} {x : Int} {S : List oV} {σ : oSg} {Q : Option oV → (Nat → oC) → Prop} : oE d 110 8 [l0, l1, .inl x] S σ Q = oE d 110 9 [l0, l1, .inl x] (.inl x :: S) σ Q := pLdN (k := 2) f_110_8 rfl rfl rfl
theorem f_110_9 : oFet 110 9 = some (.irem, 1) := by decide +kernel
theorem s_110_9 {d : Nat} {l0 l1 l2 : oV} {x y : Int} {S : List oV} {σ : oSg} {Q : Option oV → (Nat → oC) → Prop} (hy : y ≠ 0) : oE d 110 9 [l0, l1, l2] (.inl y :: .inl x :: S) σ Q = oE d 110 10 [l0, l1, l2] (.inl (oRem x y) :: S) σ Q := pRem f_110_9 hy
theorem f_110_10 : oFet 110 10 = some (.ifCond .ne 11, 3) := by decide +kernel
theorem s_110_10 {d : Nat} {l0 l1 l2 : oV} {x : Int} {S : List oV} {σ : oSg} {Q : Option oV → (Nat → oC) → Prop} : oE d 110 10 [l0, l1, l2] (.inl x :: S) σ Q = if ¬ x = 0 then oE d 110 21 [l0, l1, l2] S σ Q else oE d 110 13 [l0, l1, l2] S σ Q := oIfNe f_110_10 (by decide)
theorem f_110_13 : oFet 110 13 = some (.iload_n 1, 1) := by decide +kernel
theorem s_110_13 {d : Nat} {l0 l2 : oV} {x : Int} {S : List oV} {σ : oSg} {Q : Option oV → (Nat → oC) → Prop} : oE d 110 13 [l0, .inl x, l2] S σ Q = oE d 110 14 [l0, .inl x, l2] (.inl x :: S) σ Q := pLdN (k := 1) f_110_13 rfl rfl rfl
theorem f_110_14 : oFet 110 14 = some (.iload_n 2, 1) := by decide +kernel
theorem s_110_14 {d : Nat} {l0 l1 : oV} {x : Int} {S : List oV} {σ : oSg} {Q : Option oV → (Nat → oC) → Prop} : oE d 110 14 [l0, l1, .inl x] S σ Q = oE d 110 15 [l0, l1, .inl x] (.inl x :: S) σ Q := pLdN (k := 2) f_110_14 rfl rfl rfl
theorem f_110_15 : oFet 110 15 = some (.irem, 1) := by decide +kernel
theorem s_110_15 {d : Nat} {l0 l1 l2 : oV} {x y : Int} {S : List oV} {σ : oSg} {Q : Option oV → (Nat → oC) → Prop} (hy : y ≠ 0) : oE d 110 15 [l0, l1, l2] (.inl y :: .inl x :: S) σ Q = oE d 110 16 [l0, l1, l2] (.inl (oRem x y) :: S) σ Q := pRem f_110_15 hy
theorem f_110_16 : oFet 110 16 = some (.ifCond .ne 5, 3) := by decide +kernel
theorem s_110_16 {d : Nat} {l0 l1 l2 : oV} {x : Int} {S : List oV} {σ : oSg} {Q : Option oV → (Nat → oC) → Prop} : oE d 110 16 [l0, l1, l2] (.inl x :: S) σ Q = if ¬ x = 0 then oE d 110 21 [l0, l1, l2] S σ Q else oE d 110 19 [l0, l1, l2] S σ Q := oIfNe f_110_16 (by decide)
theorem f_110_19 : oFet 110 19 = some (.iload_n 2, 1) := by decide +kernel
theorem s_110_19 {d : Nat} {l0 l1 : oV} {x : Int} {S : List oV} {σ : oSg} {Q : Option oV → (Nat → oC) → Prop} : oE d 110 19 [l0, l1, .inl x] S σ Q = oE d 110 20 [l0, l1, .inl x] (.inl x :: S) σ Q := pLdN (k := 2) f_110_19 rfl rfl rfl
theorem f_110_20 : oFet 110 20 = some (.ireturn, 1) := by decide +kernel
theorem s_110_20 {d : Nat} {l0 l1 l2 : oV} {x : Int} {σ : oSg} {Q : Option oV → (Nat → oC) → Prop} : oE d 110 20 [l0, l1, l2] [.inl x] σ Q = Q (some (.inl x)) (oBld σ) := oIret f_110_20 rt_110
theorem f_110_21 : oFet 110 21 = some (.iinc 2 (-1), 3) := by decide +kernel
theorem s_110_21 {d : Nat} {l0 l1 : oV} {x : Int} {S : List oV} {σ : oSg} {Q : Option oV → (Nat → oC) → Prop} (c1 : oCat l1 = 1)  : oE d 110 21 [l0, l1, .inl x] S σ Q = oE d 110 24 [l0, l1, .inl (oAdd x (-1))] S σ Q := pInc f_110_21 rfl (show (2 : Nat) < 3 by decide) (oC1n c1) (oC1n (v := .inl x) rfl) rfl
theorem f_110_24 : oFet 110 24 = some (.goto (-22), 3) := by decide +kernel
theorem s_110_24 {d : Nat} {l0 l1 l2 : oV} {S : List oV} {σ : oSg} {Q : Option oV → (Nat → oC) → Prop} : oE d 110 24 [l0, l1, l2] S σ Q = oE d 110 2 [l0, l1, l2] S σ Q := pGoto f_110_24 (by decide)
theorem f_110_27 : oFet 110 27 = some (.iconst 1, 1) := by decide +kernel
theorem s_110_27 {d : Nat} {l0 l1 l2 : oV} {S : List oV} {σ : oSg} {Q : Option oV → (Nat → oC) → Prop} : oE d 110 27 [l0, l1, l2] S σ Q = oE d 110 28 [l0, l1, l2] (.inl (1) :: S) σ Q := pKst f_110_27 (by decide)
theorem f_110_28 : oFet 110 28 = some (.ireturn, 1) := by decide +kernel
theorem s_110_28 {d : Nat} {l0 l1 l2 : oV} {x : Int} {σ : oSg} {Q : Option oV → (Nat → oC) → Prop} : oE d 110 28 [l0, l1, l2] [.inl x] σ Q = Q (some (.inl x)) (oBld σ) := oIret f_110_28 rt_110
theorem ow_111 : (oMt 111).2.2.2.2.1 = 10 := by decide +kernel
theorem rt_111 : (oMt 111).2.2.2.1 = some .long := by decide +kernel
theorem nl_111 : (oMt 111).2.2.1 = 2 := by decide +kernel
theorem f_111_0 : oFet 111 0 = some (.aload_n 0, 1) := by decide +kernel
theorem s_111_0 {d : Nat} {l1 : oV} {a : Nat} {S : List oV} {σ : oSg} {Q : Option oV → (Nat → oC) → Prop} : oE d 111 0 [.inr (.inr (.inl a)), l1] S σ Q = oE d 111 1 [.inr (.inr (.inl a)), l1] (.inr (.inr (.inl a)) :: S) σ Q := pLdN (k := 0) f_111_0 rfl rfl rfl
theorem f_111_1 : oFet 111 1 = some (.getfield 12, 3) := by decide +kernel
theorem s_111_1 {d : Nat} {l0 l1 : oV} {a : Nat} {S : List oV} {σ : oSg} {Q : Option oV → (Nat → oC) → Prop} (hk : oKd a = some 10) : oE d 111 1 [l0, l1] (.inr (.inr (.inl a)) :: S) σ Q = oE d 111 4 [l0, l1] (.inr (.inr (.inl (oRf a 0))) :: S) σ Q := pGfR f_111_1 ow_111 fl_10_12 rfl (by decide) hk
theorem f_111_4 : oFet 111 4 = some (.invokevirtual 219, 3) := by decide +kernel
theorem c_111_4 {d : Nat} {l0 l1 : oV} {a : Nat} {v : Option oV} {τ : oSg} {S : List oV} {σ : oSg} {Q : Option oV → (Nat → oC) → Prop} (hm : oMi d 77 [.inr (.inr (.inl a))] σ v τ) (hk : oKd a = some 1) (hs : oSmall S = true) : oE d 111 4 [l0, l1] (.inr (.inr (.inl a)) :: S) σ Q = oE d 111 7 [l0, l1] (v.toList ++ S) τ Q := pCallV f_111_4 ow_111 lk_10_219 mt_77 rfl rfl rfl hk hs hm
theorem f_111_7 : oFet 111 7 = some (.aload_n 0, 1) := by decide +kernel
theorem s_111_7 {d : Nat} {l1 : oV} {a : Nat} {S : List oV} {σ : oSg} {Q : Option oV → (Nat → oC) → Prop} : oE d 111 7 [.inr (.inr (.inl a)), l1] S σ Q = oE d 111 8 [.inr (.inr (.inl a)), l1] (.inr (.inr (.inl a)) :: S) σ Q := pLdN (k := 0) f_111_7 rfl rfl rfl
theorem f_111_8 : oFet 111 8 = some (.getfield 12, 3) := by decide +kernel
theorem s_111_8 {d : Nat} {l0 l1 : oV} {a : Nat} {S : List oV} {σ : oSg} {Q : Option oV → (Nat → oC) → Prop} (hk : oKd a = some 10) : oE d 111 8 [l0, l1] (.inr (.inr (.inl a)) :: S) σ Q = oE d 111 11 [l0, l1] (.inr (.inr (.inl (oRf a 0))) :: S) σ Q := pGfR f_111_8 ow_111 fl_10_12 rfl (by decide) hk
theorem f_111_11 : oFet 111 11 = some (.invokevirtual 111, 3) := by decide +kernel
theorem c_111_11 {d : Nat} {l0 l1 : oV} {a : Nat} {v : Option oV} {τ : oSg} {S : List oV} {σ : oSg} {Q : Option oV → (Nat → oC) → Prop} (hm : oMi d 25 [.inr (.inr (.inl a))] σ v τ) (hk : oKd a = some 1) (hs : oSmall S = true) : oE d 111 11 [l0, l1] (.inr (.inr (.inl a)) :: S) σ Q = oE d 111 14 [l0, l1] (v.toList ++ S) τ Q := pCallV f_111_11 ow_111 lk_10_111 mt_25 rfl rfl rfl hk hs hm
theorem f_111_14 : oFet 111 14 = some (.iload_n 1, 1) := by decide +kernel
theorem s_111_14 {d : Nat} {l0 : oV} {x : Int} {S : List oV} {σ : oSg} {Q : Option oV → (Nat → oC) → Prop} : oE d 111 14 [l0, .inl x] S σ Q = oE d 111 15 [l0, .inl x] (.inl x :: S) σ Q := pLdN (k := 1) f_111_14 rfl rfl rfl
theorem f_111_15 : oFet 111 15 = some (.invokestatic 306, 3) := by decide +kernel
theorem c_111_15 {d : Nat} {l0 l1 : oV} {x0 x1 x2 : oV} {v : Option oV} {τ : oSg} {S : List oV} {σ : oSg} {Q : Option oV → (Nat → oC) → Prop} (hm : oMi d 109 [x0, x1, x2] σ v τ) (hs : oSmall S = true) : oE d 111 15 [l0, l1] (x2 :: x1 :: x0 :: S) σ Q = oE d 111 18 [l0, l1] (v.toList ++ S) τ Q := pCallS f_111_15 ow_111 lk_10_306 mt_109 rfl rfl rfl hs hm
theorem f_111_18 : oFet 111 18 = some (.lreturn, 1) := by decide +kernel
theorem s_111_18 {d : Nat} {l0 l1 : oV} {x : Int} {σ : oSg} {Q : Option oV → (Nat → oC) → Prop} : oE d 111 18 [l0, l1] [.inr (.inl x)] σ Q = Q (some (.inr (.inl x))) (oBld σ) := oLret f_111_18 rt_111
theorem ow_112 : (oMt 112).2.2.2.2.1 = 10 := by decide +kernel
theorem rt_112 : (oMt 112).2.2.2.1 = some .int := by decide +kernel
theorem nl_112 : (oMt 112).2.2.1 = 3 := by decide +kernel
theorem f_112_0 : oFet 112 0 = some (.iload_n 1, 1) := by decide +kernel
theorem s_112_0 {d : Nat} {l0 l2 : oV} {x : Int} {S : List oV} {σ : oSg} {Q : Option oV → (Nat → oC) → Prop} : oE d 112 0 [l0, .inl x, l2] S σ Q = oE d 112 1 [l0, .inl x, l2] (.inl x :: S) σ Q := pLdN (k := 1) f_112_0 rfl rfl rfl
theorem f_112_1 : oFet 112 1 = some (.iconst (-1), 1) := by decide +kernel
theorem s_112_1 {d : Nat} {l0 l1 l2 : oV} {S : List oV} {σ : oSg} {Q : Option oV → (Nat → oC) → Prop} : oE d 112 1 [l0, l1, l2] S σ Q = oE d 112 2 [l0, l1, l2] (.inl (-1) :: S) σ Q := pKst f_112_1 (by decide)
theorem f_112_2 : oFet 112 2 = some (.if_icmp .ne 14, 3) := by decide +kernel
theorem s_112_2 {d : Nat} {l0 l1 l2 : oV} {x y : Int} {S : List oV} {σ : oSg} {Q : Option oV → (Nat → oC) → Prop} : oE d 112 2 [l0, l1, l2] (.inl y :: .inl x :: S) σ Q = if ¬ x = y then oE d 112 16 [l0, l1, l2] S σ Q else oE d 112 5 [l0, l1, l2] S σ Q := oCmpNe f_112_2 (by decide)
theorem f_112_5 : oFet 112 5 = some (.aload_n 0, 1) := by decide +kernel
theorem s_112_5 {d : Nat} {l1 l2 : oV} {a : Nat} {S : List oV} {σ : oSg} {Q : Option oV → (Nat → oC) → Prop} : oE d 112 5 [.inr (.inr (.inl a)), l1, l2] S σ Q = oE d 112 6 [.inr (.inr (.inl a)), l1, l2] (.inr (.inr (.inl a)) :: S) σ Q := pLdN (k := 0) f_112_5 rfl rfl rfl
theorem f_112_6 : oFet 112 6 = some (.getfield 12, 3) := by decide +kernel
theorem s_112_6 {d : Nat} {l0 l1 l2 : oV} {a : Nat} {S : List oV} {σ : oSg} {Q : Option oV → (Nat → oC) → Prop} (hk : oKd a = some 10) : oE d 112 6 [l0, l1, l2] (.inr (.inr (.inl a)) :: S) σ Q = oE d 112 9 [l0, l1, l2] (.inr (.inr (.inl (oRf a 0))) :: S) σ Q := pGfR f_112_6 ow_112 fl_10_12 rfl (by decide) hk
theorem f_112_9 : oFet 112 9 = some (.getfield 313, 3) := by decide +kernel
theorem s_112_9 {d : Nat} {l0 l1 l2 : oV} {a : Nat} {S : List oV} {σ : oSg} {Q : Option oV → (Nat → oC) → Prop} (hk : oKd a = some 1) : oE d 112 9 [l0, l1, l2] (.inr (.inr (.inl a)) :: S) σ Q = oE d 112 12 [l0, l1, l2] (.inr (.inr (.inl (oRf a 5))) :: S) σ Q := pGfR f_112_9 ow_112 fl_10_313 rfl (by decide) hk
theorem f_112_12 : oFet 112 12 = some (.invokevirtual 269, 3) := by decide +kernel
theorem c_112_12 {d : Nat} {l0 l1 l2 : oV} {a : Nat} {v : Option oV} {τ : oSg} {S : List oV} {σ : oSg} {Q : Option oV → (Nat → oC) → Prop} (hm : oMi d 92 [.inr (.inr (.inl a))] σ v τ) (hk : oKd a = some 7) (hs : oSmall S = true) : oE d 112 12 [l0, l1, l2] (.inr (.inr (.inl a)) :: S) σ Q = oE d 112 15 [l0, l1, l2] (v.toList ++ S) τ Q := pCallV f_112_12 ow_112 lk_10_269 mt_92 rfl rfl rfl hk hs hm
theorem f_112_15 : oFet 112 15 = some (.ireturn, 1) := by decide +kernel
theorem s_112_15 {d : Nat} {l0 l1 l2 : oV} {x : Int} {σ : oSg} {Q : Option oV → (Nat → oC) → Prop} : oE d 112 15 [l0, l1, l2] [.inl x] σ Q = Q (some (.inl x)) (oBld σ) := oIret f_112_15 rt_112
theorem f_112_16 : oFet 112 16 = some (.iload_n 1, 1) := by decide +kernel
theorem s_112_16 {d : Nat} {l0 l2 : oV} {x : Int} {S : List oV} {σ : oSg} {Q : Option oV → (Nat → oC) → Prop} : oE d 112 16 [l0, .inl x, l2] S σ Q = oE d 112 17 [l0, .inl x, l2] (.inl x :: S) σ Q := pLdN (k := 1) f_112_16 rfl rfl rfl
theorem f_112_17 : oFet 112 17 = some (.ifCond .lt 8, 3) := by decide +kernel
theorem s_112_17 {d : Nat} {l0 l1 l2 : oV} {x : Int} {S : List oV} {σ : oSg} {Q : Option oV → (Nat → oC) → Prop} : oE d 112 17 [l0, l1, l2] (.inl x :: S) σ Q = if x < 0 then oE d 112 25 [l0, l1, l2] S σ Q else oE d 112 20 [l0, l1, l2] S σ Q := oIfLt f_112_17 (by decide)
theorem f_112_20 : oFet 112 20 = some (.iload_n 1, 1) := by decide +kernel
theorem s_112_20 {d : Nat} {l0 l2 : oV} {x : Int} {S : List oV} {σ : oSg} {Q : Option oV → (Nat → oC) → Prop} : oE d 112 20 [l0, .inl x, l2] S σ Q = oE d 112 21 [l0, .inl x, l2] (.inl x :: S) σ Q := pLdN (k := 1) f_112_20 rfl rfl rfl
theorem f_112_21 : oFet 112 21 = some (.iconst 3, 1) := by decide +kernel
theorem s_112_21 {d : Nat} {l0 l1 l2 : oV} {S : List oV} {σ : oSg} {Q : Option oV → (Nat → oC) → Prop} : oE d 112 21 [l0, l1, l2] S σ Q = oE d 112 22 [l0, l1, l2] (.inl (3) :: S) σ Q := pKst f_112_21 (by decide)
theorem f_112_22 : oFet 112 22 = some (.if_icmp .le 5, 3) := by decide +kernel
theorem s_112_22 {d : Nat} {l0 l1 l2 : oV} {x y : Int} {S : List oV} {σ : oSg} {Q : Option oV → (Nat → oC) → Prop} : oE d 112 22 [l0, l1, l2] (.inl y :: .inl x :: S) σ Q = if x ≤ y then oE d 112 27 [l0, l1, l2] S σ Q else oE d 112 25 [l0, l1, l2] S σ Q := oCmpLe f_112_22 (by decide)
theorem f_112_25 : oFet 112 25 = some (.iconst (-1), 1) := by decide +kernel
theorem s_112_25 {d : Nat} {l0 l1 l2 : oV} {S : List oV} {σ : oSg} {Q : Option oV → (Nat → oC) → Prop} : oE d 112 25 [l0, l1, l2] S σ Q = oE d 112 26 [l0, l1, l2] (.inl (-1) :: S) σ Q := pKst f_112_25 (by decide)
theorem f_112_26 : oFet 112 26 = some (.ireturn, 1) := by decide +kernel
theorem s_112_26 {d : Nat} {l0 l1 l2 : oV} {x : Int} {σ : oSg} {Q : Option oV → (Nat → oC) → Prop} : oE d 112 26 [l0, l1, l2] [.inl x] σ Q = Q (some (.inl x)) (oBld σ) := oIret f_112_26 rt_112
theorem f_112_27 : oFet 112 27 = some (.iload_n 1, 1) := by decide +kernel
theorem s_112_27 {d : Nat} {l0 l2 : oV} {x : Int} {S : List oV} {σ : oSg} {Q : Option oV → (Nat → oC) → Prop} : oE d 112 27 [l0, .inl x, l2] S σ Q = oE d 112 28 [l0, .inl x, l2] (.inl x :: S) σ Q := pLdN (k := 1) f_112_27 rfl rfl rfl
theorem f_112_28 : oFet 112 28 = some (.ifCond .eq 8, 3) := by decide +kernel
theorem s_112_28 {d : Nat} {l0 l1 l2 : oV} {x : Int} {S : List oV} {σ : oSg} {Q : Option oV → (Nat → oC) → Prop} : oE d 112 28 [l0, l1, l2] (.inl x :: S) σ Q = if x = 0 then oE d 112 36 [l0, l1, l2] S σ Q else oE d 112 31 [l0, l1, l2] S σ Q := oIfEq f_112_28 (by decide)
theorem f_112_31 : oFet 112 31 = some (.iload_n 1, 1) := by decide +kernel
theorem s_112_31 {d : Nat} {l0 l2 : oV} {x : Int} {S : List oV} {σ : oSg} {Q : Option oV → (Nat → oC) → Prop} : oE d 112 31 [l0, .inl x, l2] S σ Q = oE d 112 32 [l0, .inl x, l2] (.inl x :: S) σ Q := pLdN (k := 1) f_112_31 rfl rfl rfl
theorem f_112_32 : oFet 112 32 = some (.iconst 1, 1) := by decide +kernel
theorem s_112_32 {d : Nat} {l0 l1 l2 : oV} {S : List oV} {σ : oSg} {Q : Option oV → (Nat → oC) → Prop} : oE d 112 32 [l0, l1, l2] S σ Q = oE d 112 33 [l0, l1, l2] (.inl (1) :: S) σ Q := pKst f_112_32 (by decide)
theorem f_112_33 : oFet 112 33 = some (.if_icmp .ne 19, 3) := by decide +kernel
theorem s_112_33 {d : Nat} {l0 l1 l2 : oV} {x y : Int} {S : List oV} {σ : oSg} {Q : Option oV → (Nat → oC) → Prop} : oE d 112 33 [l0, l1, l2] (.inl y :: .inl x :: S) σ Q = if ¬ x = y then oE d 112 52 [l0, l1, l2] S σ Q else oE d 112 36 [l0, l1, l2] S σ Q := oCmpNe f_112_33 (by decide)
theorem f_112_36 : oFet 112 36 = some (.aload_n 0, 1) := by decide +kernel
theorem s_112_36 {d : Nat} {l1 l2 : oV} {a : Nat} {S : List oV} {σ : oSg} {Q : Option oV → (Nat → oC) → Prop} : oE d 112 36 [.inr (.inr (.inl a)), l1, l2] S σ Q = oE d 112 37 [.inr (.inr (.inl a)), l1, l2] (.inr (.inr (.inl a)) :: S) σ Q := pLdN (k := 0) f_112_36 rfl rfl rfl
theorem f_112_37 : oFet 112 37 = some (.getfield 12, 3) := by decide +kernel
theorem s_112_37 {d : Nat} {l0 l1 l2 : oV} {a : Nat} {S : List oV} {σ : oSg} {Q : Option oV → (Nat → oC) → Prop} (hk : oKd a = some 10) : oE d 112 37 [l0, l1, l2] (.inr (.inr (.inl a)) :: S) σ Q = oE d 112 40 [l0, l1, l2] (.inr (.inr (.inl (oRf a 0))) :: S) σ Q := pGfR f_112_37 ow_112 fl_10_12 rfl (by decide) hk
theorem f_112_40 : oFet 112 40 = some (.getfield 73, 3) := by decide +kernel
theorem s_112_40 {d : Nat} {l0 l1 l2 : oV} {a : Nat} {S : List oV} {σ : oSg} {Q : Option oV → (Nat → oC) → Prop} (hk : oKd a = some 1) : oE d 112 40 [l0, l1, l2] (.inr (.inr (.inl a)) :: S) σ Q = oE d 112 43 [l0, l1, l2] (.inr (.inr (.inl (oRf a 0))) :: S) σ Q := pGfR f_112_40 ow_112 fl_10_73 rfl (by decide) hk
theorem f_112_43 : oFet 112 43 = some (.iload_n 2, 1) := by decide +kernel
theorem s_112_43 {d : Nat} {l0 l1 : oV} {x : Int} {S : List oV} {σ : oSg} {Q : Option oV → (Nat → oC) → Prop} : oE d 112 43 [l0, l1, .inl x] S σ Q = oE d 112 44 [l0, l1, .inl x] (.inl x :: S) σ Q := pLdN (k := 2) f_112_43 rfl rfl rfl
theorem f_112_44 : oFet 112 44 = some (.invokevirtual 115, 3) := by decide +kernel
theorem c_112_44 {d : Nat} {l0 l1 l2 : oV} {x0 : oV} {a : Nat} {v : Option oV} {τ : oSg} {S : List oV} {σ : oSg} {Q : Option oV → (Nat → oC) → Prop} (hm : oMi d 15 [.inr (.inr (.inl a)), x0] σ v τ) (hk : oKd a = some 4) (hs : oSmall S = true) : oE d 112 44 [l0, l1, l2] (x0 :: .inr (.inr (.inl a)) :: S) σ Q = oE d 112 47 [l0, l1, l2] (v.toList ++ S) τ Q := pCallV f_112_44 ow_112 lk_10_115 mt_15 rfl rfl rfl hk hs hm
theorem f_112_47 : oFet 112 47 = some (.ifCond .ne 5, 3) := by decide +kernel
theorem s_112_47 {d : Nat} {l0 l1 l2 : oV} {x : Int} {S : List oV} {σ : oSg} {Q : Option oV → (Nat → oC) → Prop} : oE d 112 47 [l0, l1, l2] (.inl x :: S) σ Q = if ¬ x = 0 then oE d 112 52 [l0, l1, l2] S σ Q else oE d 112 50 [l0, l1, l2] S σ Q := oIfNe f_112_47 (by decide)
theorem f_112_50 : oFet 112 50 = some (.iconst (-1), 1) := by decide +kernel
theorem s_112_50 {d : Nat} {l0 l1 l2 : oV} {S : List oV} {σ : oSg} {Q : Option oV → (Nat → oC) → Prop} : oE d 112 50 [l0, l1, l2] S σ Q = oE d 112 51 [l0, l1, l2] (.inl (-1) :: S) σ Q := pKst f_112_50 (by decide)
theorem f_112_51 : oFet 112 51 = some (.ireturn, 1) := by decide +kernel
theorem s_112_51 {d : Nat} {l0 l1 l2 : oV} {x : Int} {σ : oSg} {Q : Option oV → (Nat → oC) → Prop} : oE d 112 51 [l0, l1, l2] [.inl x] σ Q = Q (some (.inl x)) (oBld σ) := oIret f_112_51 rt_112
theorem f_112_52 : oFet 112 52 = some (.iload_n 1, 1) := by decide +kernel
theorem s_112_52 {d : Nat} {l0 l2 : oV} {x : Int} {S : List oV} {σ : oSg} {Q : Option oV → (Nat → oC) → Prop} : oE d 112 52 [l0, .inl x, l2] S σ Q = oE d 112 53 [l0, .inl x, l2] (.inl x :: S) σ Q := pLdN (k := 1) f_112_52 rfl rfl rfl
theorem f_112_53 : oFet 112 53 = some (.iconst 2, 1) := by decide +kernel
theorem s_112_53 {d : Nat} {l0 l1 l2 : oV} {S : List oV} {σ : oSg} {Q : Option oV → (Nat → oC) → Prop} : oE d 112 53 [l0, l1, l2] S σ Q = oE d 112 54 [l0, l1, l2] (.inl (2) :: S) σ Q := pKst f_112_53 (by decide)
theorem f_112_54 : oFet 112 54 = some (.if_icmp .ne 16, 3) := by decide +kernel
theorem s_112_54 {d : Nat} {l0 l1 l2 : oV} {x y : Int} {S : List oV} {σ : oSg} {Q : Option oV → (Nat → oC) → Prop} : oE d 112 54 [l0, l1, l2] (.inl y :: .inl x :: S) σ Q = if ¬ x = y then oE d 112 70 [l0, l1, l2] S σ Q else oE d 112 57 [l0, l1, l2] S σ Q := oCmpNe f_112_54 (by decide)
theorem f_112_57 : oFet 112 57 = some (.iload_n 2, 1) := by decide +kernel
theorem s_112_57 {d : Nat} {l0 l1 : oV} {x : Int} {S : List oV} {σ : oSg} {Q : Option oV → (Nat → oC) → Prop} : oE d 112 57 [l0, l1, .inl x] S σ Q = oE d 112 58 [l0, l1, .inl x] (.inl x :: S) σ Q := pLdN (k := 2) f_112_57 rfl rfl rfl
theorem f_112_58 : oFet 112 58 = some (.ifCond .lt 9, 3) := by decide +kernel
theorem s_112_58 {d : Nat} {l0 l1 l2 : oV} {x : Int} {S : List oV} {σ : oSg} {Q : Option oV → (Nat → oC) → Prop} : oE d 112 58 [l0, l1, l2] (.inl x :: S) σ Q = if x < 0 then oE d 112 67 [l0, l1, l2] S σ Q else oE d 112 61 [l0, l1, l2] S σ Q := oIfLt f_112_58 (by decide)
theorem f_112_61 : oFet 112 61 = some (.iload_n 2, 1) := by decide +kernel
theorem s_112_61 {d : Nat} {l0 l1 : oV} {x : Int} {S : List oV} {σ : oSg} {Q : Option oV → (Nat → oC) → Prop} : oE d 112 61 [l0, l1, .inl x] S σ Q = oE d 112 62 [l0, l1, .inl x] (.inl x :: S) σ Q := pLdN (k := 2) f_112_61 rfl rfl rfl
theorem f_112_62 : oFet 112 62 = some (.bipush 20, 2) := by decide +kernel
theorem s_112_62 {d : Nat} {l0 l1 l2 : oV} {S : List oV} {σ : oSg} {Q : Option oV → (Nat → oC) → Prop} : oE d 112 62 [l0, l1, l2] S σ Q = oE d 112 64 [l0, l1, l2] (.inl (20) :: S) σ Q := pBip f_112_62 (by decide)
theorem f_112_64 : oFet 112 64 = some (.if_icmp .le 6, 3) := by decide +kernel
theorem s_112_64 {d : Nat} {l0 l1 l2 : oV} {x y : Int} {S : List oV} {σ : oSg} {Q : Option oV → (Nat → oC) → Prop} : oE d 112 64 [l0, l1, l2] (.inl y :: .inl x :: S) σ Q = if x ≤ y then oE d 112 70 [l0, l1, l2] S σ Q else oE d 112 67 [l0, l1, l2] S σ Q := oCmpLe f_112_64 (by decide)
theorem f_112_67 : oFet 112 67 = some (.bipush (-2), 2) := by decide +kernel
theorem s_112_67 {d : Nat} {l0 l1 l2 : oV} {S : List oV} {σ : oSg} {Q : Option oV → (Nat → oC) → Prop} : oE d 112 67 [l0, l1, l2] S σ Q = oE d 112 69 [l0, l1, l2] (.inl (-2) :: S) σ Q := pBip f_112_67 (by decide)
theorem f_112_69 : oFet 112 69 = some (.ireturn, 1) := by decide +kernel
theorem s_112_69 {d : Nat} {l0 l1 l2 : oV} {x : Int} {σ : oSg} {Q : Option oV → (Nat → oC) → Prop} : oE d 112 69 [l0, l1, l2] [.inl x] σ Q = Q (some (.inl x)) (oBld σ) := oIret f_112_69 rt_112
theorem f_112_70 : oFet 112 70 = some (.aload_n 0, 1) := by decide +kernel
theorem s_112_70 {d : Nat} {l1 l2 : oV} {a : Nat} {S : List oV} {σ : oSg} {Q : Option oV → (Nat → oC) → Prop} : oE d 112 70 [.inr (.inr (.inl a)), l1, l2] S σ Q = oE d 112 71 [.inr (.inr (.inl a)), l1, l2] (.inr (.inr (.inl a)) :: S) σ Q := pLdN (k := 0) f_112_70 rfl rfl rfl
theorem f_112_71 : oFet 112 71 = some (.getfield 12, 3) := by decide +kernel
theorem s_112_71 {d : Nat} {l0 l1 l2 : oV} {a : Nat} {S : List oV} {σ : oSg} {Q : Option oV → (Nat → oC) → Prop} (hk : oKd a = some 10) : oE d 112 71 [l0, l1, l2] (.inr (.inr (.inl a)) :: S) σ Q = oE d 112 74 [l0, l1, l2] (.inr (.inr (.inl (oRf a 0))) :: S) σ Q := pGfR f_112_71 ow_112 fl_10_12 rfl (by decide) hk
theorem f_112_74 : oFet 112 74 = some (.getfield 313, 3) := by decide +kernel
theorem s_112_74 {d : Nat} {l0 l1 l2 : oV} {a : Nat} {S : List oV} {σ : oSg} {Q : Option oV → (Nat → oC) → Prop} (hk : oKd a = some 1) : oE d 112 74 [l0, l1, l2] (.inr (.inr (.inl a)) :: S) σ Q = oE d 112 77 [l0, l1, l2] (.inr (.inr (.inl (oRf a 5))) :: S) σ Q := pGfR f_112_74 ow_112 fl_10_313 rfl (by decide) hk
theorem f_112_77 : oFet 112 77 = some (.iload_n 1, 1) := by decide +kernel
theorem s_112_77 {d : Nat} {l0 l2 : oV} {x : Int} {S : List oV} {σ : oSg} {Q : Option oV → (Nat → oC) → Prop} : oE d 112 77 [l0, .inl x, l2] S σ Q = oE d 112 78 [l0, .inl x, l2] (.inl x :: S) σ Q := pLdN (k := 1) f_112_77 rfl rfl rfl
theorem f_112_78 : oFet 112 78 = some (.iload_n 2, 1) := by decide +kernel
theorem s_112_78 {d : Nat} {l0 l1 : oV} {x : Int} {S : List oV} {σ : oSg} {Q : Option oV → (Nat → oC) → Prop} : oE d 112 78 [l0, l1, .inl x] S σ Q = oE d 112 79 [l0, l1, .inl x] (.inl x :: S) σ Q := pLdN (k := 2) f_112_78 rfl rfl rfl
theorem f_112_79 : oFet 112 79 = some (.invokevirtual 277, 3) := by decide +kernel
theorem c_112_79 {d : Nat} {l0 l1 l2 : oV} {x0 x1 : oV} {a : Nat} {v : Option oV} {τ : oSg} {S : List oV} {σ : oSg} {Q : Option oV → (Nat → oC) → Prop} (hm : oMi d 94 [.inr (.inr (.inl a)), x0, x1] σ v τ) (hk : oKd a = some 7) (hs : oSmall S = true) : oE d 112 79 [l0, l1, l2] (x1 :: x0 :: .inr (.inr (.inl a)) :: S) σ Q = oE d 112 82 [l0, l1, l2] (v.toList ++ S) τ Q := pCallV f_112_79 ow_112 lk_10_277 mt_94 rfl rfl rfl hk hs hm
theorem f_112_82 : oFet 112 82 = some (.ireturn, 1) := by decide +kernel
theorem s_112_82 {d : Nat} {l0 l1 l2 : oV} {x : Int} {σ : oSg} {Q : Option oV → (Nat → oC) → Prop} : oE d 112 82 [l0, l1, l2] [.inl x] σ Q = Q (some (.inl x)) (oBld σ) := oIret f_112_82 rt_112
theorem ow_113 : (oMt 113).2.2.2.2.1 = 10 := by decide +kernel
theorem rt_113 : (oMt 113).2.2.2.1 = some .int := by decide +kernel
theorem nl_113 : (oMt 113).2.2.1 = 3 := by decide +kernel
theorem f_113_0 : oFet 113 0 = some (.iload_n 1, 1) := by decide +kernel
theorem s_113_0 {d : Nat} {l0 l2 : oV} {x : Int} {S : List oV} {σ : oSg} {Q : Option oV → (Nat → oC) → Prop} : oE d 113 0 [l0, .inl x, l2] S σ Q = oE d 113 1 [l0, .inl x, l2] (.inl x :: S) σ Q := pLdN (k := 1) f_113_0 rfl rfl rfl
theorem f_113_1 : oFet 113 1 = some (.ifCond .lt 8, 3) := by decide +kernel
theorem s_113_1 {d : Nat} {l0 l1 l2 : oV} {x : Int} {S : List oV} {σ : oSg} {Q : Option oV → (Nat → oC) → Prop} : oE d 113 1 [l0, l1, l2] (.inl x :: S) σ Q = if x < 0 then oE d 113 9 [l0, l1, l2] S σ Q else oE d 113 4 [l0, l1, l2] S σ Q := oIfLt f_113_1 (by decide)
theorem f_113_4 : oFet 113 4 = some (.iload_n 1, 1) := by decide +kernel
theorem s_113_4 {d : Nat} {l0 l2 : oV} {x : Int} {S : List oV} {σ : oSg} {Q : Option oV → (Nat → oC) → Prop} : oE d 113 4 [l0, .inl x, l2] S σ Q = oE d 113 5 [l0, .inl x, l2] (.inl x :: S) σ Q := pLdN (k := 1) f_113_4 rfl rfl rfl
theorem f_113_5 : oFet 113 5 = some (.iconst 2, 1) := by decide +kernel
theorem s_113_5 {d : Nat} {l0 l1 l2 : oV} {S : List oV} {σ : oSg} {Q : Option oV → (Nat → oC) → Prop} : oE d 113 5 [l0, l1, l2] S σ Q = oE d 113 6 [l0, l1, l2] (.inl (2) :: S) σ Q := pKst f_113_5 (by decide)
theorem f_113_6 : oFet 113 6 = some (.if_icmp .le 5, 3) := by decide +kernel
theorem s_113_6 {d : Nat} {l0 l1 l2 : oV} {x y : Int} {S : List oV} {σ : oSg} {Q : Option oV → (Nat → oC) → Prop} : oE d 113 6 [l0, l1, l2] (.inl y :: .inl x :: S) σ Q = if x ≤ y then oE d 113 11 [l0, l1, l2] S σ Q else oE d 113 9 [l0, l1, l2] S σ Q := oCmpLe f_113_6 (by decide)
theorem f_113_9 : oFet 113 9 = some (.iconst (-1), 1) := by decide +kernel
theorem s_113_9 {d : Nat} {l0 l1 l2 : oV} {S : List oV} {σ : oSg} {Q : Option oV → (Nat → oC) → Prop} : oE d 113 9 [l0, l1, l2] S σ Q = oE d 113 10 [l0, l1, l2] (.inl (-1) :: S) σ Q := pKst f_113_9 (by decide)
theorem f_113_10 : oFet 113 10 = some (.ireturn, 1) := by decide +kernel
theorem s_113_10 {d : Nat} {l0 l1 l2 : oV} {x : Int} {σ : oSg} {Q : Option oV → (Nat → oC) → Prop} : oE d 113 10 [l0, l1, l2] [.inl x] σ Q = Q (some (.inl x)) (oBld σ) := oIret f_113_10 rt_113
theorem f_113_11 : oFet 113 11 = some (.aload_n 0, 1) := by decide +kernel
theorem s_113_11 {d : Nat} {l1 l2 : oV} {a : Nat} {S : List oV} {σ : oSg} {Q : Option oV → (Nat → oC) → Prop} : oE d 113 11 [.inr (.inr (.inl a)), l1, l2] S σ Q = oE d 113 12 [.inr (.inr (.inl a)), l1, l2] (.inr (.inr (.inl a)) :: S) σ Q := pLdN (k := 0) f_113_11 rfl rfl rfl
theorem f_113_12 : oFet 113 12 = some (.getfield 38, 3) := by decide +kernel
theorem s_113_12 {d : Nat} {l0 l1 l2 : oV} {a : Nat} {S : List oV} {σ : oSg} {Q : Option oV → (Nat → oC) → Prop} (hk : oKd a = some 10) : oE d 113 12 [l0, l1, l2] (.inr (.inr (.inl a)) :: S) σ Q = oE d 113 15 [l0, l1, l2] (.inr (.inr (.inl (oRf a 5))) :: S) σ Q := pGfR f_113_12 ow_113 fl_10_38 rfl (by decide) hk
theorem f_113_15 : oFet 113 15 = some (.aload_n 0, 1) := by decide +kernel
theorem s_113_15 {d : Nat} {l1 l2 : oV} {a : Nat} {S : List oV} {σ : oSg} {Q : Option oV → (Nat → oC) → Prop} : oE d 113 15 [.inr (.inr (.inl a)), l1, l2] S σ Q = oE d 113 16 [.inr (.inr (.inl a)), l1, l2] (.inr (.inr (.inl a)) :: S) σ Q := pLdN (k := 0) f_113_15 rfl rfl rfl
theorem f_113_16 : oFet 113 16 = some (.getfield 12, 3) := by decide +kernel
theorem s_113_16 {d : Nat} {l0 l1 l2 : oV} {a : Nat} {S : List oV} {σ : oSg} {Q : Option oV → (Nat → oC) → Prop} (hk : oKd a = some 10) : oE d 113 16 [l0, l1, l2] (.inr (.inr (.inl a)) :: S) σ Q = oE d 113 19 [l0, l1, l2] (.inr (.inr (.inl (oRf a 0))) :: S) σ Q := pGfR f_113_16 ow_113 fl_10_12 rfl (by decide) hk
theorem f_113_19 : oFet 113 19 = some (.getfield 73, 3) := by decide +kernel
theorem s_113_19 {d : Nat} {l0 l1 l2 : oV} {a : Nat} {S : List oV} {σ : oSg} {Q : Option oV → (Nat → oC) → Prop} (hk : oKd a = some 1) : oE d 113 19 [l0, l1, l2] (.inr (.inr (.inl a)) :: S) σ Q = oE d 113 22 [l0, l1, l2] (.inr (.inr (.inl (oRf a 0))) :: S) σ Q := pGfR f_113_19 ow_113 fl_10_73 rfl (by decide) hk
theorem f_113_22 : oFet 113 22 = some (.invokevirtual 205, 3) := by decide +kernel
theorem c_113_22 {d : Nat} {l0 l1 l2 : oV} {x0 : oV} {a : Nat} {v : Option oV} {τ : oSg} {S : List oV} {σ : oSg} {Q : Option oV → (Nat → oC) → Prop} (hm : oMi d 71 [.inr (.inr (.inl a)), x0] σ v τ) (hk : oKd a = some 4) (hs : oSmall S = true) : oE d 113 22 [l0, l1, l2] (x0 :: .inr (.inr (.inl a)) :: S) σ Q = oE d 113 25 [l0, l1, l2] (v.toList ++ S) τ Q := pCallV f_113_22 ow_113 lk_10_205 mt_71 rfl rfl rfl hk hs hm
theorem f_113_25 : oFet 113 25 = some (.iconst 0, 1) := by decide +kernel
theorem s_113_25 {d : Nat} {l0 l1 l2 : oV} {S : List oV} {σ : oSg} {Q : Option oV → (Nat → oC) → Prop} : oE d 113 25 [l0, l1, l2] S σ Q = oE d 113 26 [l0, l1, l2] (.inl (0) :: S) σ Q := pKst f_113_25 (by decide)
theorem f_113_26 : oFet 113 26 = some (.istore_n 2, 1) := by decide +kernel
theorem s_113_26 {d : Nat} {l0 l1 l2 : oV} {x : Int} {S : List oV} {σ : oSg} {Q : Option oV → (Nat → oC) → Prop} (c2 : oCat l2 = 1) (c1 : oCat l1 = 1)  : oE d 113 26 [l0, l1, l2] (.inl x :: S) σ Q = oE d 113 27 [l0, l1, .inl x] S σ Q := pSt (i := 2) f_113_26 rfl rfl (show (2 : Nat) < 3 by decide) (oC1n c1) (oC1n c2) rfl
theorem f_113_27 : oFet 113 27 = some (.iload_n 2, 1) := by decide +kernel
theorem s_113_27 {d : Nat} {l0 l1 : oV} {x : Int} {S : List oV} {σ : oSg} {Q : Option oV → (Nat → oC) → Prop} : oE d 113 27 [l0, l1, .inl x] S σ Q = oE d 113 28 [l0, l1, .inl x] (.inl x :: S) σ Q := pLdN (k := 2) f_113_27 rfl rfl rfl
theorem f_113_28 : oFet 113 28 = some (.aload_n 0, 1) := by decide +kernel
theorem s_113_28 {d : Nat} {l1 l2 : oV} {a : Nat} {S : List oV} {σ : oSg} {Q : Option oV → (Nat → oC) → Prop} : oE d 113 28 [.inr (.inr (.inl a)), l1, l2] S σ Q = oE d 113 29 [.inr (.inr (.inl a)), l1, l2] (.inr (.inr (.inl a)) :: S) σ Q := pLdN (k := 0) f_113_28 rfl rfl rfl
theorem f_113_29 : oFet 113 29 = some (.getfield 12, 3) := by decide +kernel
theorem s_113_29 {d : Nat} {l0 l1 l2 : oV} {a : Nat} {S : List oV} {σ : oSg} {Q : Option oV → (Nat → oC) → Prop} (hk : oKd a = some 10) : oE d 113 29 [l0, l1, l2] (.inr (.inr (.inl a)) :: S) σ Q = oE d 113 32 [l0, l1, l2] (.inr (.inr (.inl (oRf a 0))) :: S) σ Q := pGfR f_113_29 ow_113 fl_10_12 rfl (by decide) hk
theorem f_113_32 : oFet 113 32 = some (.getfield 313, 3) := by decide +kernel
theorem s_113_32 {d : Nat} {l0 l1 l2 : oV} {a : Nat} {S : List oV} {σ : oSg} {Q : Option oV → (Nat → oC) → Prop} (hk : oKd a = some 1) : oE d 113 32 [l0, l1, l2] (.inr (.inr (.inl a)) :: S) σ Q = oE d 113 35 [l0, l1, l2] (.inr (.inr (.inl (oRf a 5))) :: S) σ Q := pGfR f_113_32 ow_113 fl_10_313 rfl (by decide) hk
theorem f_113_35 : oFet 113 35 = some (.getfield 316, 3) := by decide +kernel
theorem s_113_35 {d : Nat} {l0 l1 l2 : oV} {a : Nat} {S : List oV} {σ : oSg} {Q : Option oV → (Nat → oC) → Prop} (hk : oKd a = some 7) : oE d 113 35 [l0, l1, l2] (.inr (.inr (.inl a)) :: S) σ Q = oE d 113 38 [l0, l1, l2] (.inl (σ.1 a 0) :: S) σ Q := pGfI f_113_35 ow_113 fl_10_316 rfl (by decide) hk
theorem f_113_38 : oFet 113 38 = some (.if_icmp .ge 38, 3) := by decide +kernel
theorem s_113_38 {d : Nat} {l0 l1 l2 : oV} {x y : Int} {S : List oV} {σ : oSg} {Q : Option oV → (Nat → oC) → Prop} : oE d 113 38 [l0, l1, l2] (.inl y :: .inl x :: S) σ Q = if y ≤ x then oE d 113 76 [l0, l1, l2] S σ Q else oE d 113 41 [l0, l1, l2] S σ Q := oCmpGe f_113_38 (by decide)
theorem f_113_41 : oFet 113 41 = some (.aload_n 0, 1) := by decide +kernel
theorem s_113_41 {d : Nat} {l1 l2 : oV} {a : Nat} {S : List oV} {σ : oSg} {Q : Option oV → (Nat → oC) → Prop} : oE d 113 41 [.inr (.inr (.inl a)), l1, l2] S σ Q = oE d 113 42 [.inr (.inr (.inl a)), l1, l2] (.inr (.inr (.inl a)) :: S) σ Q := pLdN (k := 0) f_113_41 rfl rfl rfl
theorem f_113_42 : oFet 113 42 = some (.getfield 38, 3) := by decide +kernel
theorem s_113_42 {d : Nat} {l0 l1 l2 : oV} {a : Nat} {S : List oV} {σ : oSg} {Q : Option oV → (Nat → oC) → Prop} (hk : oKd a = some 10) : oE d 113 42 [l0, l1, l2] (.inr (.inr (.inl a)) :: S) σ Q = oE d 113 45 [l0, l1, l2] (.inr (.inr (.inl (oRf a 5))) :: S) σ Q := pGfR f_113_42 ow_113 fl_10_38 rfl (by decide) hk
theorem f_113_45 : oFet 113 45 = some (.aload_n 0, 1) := by decide +kernel
theorem s_113_45 {d : Nat} {l1 l2 : oV} {a : Nat} {S : List oV} {σ : oSg} {Q : Option oV → (Nat → oC) → Prop} : oE d 113 45 [.inr (.inr (.inl a)), l1, l2] S σ Q = oE d 113 46 [.inr (.inr (.inl a)), l1, l2] (.inr (.inr (.inl a)) :: S) σ Q := pLdN (k := 0) f_113_45 rfl rfl rfl
theorem f_113_46 : oFet 113 46 = some (.getfield 12, 3) := by decide +kernel
theorem s_113_46 {d : Nat} {l0 l1 l2 : oV} {a : Nat} {S : List oV} {σ : oSg} {Q : Option oV → (Nat → oC) → Prop} (hk : oKd a = some 10) : oE d 113 46 [l0, l1, l2] (.inr (.inr (.inl a)) :: S) σ Q = oE d 113 49 [l0, l1, l2] (.inr (.inr (.inl (oRf a 0))) :: S) σ Q := pGfR f_113_46 ow_113 fl_10_12 rfl (by decide) hk
theorem f_113_49 : oFet 113 49 = some (.getfield 313, 3) := by decide +kernel
theorem s_113_49 {d : Nat} {l0 l1 l2 : oV} {a : Nat} {S : List oV} {σ : oSg} {Q : Option oV → (Nat → oC) → Prop} (hk : oKd a = some 1) : oE d 113 49 [l0, l1, l2] (.inr (.inr (.inl a)) :: S) σ Q = oE d 113 52 [l0, l1, l2] (.inr (.inr (.inl (oRf a 5))) :: S) σ Q := pGfR f_113_49 ow_113 fl_10_313 rfl (by decide) hk
theorem f_113_52 : oFet 113 52 = some (.iload_n 2, 1) := by decide +kernel
theorem s_113_52 {d : Nat} {l0 l1 : oV} {x : Int} {S : List oV} {σ : oSg} {Q : Option oV → (Nat → oC) → Prop} : oE d 113 52 [l0, l1, .inl x] S σ Q = oE d 113 53 [l0, l1, .inl x] (.inl x :: S) σ Q := pLdN (k := 2) f_113_52 rfl rfl rfl
theorem f_113_53 : oFet 113 53 = some (.invokevirtual 317, 3) := by decide +kernel
theorem c_113_53 {d : Nat} {l0 l1 l2 : oV} {x0 : oV} {a : Nat} {v : Option oV} {τ : oSg} {S : List oV} {σ : oSg} {Q : Option oV → (Nat → oC) → Prop} (hm : oMi d 80 [.inr (.inr (.inl a)), x0] σ v τ) (hk : oKd a = some 7) (hs : oSmall S = true) : oE d 113 53 [l0, l1, l2] (x0 :: .inr (.inr (.inl a)) :: S) σ Q = oE d 113 56 [l0, l1, l2] (v.toList ++ S) τ Q := pCallV f_113_53 ow_113 lk_10_317 mt_80 rfl rfl rfl hk hs hm
theorem f_113_56 : oFet 113 56 = some (.aload_n 0, 1) := by decide +kernel
theorem s_113_56 {d : Nat} {l1 l2 : oV} {a : Nat} {S : List oV} {σ : oSg} {Q : Option oV → (Nat → oC) → Prop} : oE d 113 56 [.inr (.inr (.inl a)), l1, l2] S σ Q = oE d 113 57 [.inr (.inr (.inl a)), l1, l2] (.inr (.inr (.inl a)) :: S) σ Q := pLdN (k := 0) f_113_56 rfl rfl rfl
theorem f_113_57 : oFet 113 57 = some (.getfield 12, 3) := by decide +kernel
theorem s_113_57 {d : Nat} {l0 l1 l2 : oV} {a : Nat} {S : List oV} {σ : oSg} {Q : Option oV → (Nat → oC) → Prop} (hk : oKd a = some 10) : oE d 113 57 [l0, l1, l2] (.inr (.inr (.inl a)) :: S) σ Q = oE d 113 60 [l0, l1, l2] (.inr (.inr (.inl (oRf a 0))) :: S) σ Q := pGfR f_113_57 ow_113 fl_10_12 rfl (by decide) hk
theorem f_113_60 : oFet 113 60 = some (.getfield 313, 3) := by decide +kernel
theorem s_113_60 {d : Nat} {l0 l1 l2 : oV} {a : Nat} {S : List oV} {σ : oSg} {Q : Option oV → (Nat → oC) → Prop} (hk : oKd a = some 1) : oE d 113 60 [l0, l1, l2] (.inr (.inr (.inl a)) :: S) σ Q = oE d 113 63 [l0, l1, l2] (.inr (.inr (.inl (oRf a 5))) :: S) σ Q := pGfR f_113_60 ow_113 fl_10_313 rfl (by decide) hk
theorem f_113_63 : oFet 113 63 = some (.iload_n 2, 1) := by decide +kernel
theorem s_113_63 {d : Nat} {l0 l1 : oV} {x : Int} {S : List oV} {σ : oSg} {Q : Option oV → (Nat → oC) → Prop} : oE d 113 63 [l0, l1, .inl x] S σ Q = oE d 113 64 [l0, l1, .inl x] (.inl x :: S) σ Q := pLdN (k := 2) f_113_63 rfl rfl rfl
theorem f_113_64 : oFet 113 64 = some (.invokevirtual 320, 3) := by decide +kernel
theorem c_113_64 {d : Nat} {l0 l1 l2 : oV} {x0 : oV} {a : Nat} {v : Option oV} {τ : oSg} {S : List oV} {σ : oSg} {Q : Option oV → (Nat → oC) → Prop} (hm : oMi d 81 [.inr (.inr (.inl a)), x0] σ v τ) (hk : oKd a = some 7) (hs : oSmall S = true) : oE d 113 64 [l0, l1, l2] (x0 :: .inr (.inr (.inl a)) :: S) σ Q = oE d 113 67 [l0, l1, l2] (v.toList ++ S) τ Q := pCallV f_113_64 ow_113 lk_10_320 mt_81 rfl rfl rfl hk hs hm
theorem f_113_67 : oFet 113 67 = some (.invokevirtual 323, 3) := by decide +kernel
theorem c_113_67 {d : Nat} {l0 l1 l2 : oV} {x0 x1 : oV} {a : Nat} {v : Option oV} {τ : oSg} {S : List oV} {σ : oSg} {Q : Option oV → (Nat → oC) → Prop} (hm : oMi d 114 [.inr (.inr (.inl a)), x0, x1] σ v τ) (hk : oKd a = some 4) (hs : oSmall S = true) : oE d 113 67 [l0, l1, l2] (x1 :: x0 :: .inr (.inr (.inl a)) :: S) σ Q = oE d 113 70 [l0, l1, l2] (v.toList ++ S) τ Q := pCallV f_113_67 ow_113 lk_10_323 mt_114 rfl rfl rfl hk hs hm
theorem f_113_70 : oFet 113 70 = some (.iinc 2 1, 3) := by decide +kernel
theorem s_113_70 {d : Nat} {l0 l1 : oV} {x : Int} {S : List oV} {σ : oSg} {Q : Option oV → (Nat → oC) → Prop} (c1 : oCat l1 = 1)  : oE d 113 70 [l0, l1, .inl x] S σ Q = oE d 113 73 [l0, l1, .inl (oAdd x (1))] S σ Q := pInc f_113_70 rfl (show (2 : Nat) < 3 by decide) (oC1n c1) (oC1n (v := .inl x) rfl) rfl
theorem f_113_73 : oFet 113 73 = some (.goto (-46), 3) := by decide +kernel
theorem s_113_73 {d : Nat} {l0 l1 l2 : oV} {S : List oV} {σ : oSg} {Q : Option oV → (Nat → oC) → Prop} : oE d 113 73 [l0, l1, l2] S σ Q = oE d 113 27 [l0, l1, l2] S σ Q := pGoto f_113_73 (by decide)
theorem f_113_76 : oFet 113 76 = some (.aload_n 0, 1) := by decide +kernel
theorem s_113_76 {d : Nat} {l1 l2 : oV} {a : Nat} {S : List oV} {σ : oSg} {Q : Option oV → (Nat → oC) → Prop} : oE d 113 76 [.inr (.inr (.inl a)), l1, l2] S σ Q = oE d 113 77 [.inr (.inr (.inl a)), l1, l2] (.inr (.inr (.inl a)) :: S) σ Q := pLdN (k := 0) f_113_76 rfl rfl rfl
theorem f_113_77 : oFet 113 77 = some (.getfield 49, 3) := by decide +kernel
theorem s_113_77 {d : Nat} {l0 l1 l2 : oV} {a : Nat} {S : List oV} {σ : oSg} {Q : Option oV → (Nat → oC) → Prop} (hk : oKd a = some 10) : oE d 113 77 [l0, l1, l2] (.inr (.inr (.inl a)) :: S) σ Q = oE d 113 80 [l0, l1, l2] (.inr (.inr (.inl (oRf a 7))) :: S) σ Q := pGfR f_113_77 ow_113 fl_10_49 rfl (by decide) hk
theorem f_113_80 : oFet 113 80 = some (.aload_n 0, 1) := by decide +kernel
theorem s_113_80 {d : Nat} {l1 l2 : oV} {a : Nat} {S : List oV} {σ : oSg} {Q : Option oV → (Nat → oC) → Prop} : oE d 113 80 [.inr (.inr (.inl a)), l1, l2] S σ Q = oE d 113 81 [.inr (.inr (.inl a)), l1, l2] (.inr (.inr (.inl a)) :: S) σ Q := pLdN (k := 0) f_113_80 rfl rfl rfl
theorem f_113_81 : oFet 113 81 = some (.getfield 38, 3) := by decide +kernel
theorem s_113_81 {d : Nat} {l0 l1 l2 : oV} {a : Nat} {S : List oV} {σ : oSg} {Q : Option oV → (Nat → oC) → Prop} (hk : oKd a = some 10) : oE d 113 81 [l0, l1, l2] (.inr (.inr (.inl a)) :: S) σ Q = oE d 113 84 [l0, l1, l2] (.inr (.inr (.inl (oRf a 5))) :: S) σ Q := pGfR f_113_81 ow_113 fl_10_38 rfl (by decide) hk
theorem f_113_84 : oFet 113 84 = some (.iload_n 1, 1) := by decide +kernel
theorem s_113_84 {d : Nat} {l0 l2 : oV} {x : Int} {S : List oV} {σ : oSg} {Q : Option oV → (Nat → oC) → Prop} : oE d 113 84 [l0, .inl x, l2] S σ Q = oE d 113 85 [l0, .inl x, l2] (.inl x :: S) σ Q := pLdN (k := 1) f_113_84 rfl rfl rfl
theorem f_113_85 : oFet 113 85 = some (.iconst 1, 1) := by decide +kernel
theorem s_113_85 {d : Nat} {l0 l1 l2 : oV} {S : List oV} {σ : oSg} {Q : Option oV → (Nat → oC) → Prop} : oE d 113 85 [l0, l1, l2] S σ Q = oE d 113 86 [l0, l1, l2] (.inl (1) :: S) σ Q := pKst f_113_85 (by decide)
theorem f_113_86 : oFet 113 86 = some (.if_icmp .ne 7, 3) := by decide +kernel
theorem s_113_86 {d : Nat} {l0 l1 l2 : oV} {x y : Int} {S : List oV} {σ : oSg} {Q : Option oV → (Nat → oC) → Prop} : oE d 113 86 [l0, l1, l2] (.inl y :: .inl x :: S) σ Q = if ¬ x = y then oE d 113 93 [l0, l1, l2] S σ Q else oE d 113 89 [l0, l1, l2] S σ Q := oCmpNe f_113_86 (by decide)
theorem f_113_89 : oFet 113 89 = some (.iconst 1, 1) := by decide +kernel
theorem s_113_89 {d : Nat} {l0 l1 l2 : oV} {S : List oV} {σ : oSg} {Q : Option oV → (Nat → oC) → Prop} : oE d 113 89 [l0, l1, l2] S σ Q = oE d 113 90 [l0, l1, l2] (.inl (1) :: S) σ Q := pKst f_113_89 (by decide)
theorem f_113_90 : oFet 113 90 = some (.goto 4, 3) := by decide +kernel
theorem s_113_90 {d : Nat} {l0 l1 l2 : oV} {S : List oV} {σ : oSg} {Q : Option oV → (Nat → oC) → Prop} : oE d 113 90 [l0, l1, l2] S σ Q = oE d 113 94 [l0, l1, l2] S σ Q := pGoto f_113_90 (by decide)
theorem f_113_93 : oFet 113 93 = some (.iconst 0, 1) := by decide +kernel
theorem s_113_93 {d : Nat} {l0 l1 l2 : oV} {S : List oV} {σ : oSg} {Q : Option oV → (Nat → oC) → Prop} : oE d 113 93 [l0, l1, l2] S σ Q = oE d 113 94 [l0, l1, l2] (.inl (0) :: S) σ Q := pKst f_113_93 (by decide)
theorem f_113_94 : oFet 113 94 = some (.invokevirtual 124, 3) := by decide +kernel
theorem c_113_94 {d : Nat} {l0 l1 l2 : oV} {x0 x1 : oV} {a : Nat} {v : Option oV} {τ : oSg} {S : List oV} {σ : oSg} {Q : Option oV → (Nat → oC) → Prop} (hm : oMi d 33 [.inr (.inr (.inl a)), x0, x1] σ v τ) (hk : oKd a = some 3) (hs : oSmall S = true) : oE d 113 94 [l0, l1, l2] (x1 :: x0 :: .inr (.inr (.inl a)) :: S) σ Q = oE d 113 97 [l0, l1, l2] (v.toList ++ S) τ Q := pCallV f_113_94 ow_113 lk_10_124 mt_33 rfl rfl rfl hk hs hm
theorem f_113_97 : oFet 113 97 = some (.iload_n 1, 1) := by decide +kernel
theorem s_113_97 {d : Nat} {l0 l2 : oV} {x : Int} {S : List oV} {σ : oSg} {Q : Option oV → (Nat → oC) → Prop} : oE d 113 97 [l0, .inl x, l2] S σ Q = oE d 113 98 [l0, .inl x, l2] (.inl x :: S) σ Q := pLdN (k := 1) f_113_97 rfl rfl rfl
theorem f_113_98 : oFet 113 98 = some (.ifCond .ne 11, 3) := by decide +kernel
theorem s_113_98 {d : Nat} {l0 l1 l2 : oV} {x : Int} {S : List oV} {σ : oSg} {Q : Option oV → (Nat → oC) → Prop} : oE d 113 98 [l0, l1, l2] (.inl x :: S) σ Q = if ¬ x = 0 then oE d 113 109 [l0, l1, l2] S σ Q else oE d 113 101 [l0, l1, l2] S σ Q := oIfNe f_113_98 (by decide)
theorem f_113_101 : oFet 113 101 = some (.aload_n 0, 1) := by decide +kernel
theorem s_113_101 {d : Nat} {l1 l2 : oV} {a : Nat} {S : List oV} {σ : oSg} {Q : Option oV → (Nat → oC) → Prop} : oE d 113 101 [.inr (.inr (.inl a)), l1, l2] S σ Q = oE d 113 102 [.inr (.inr (.inl a)), l1, l2] (.inr (.inr (.inl a)) :: S) σ Q := pLdN (k := 0) f_113_101 rfl rfl rfl
theorem f_113_102 : oFet 113 102 = some (.getfield 49, 3) := by decide +kernel
theorem s_113_102 {d : Nat} {l0 l1 l2 : oV} {a : Nat} {S : List oV} {σ : oSg} {Q : Option oV → (Nat → oC) → Prop} (hk : oKd a = some 10) : oE d 113 102 [l0, l1, l2] (.inr (.inr (.inl a)) :: S) σ Q = oE d 113 105 [l0, l1, l2] (.inr (.inr (.inl (oRf a 7))) :: S) σ Q := pGfR f_113_102 ow_113 fl_10_49 rfl (by decide) hk
theorem f_113_105 : oFet 113 105 = some (.getfield 222, 3) := by decide +kernel
theorem s_113_105 {d : Nat} {l0 l1 l2 : oV} {a : Nat} {S : List oV} {σ : oSg} {Q : Option oV → (Nat → oC) → Prop} (hk : oKd a = some 3) : oE d 113 105 [l0, l1, l2] (.inr (.inr (.inl a)) :: S) σ Q = oE d 113 108 [l0, l1, l2] (.inl (σ.1 a 0) :: S) σ Q := pGfI f_113_105 ow_113 fl_10_222 rfl (by decide) hk
theorem f_113_108 : oFet 113 108 = some (.ireturn, 1) := by decide +kernel
theorem s_113_108 {d : Nat} {l0 l1 l2 : oV} {x : Int} {σ : oSg} {Q : Option oV → (Nat → oC) → Prop} : oE d 113 108 [l0, l1, l2] [.inl x] σ Q = Q (some (.inl x)) (oBld σ) := oIret f_113_108 rt_113
theorem f_113_109 : oFet 113 109 = some (.iload_n 1, 1) := by decide +kernel
theorem s_113_109 {d : Nat} {l0 l2 : oV} {x : Int} {S : List oV} {σ : oSg} {Q : Option oV → (Nat → oC) → Prop} : oE d 113 109 [l0, .inl x, l2] S σ Q = oE d 113 110 [l0, .inl x, l2] (.inl x :: S) σ Q := pLdN (k := 1) f_113_109 rfl rfl rfl
theorem f_113_110 : oFet 113 110 = some (.iconst 1, 1) := by decide +kernel
theorem s_113_110 {d : Nat} {l0 l1 l2 : oV} {S : List oV} {σ : oSg} {Q : Option oV → (Nat → oC) → Prop} : oE d 113 110 [l0, l1, l2] S σ Q = oE d 113 111 [l0, l1, l2] (.inl (1) :: S) σ Q := pKst f_113_110 (by decide)
theorem f_113_111 : oFet 113 111 = some (.if_icmp .ne 11, 3) := by decide +kernel
theorem s_113_111 {d : Nat} {l0 l1 l2 : oV} {x y : Int} {S : List oV} {σ : oSg} {Q : Option oV → (Nat → oC) → Prop} : oE d 113 111 [l0, l1, l2] (.inl y :: .inl x :: S) σ Q = if ¬ x = y then oE d 113 122 [l0, l1, l2] S σ Q else oE d 113 114 [l0, l1, l2] S σ Q := oCmpNe f_113_111 (by decide)
theorem f_113_114 : oFet 113 114 = some (.aload_n 0, 1) := by decide +kernel
theorem s_113_114 {d : Nat} {l1 l2 : oV} {a : Nat} {S : List oV} {σ : oSg} {Q : Option oV → (Nat → oC) → Prop} : oE d 113 114 [.inr (.inr (.inl a)), l1, l2] S σ Q = oE d 113 115 [.inr (.inr (.inl a)), l1, l2] (.inr (.inr (.inl a)) :: S) σ Q := pLdN (k := 0) f_113_114 rfl rfl rfl
theorem f_113_115 : oFet 113 115 = some (.getfield 49, 3) := by decide +kernel
theorem s_113_115 {d : Nat} {l0 l1 l2 : oV} {a : Nat} {S : List oV} {σ : oSg} {Q : Option oV → (Nat → oC) → Prop} (hk : oKd a = some 10) : oE d 113 115 [l0, l1, l2] (.inr (.inr (.inl a)) :: S) σ Q = oE d 113 118 [l0, l1, l2] (.inr (.inr (.inl (oRf a 7))) :: S) σ Q := pGfR f_113_115 ow_113 fl_10_49 rfl (by decide) hk
theorem f_113_118 : oFet 113 118 = some (.getfield 132, 3) := by decide +kernel
theorem s_113_118 {d : Nat} {l0 l1 l2 : oV} {a : Nat} {S : List oV} {σ : oSg} {Q : Option oV → (Nat → oC) → Prop} (hk : oKd a = some 3) : oE d 113 118 [l0, l1, l2] (.inr (.inr (.inl a)) :: S) σ Q = oE d 113 121 [l0, l1, l2] (.inl (σ.1 a 1) :: S) σ Q := pGfI f_113_118 ow_113 fl_10_132 rfl (by decide) hk
theorem f_113_121 : oFet 113 121 = some (.ireturn, 1) := by decide +kernel
theorem s_113_121 {d : Nat} {l0 l1 l2 : oV} {x : Int} {σ : oSg} {Q : Option oV → (Nat → oC) → Prop} : oE d 113 121 [l0, l1, l2] [.inl x] σ Q = Q (some (.inl x)) (oBld σ) := oIret f_113_121 rt_113
theorem f_113_122 : oFet 113 122 = some (.aload_n 0, 1) := by decide +kernel
theorem s_113_122 {d : Nat} {l1 l2 : oV} {a : Nat} {S : List oV} {σ : oSg} {Q : Option oV → (Nat → oC) → Prop} : oE d 113 122 [.inr (.inr (.inl a)), l1, l2] S σ Q = oE d 113 123 [.inr (.inr (.inl a)), l1, l2] (.inr (.inr (.inl a)) :: S) σ Q := pLdN (k := 0) f_113_122 rfl rfl rfl
theorem f_113_123 : oFet 113 123 = some (.getfield 45, 3) := by decide +kernel
theorem s_113_123 {d : Nat} {l0 l1 l2 : oV} {a : Nat} {S : List oV} {σ : oSg} {Q : Option oV → (Nat → oC) → Prop} (hk : oKd a = some 10) : oE d 113 123 [l0, l1, l2] (.inr (.inr (.inl a)) :: S) σ Q = oE d 113 126 [l0, l1, l2] (.inr (.inr (.inl (oRf a 6))) :: S) σ Q := pGfR f_113_123 ow_113 fl_10_45 rfl (by decide) hk
theorem f_113_126 : oFet 113 126 = some (.aload_n 0, 1) := by decide +kernel
theorem s_113_126 {d : Nat} {l1 l2 : oV} {a : Nat} {S : List oV} {σ : oSg} {Q : Option oV → (Nat → oC) → Prop} : oE d 113 126 [.inr (.inr (.inl a)), l1, l2] S σ Q = oE d 113 127 [.inr (.inr (.inl a)), l1, l2] (.inr (.inr (.inl a)) :: S) σ Q := pLdN (k := 0) f_113_126 rfl rfl rfl
theorem f_113_127 : oFet 113 127 = some (.getfield 12, 3) := by decide +kernel
theorem s_113_127 {d : Nat} {l0 l1 l2 : oV} {a : Nat} {S : List oV} {σ : oSg} {Q : Option oV → (Nat → oC) → Prop} (hk : oKd a = some 10) : oE d 113 127 [l0, l1, l2] (.inr (.inr (.inl a)) :: S) σ Q = oE d 113 130 [l0, l1, l2] (.inr (.inr (.inl (oRf a 0))) :: S) σ Q := pGfR f_113_127 ow_113 fl_10_12 rfl (by decide) hk
theorem f_113_130 : oFet 113 130 = some (.getfield 73, 3) := by decide +kernel
theorem s_113_130 {d : Nat} {l0 l1 l2 : oV} {a : Nat} {S : List oV} {σ : oSg} {Q : Option oV → (Nat → oC) → Prop} (hk : oKd a = some 1) : oE d 113 130 [l0, l1, l2] (.inr (.inr (.inl a)) :: S) σ Q = oE d 113 133 [l0, l1, l2] (.inr (.inr (.inl (oRf a 0))) :: S) σ Q := pGfR f_113_130 ow_113 fl_10_73 rfl (by decide) hk
theorem f_113_133 : oFet 113 133 = some (.iconst 0, 1) := by decide +kernel
theorem s_113_133 {d : Nat} {l0 l1 l2 : oV} {S : List oV} {σ : oSg} {Q : Option oV → (Nat → oC) → Prop} : oE d 113 133 [l0, l1, l2] S σ Q = oE d 113 134 [l0, l1, l2] (.inl (0) :: S) σ Q := pKst f_113_133 (by decide)
theorem f_113_134 : oFet 113 134 = some (.invokevirtual 124, 3) := by decide +kernel
theorem c_113_134 {d : Nat} {l0 l1 l2 : oV} {x0 x1 : oV} {a : Nat} {v : Option oV} {τ : oSg} {S : List oV} {σ : oSg} {Q : Option oV → (Nat → oC) → Prop} (hm : oMi d 33 [.inr (.inr (.inl a)), x0, x1] σ v τ) (hk : oKd a = some 3) (hs : oSmall S = true) : oE d 113 134 [l0, l1, l2] (x1 :: x0 :: .inr (.inr (.inl a)) :: S) σ Q = oE d 113 137 [l0, l1, l2] (v.toList ++ S) τ Q := pCallV f_113_134 ow_113 lk_10_124 mt_33 rfl rfl rfl hk hs hm
theorem f_113_137 : oFet 113 137 = some (.aload_n 0, 1) := by decide +kernel
theorem s_113_137 {d : Nat} {l1 l2 : oV} {a : Nat} {S : List oV} {σ : oSg} {Q : Option oV → (Nat → oC) → Prop} : oE d 113 137 [.inr (.inr (.inl a)), l1, l2] S σ Q = oE d 113 138 [.inr (.inr (.inl a)), l1, l2] (.inr (.inr (.inl a)) :: S) σ Q := pLdN (k := 0) f_113_137 rfl rfl rfl
theorem f_113_138 : oFet 113 138 = some (.getfield 49, 3) := by decide +kernel
theorem s_113_138 {d : Nat} {l0 l1 l2 : oV} {a : Nat} {S : List oV} {σ : oSg} {Q : Option oV → (Nat → oC) → Prop} (hk : oKd a = some 10) : oE d 113 138 [l0, l1, l2] (.inr (.inr (.inl a)) :: S) σ Q = oE d 113 141 [l0, l1, l2] (.inr (.inr (.inl (oRf a 7))) :: S) σ Q := pGfR f_113_138 ow_113 fl_10_49 rfl (by decide) hk
theorem f_113_141 : oFet 113 141 = some (.aload_n 0, 1) := by decide +kernel
theorem s_113_141 {d : Nat} {l1 l2 : oV} {a : Nat} {S : List oV} {σ : oSg} {Q : Option oV → (Nat → oC) → Prop} : oE d 113 141 [.inr (.inr (.inl a)), l1, l2] S σ Q = oE d 113 142 [.inr (.inr (.inl a)), l1, l2] (.inr (.inr (.inl a)) :: S) σ Q := pLdN (k := 0) f_113_141 rfl rfl rfl
theorem f_113_142 : oFet 113 142 = some (.getfield 45, 3) := by decide +kernel
theorem s_113_142 {d : Nat} {l0 l1 l2 : oV} {a : Nat} {S : List oV} {σ : oSg} {Q : Option oV → (Nat → oC) → Prop} (hk : oKd a = some 10) : oE d 113 142 [l0, l1, l2] (.inr (.inr (.inl a)) :: S) σ Q = oE d 113 145 [l0, l1, l2] (.inr (.inr (.inl (oRf a 6))) :: S) σ Q := pGfR f_113_142 ow_113 fl_10_45 rfl (by decide) hk
theorem f_113_145 : oFet 113 145 = some (.aload_n 0, 1) := by decide +kernel
theorem s_113_145 {d : Nat} {l1 l2 : oV} {a : Nat} {S : List oV} {σ : oSg} {Q : Option oV → (Nat → oC) → Prop} : oE d 113 145 [.inr (.inr (.inl a)), l1, l2] S σ Q = oE d 113 146 [.inr (.inr (.inl a)), l1, l2] (.inr (.inr (.inl a)) :: S) σ Q := pLdN (k := 0) f_113_145 rfl rfl rfl
theorem f_113_146 : oFet 113 146 = some (.getfield 12, 3) := by decide +kernel
theorem s_113_146 {d : Nat} {l0 l1 l2 : oV} {a : Nat} {S : List oV} {σ : oSg} {Q : Option oV → (Nat → oC) → Prop} (hk : oKd a = some 10) : oE d 113 146 [l0, l1, l2] (.inr (.inr (.inl a)) :: S) σ Q = oE d 113 149 [l0, l1, l2] (.inr (.inr (.inl (oRf a 0))) :: S) σ Q := pGfR f_113_146 ow_113 fl_10_12 rfl (by decide) hk
theorem f_113_149 : oFet 113 149 = some (.getfield 73, 3) := by decide +kernel
theorem s_113_149 {d : Nat} {l0 l1 l2 : oV} {a : Nat} {S : List oV} {σ : oSg} {Q : Option oV → (Nat → oC) → Prop} (hk : oKd a = some 1) : oE d 113 149 [l0, l1, l2] (.inr (.inr (.inl a)) :: S) σ Q = oE d 113 152 [l0, l1, l2] (.inr (.inr (.inl (oRf a 0))) :: S) σ Q := pGfR f_113_149 ow_113 fl_10_73 rfl (by decide) hk
theorem f_113_152 : oFet 113 152 = some (.getfield 76, 3) := by decide +kernel
theorem s_113_152 {d : Nat} {l0 l1 l2 : oV} {a : Nat} {S : List oV} {σ : oSg} {Q : Option oV → (Nat → oC) → Prop} (hk : oKd a = some 4) : oE d 113 152 [l0, l1, l2] (.inr (.inr (.inl a)) :: S) σ Q = oE d 113 155 [l0, l1, l2] (.inl (σ.1 a 0) :: S) σ Q := pGfI f_113_152 ow_113 fl_10_76 rfl (by decide) hk
theorem f_113_155 : oFet 113 155 = some (.invokevirtual 326, 3) := by decide +kernel
theorem c_113_155 {d : Nat} {l0 l1 l2 : oV} {x0 x1 : oV} {a : Nat} {v : Option oV} {τ : oSg} {S : List oV} {σ : oSg} {Q : Option oV → (Nat → oC) → Prop} (hm : oMi d 116 [.inr (.inr (.inl a)), x0, x1] σ v τ) (hk : oKd a = some 3) (hs : oSmall S = true) : oE d 113 155 [l0, l1, l2] (x1 :: x0 :: .inr (.inr (.inl a)) :: S) σ Q = oE d 113 158 [l0, l1, l2] (v.toList ++ S) τ Q := pCallV f_113_155 ow_113 lk_10_326 mt_116 rfl rfl rfl hk hs hm
theorem f_113_158 : oFet 113 158 = some (.ireturn, 1) := by decide +kernel
theorem s_113_158 {d : Nat} {l0 l1 l2 : oV} {x : Int} {σ : oSg} {Q : Option oV → (Nat → oC) → Prop} : oE d 113 158 [l0, l1, l2] [.inl x] σ Q = Q (some (.inl x)) (oBld σ) := oIret f_113_158 rt_113
theorem ow_114 : (oMt 114).2.2.2.2.1 = 4 := by decide +kernel
theorem rt_114 : (oMt 114).2.2.2.1 = none := by decide +kernel
theorem nl_114 : (oMt 114).2.2.1 = 5 := by decide +kernel
theorem f_114_0 : oFet 114 0 = some (.iconst 0, 1) := by decide +kernel
theorem s_114_0 {d : Nat} {l0 l1 l2 l3 l4 : oV} {S : List oV} {σ : oSg} {Q : Option oV → (Nat → oC) → Prop} : oE d 114 0 [l0, l1, l2, l3, l4] S σ Q = oE d 114 1 [l0, l1, l2, l3, l4] (.inl (0) :: S) σ Q := pKst f_114_0 (by decide)
theorem f_114_1 : oFet 114 1 = some (.istore_n 3, 1) := by decide +kernel
theorem s_114_1 {d : Nat} {l0 l1 l2 l3 l4 : oV} {x : Int} {S : List oV} {σ : oSg} {Q : Option oV → (Nat → oC) → Prop} (c3 : oCat l3 = 1) (c2 : oCat l2 = 1)  : oE d 114 1 [l0, l1, l2, l3, l4] (.inl x :: S) σ Q = oE d 114 2 [l0, l1, l2, .inl x, l4] S σ Q := pSt (i := 3) f_114_1 rfl rfl (show (3 : Nat) < 5 by decide) (oC1n c2) (oC1n c3) rfl
theorem f_114_2 : oFet 114 2 = some (.iload_n 3, 1) := by decide +kernel
theorem s_114_2 {d : Nat} {l0 l1 l2 l4 : oV} {x : Int} {S : List oV} {σ : oSg} {Q : Option oV → (Nat → oC) → Prop} : oE d 114 2 [l0, l1, l2, .inl x, l4] S σ Q = oE d 114 3 [l0, l1, l2, .inl x, l4] (.inl x :: S) σ Q := pLdN (k := 3) f_114_2 rfl rfl rfl
theorem f_114_3 : oFet 114 3 = some (.aload_n 0, 1) := by decide +kernel
theorem s_114_3 {d : Nat} {l1 l2 l3 l4 : oV} {a : Nat} {S : List oV} {σ : oSg} {Q : Option oV → (Nat → oC) → Prop} : oE d 114 3 [.inr (.inr (.inl a)), l1, l2, l3, l4] S σ Q = oE d 114 4 [.inr (.inr (.inl a)), l1, l2, l3, l4] (.inr (.inr (.inl a)) :: S) σ Q := pLdN (k := 0) f_114_3 rfl rfl rfl
theorem f_114_4 : oFet 114 4 = some (.getfield 15, 3) := by decide +kernel
theorem s_114_4 {d : Nat} {l0 l1 l2 l3 l4 : oV} {a : Nat} {S : List oV} {σ : oSg} {Q : Option oV → (Nat → oC) → Prop} (hk : oKd a = some 4) : oE d 114 4 [l0, l1, l2, l3, l4] (.inr (.inr (.inl a)) :: S) σ Q = oE d 114 7 [l0, l1, l2, l3, l4] (.inl (σ.1 a 0) :: S) σ Q := pGfI f_114_4 ow_114 fl_4_15 rfl (by decide) hk
theorem f_114_7 : oFet 114 7 = some (.if_icmp .ge 45, 3) := by decide +kernel
theorem s_114_7 {d : Nat} {l0 l1 l2 l3 l4 : oV} {x y : Int} {S : List oV} {σ : oSg} {Q : Option oV → (Nat → oC) → Prop} : oE d 114 7 [l0, l1, l2, l3, l4] (.inl y :: .inl x :: S) σ Q = if y ≤ x then oE d 114 52 [l0, l1, l2, l3, l4] S σ Q else oE d 114 10 [l0, l1, l2, l3, l4] S σ Q := oCmpGe f_114_7 (by decide)
theorem f_114_10 : oFet 114 10 = some (.iload_n 3, 1) := by decide +kernel
theorem s_114_10 {d : Nat} {l0 l1 l2 l4 : oV} {x : Int} {S : List oV} {σ : oSg} {Q : Option oV → (Nat → oC) → Prop} : oE d 114 10 [l0, l1, l2, .inl x, l4] S σ Q = oE d 114 11 [l0, l1, l2, .inl x, l4] (.inl x :: S) σ Q := pLdN (k := 3) f_114_10 rfl rfl rfl
theorem f_114_11 : oFet 114 11 = some (.iconst 1, 1) := by decide +kernel
theorem s_114_11 {d : Nat} {l0 l1 l2 l3 l4 : oV} {S : List oV} {σ : oSg} {Q : Option oV → (Nat → oC) → Prop} : oE d 114 11 [l0, l1, l2, l3, l4] S σ Q = oE d 114 12 [l0, l1, l2, l3, l4] (.inl (1) :: S) σ Q := pKst f_114_11 (by decide)
theorem f_114_12 : oFet 114 12 = some (.iadd, 1) := by decide +kernel
theorem s_114_12 {d : Nat} {l0 l1 l2 l3 l4 : oV} {x y : Int} {S : List oV} {σ : oSg} {Q : Option oV → (Nat → oC) → Prop} : oE d 114 12 [l0, l1, l2, l3, l4] (.inl y :: .inl x :: S) σ Q = oE d 114 13 [l0, l1, l2, l3, l4] (.inl (oAdd x y) :: S) σ Q := oS3 f_114_12 rfl rfl rfl
theorem f_114_13 : oFet 114 13 = some (.istore 4, 2) := by decide +kernel
theorem s_114_13 {d : Nat} {l0 l1 l2 l3 l4 : oV} {x : Int} {S : List oV} {σ : oSg} {Q : Option oV → (Nat → oC) → Prop} (c4 : oCat l4 = 1) (c3 : oCat l3 = 1)  : oE d 114 13 [l0, l1, l2, l3, l4] (.inl x :: S) σ Q = oE d 114 15 [l0, l1, l2, l3, .inl x] S σ Q := pSt (i := 4) f_114_13 rfl rfl (show (4 : Nat) < 5 by decide) (oC1n c3) (oC1n c4) rfl
theorem f_114_15 : oFet 114 15 = some (.iload 4, 2) := by decide +kernel
theorem s_114_15 {d : Nat} {l0 l1 l2 l3 : oV} {x : Int} {S : List oV} {σ : oSg} {Q : Option oV → (Nat → oC) → Prop} : oE d 114 15 [l0, l1, l2, l3, .inl x] S σ Q = oE d 114 17 [l0, l1, l2, l3, .inl x] (.inl x :: S) σ Q := pLd (i := 4) f_114_15 rfl rfl rfl
theorem f_114_17 : oFet 114 17 = some (.aload_n 0, 1) := by decide +kernel
theorem s_114_17 {d : Nat} {l1 l2 l3 l4 : oV} {a : Nat} {S : List oV} {σ : oSg} {Q : Option oV → (Nat → oC) → Prop} : oE d 114 17 [.inr (.inr (.inl a)), l1, l2, l3, l4] S σ Q = oE d 114 18 [.inr (.inr (.inl a)), l1, l2, l3, l4] (.inr (.inr (.inl a)) :: S) σ Q := pLdN (k := 0) f_114_17 rfl rfl rfl
theorem f_114_18 : oFet 114 18 = some (.getfield 15, 3) := by decide +kernel
theorem s_114_18 {d : Nat} {l0 l1 l2 l3 l4 : oV} {a : Nat} {S : List oV} {σ : oSg} {Q : Option oV → (Nat → oC) → Prop} (hk : oKd a = some 4) : oE d 114 18 [l0, l1, l2, l3, l4] (.inr (.inr (.inl a)) :: S) σ Q = oE d 114 21 [l0, l1, l2, l3, l4] (.inl (σ.1 a 0) :: S) σ Q := pGfI f_114_18 ow_114 fl_4_15 rfl (by decide) hk
theorem f_114_21 : oFet 114 21 = some (.if_icmp .ge 25, 3) := by decide +kernel
theorem s_114_21 {d : Nat} {l0 l1 l2 l3 l4 : oV} {x y : Int} {S : List oV} {σ : oSg} {Q : Option oV → (Nat → oC) → Prop} : oE d 114 21 [l0, l1, l2, l3, l4] (.inl y :: .inl x :: S) σ Q = if y ≤ x then oE d 114 46 [l0, l1, l2, l3, l4] S σ Q else oE d 114 24 [l0, l1, l2, l3, l4] S σ Q := oCmpGe f_114_21 (by decide)
theorem f_114_24 : oFet 114 24 = some (.aload_n 0, 1) := by decide +kernel
theorem s_114_24 {d : Nat} {l1 l2 l3 l4 : oV} {a : Nat} {S : List oV} {σ : oSg} {Q : Option oV → (Nat → oC) → Prop} : oE d 114 24 [.inr (.inr (.inl a)), l1, l2, l3, l4] S σ Q = oE d 114 25 [.inr (.inr (.inl a)), l1, l2, l3, l4] (.inr (.inr (.inl a)) :: S) σ Q := pLdN (k := 0) f_114_24 rfl rfl rfl
theorem f_114_25 : oFet 114 25 = some (.iload_n 3, 1) := by decide +kernel
theorem s_114_25 {d : Nat} {l0 l1 l2 l4 : oV} {x : Int} {S : List oV} {σ : oSg} {Q : Option oV → (Nat → oC) → Prop} : oE d 114 25 [l0, l1, l2, .inl x, l4] S σ Q = oE d 114 26 [l0, l1, l2, .inl x, l4] (.inl x :: S) σ Q := pLdN (k := 3) f_114_25 rfl rfl rfl
theorem f_114_26 : oFet 114 26 = some (.iload 4, 2) := by decide +kernel
theorem s_114_26 {d : Nat} {l0 l1 l2 l3 : oV} {x : Int} {S : List oV} {σ : oSg} {Q : Option oV → (Nat → oC) → Prop} : oE d 114 26 [l0, l1, l2, l3, .inl x] S σ Q = oE d 114 28 [l0, l1, l2, l3, .inl x] (.inl x :: S) σ Q := pLd (i := 4) f_114_26 rfl rfl rfl
theorem f_114_28 : oFet 114 28 = some (.aload_n 0, 1) := by decide +kernel
theorem s_114_28 {d : Nat} {l1 l2 l3 l4 : oV} {a : Nat} {S : List oV} {σ : oSg} {Q : Option oV → (Nat → oC) → Prop} : oE d 114 28 [.inr (.inr (.inl a)), l1, l2, l3, l4] S σ Q = oE d 114 29 [.inr (.inr (.inl a)), l1, l2, l3, l4] (.inr (.inr (.inl a)) :: S) σ Q := pLdN (k := 0) f_114_28 rfl rfl rfl
theorem f_114_29 : oFet 114 29 = some (.iload_n 1, 1) := by decide +kernel
theorem s_114_29 {d : Nat} {l0 l2 l3 l4 : oV} {x : Int} {S : List oV} {σ : oSg} {Q : Option oV → (Nat → oC) → Prop} : oE d 114 29 [l0, .inl x, l2, l3, l4] S σ Q = oE d 114 30 [l0, .inl x, l2, l3, l4] (.inl x :: S) σ Q := pLdN (k := 1) f_114_29 rfl rfl rfl
theorem f_114_30 : oFet 114 30 = some (.iload_n 2, 1) := by decide +kernel
theorem s_114_30 {d : Nat} {l0 l1 l3 l4 : oV} {x : Int} {S : List oV} {σ : oSg} {Q : Option oV → (Nat → oC) → Prop} : oE d 114 30 [l0, l1, .inl x, l3, l4] S σ Q = oE d 114 31 [l0, l1, .inl x, l3, l4] (.inl x :: S) σ Q := pLdN (k := 2) f_114_30 rfl rfl rfl
theorem f_114_31 : oFet 114 31 = some (.iload_n 3, 1) := by decide +kernel
theorem s_114_31 {d : Nat} {l0 l1 l2 l4 : oV} {x : Int} {S : List oV} {σ : oSg} {Q : Option oV → (Nat → oC) → Prop} : oE d 114 31 [l0, l1, l2, .inl x, l4] S σ Q = oE d 114 32 [l0, l1, l2, .inl x, l4] (.inl x :: S) σ Q := pLdN (k := 3) f_114_31 rfl rfl rfl
theorem f_114_32 : oFet 114 32 = some (.iload 4, 2) := by decide +kernel
theorem s_114_32 {d : Nat} {l0 l1 l2 l3 : oV} {x : Int} {S : List oV} {σ : oSg} {Q : Option oV → (Nat → oC) → Prop} : oE d 114 32 [l0, l1, l2, l3, .inl x] S σ Q = oE d 114 34 [l0, l1, l2, l3, .inl x] (.inl x :: S) σ Q := pLd (i := 4) f_114_32 rfl rfl rfl
theorem f_114_34 : oFet 114 34 = some (.invokevirtual 56, 3) := by decide +kernel
theorem c_114_34 {d : Nat} {l0 l1 l2 l3 l4 : oV} {x0 x1 x2 x3 : oV} {a : Nat} {v : Option oV} {τ : oSg} {S : List oV} {σ : oSg} {Q : Option oV → (Nat → oC) → Prop} (hm : oMi d 115 [.inr (.inr (.inl a)), x0, x1, x2, x3] σ v τ) (hk : oKd a = some 4) (hs : oSmall S = true) : oE d 114 34 [l0, l1, l2, l3, l4] (x3 :: x2 :: x1 :: x0 :: .inr (.inr (.inl a)) :: S) σ Q = oE d 114 37 [l0, l1, l2, l3, l4] (v.toList ++ S) τ Q := pCallV f_114_34 ow_114 lk_4_56 mt_115 rfl rfl rfl hk hs hm
theorem f_114_37 : oFet 114 37 = some (.invokevirtual 52, 3) := by decide +kernel
theorem c_114_37 {d : Nat} {l0 l1 l2 l3 l4 : oV} {x0 x1 x2 : oV} {a : Nat} {v : Option oV} {τ : oSg} {S : List oV} {σ : oSg} {Q : Option oV → (Nat → oC) → Prop} (hm : oMi d 17 [.inr (.inr (.inl a)), x0, x1, x2] σ v τ) (hk : oKd a = some 4) (hs : oSmall S = true) : oE d 114 37 [l0, l1, l2, l3, l4] (x2 :: x1 :: x0 :: .inr (.inr (.inl a)) :: S) σ Q = oE d 114 40 [l0, l1, l2, l3, l4] (v.toList ++ S) τ Q := pCallV f_114_37 ow_114 lk_4_52 mt_17 rfl rfl rfl hk hs hm
theorem f_114_40 : oFet 114 40 = some (.iinc 4 1, 3) := by decide +kernel
theorem s_114_40 {d : Nat} {l0 l1 l2 l3 : oV} {x : Int} {S : List oV} {σ : oSg} {Q : Option oV → (Nat → oC) → Prop} (c3 : oCat l3 = 1)  : oE d 114 40 [l0, l1, l2, l3, .inl x] S σ Q = oE d 114 43 [l0, l1, l2, l3, .inl (oAdd x (1))] S σ Q := pInc f_114_40 rfl (show (4 : Nat) < 5 by decide) (oC1n c3) (oC1n (v := .inl x) rfl) rfl
theorem f_114_43 : oFet 114 43 = some (.goto (-28), 3) := by decide +kernel
theorem s_114_43 {d : Nat} {l0 l1 l2 l3 l4 : oV} {S : List oV} {σ : oSg} {Q : Option oV → (Nat → oC) → Prop} : oE d 114 43 [l0, l1, l2, l3, l4] S σ Q = oE d 114 15 [l0, l1, l2, l3, l4] S σ Q := pGoto f_114_43 (by decide)
theorem f_114_46 : oFet 114 46 = some (.iinc 3 1, 3) := by decide +kernel
theorem s_114_46 {d : Nat} {l0 l1 l2 l4 : oV} {x : Int} {S : List oV} {σ : oSg} {Q : Option oV → (Nat → oC) → Prop} (c2 : oCat l2 = 1)  : oE d 114 46 [l0, l1, l2, .inl x, l4] S σ Q = oE d 114 49 [l0, l1, l2, .inl (oAdd x (1)), l4] S σ Q := pInc f_114_46 rfl (show (3 : Nat) < 5 by decide) (oC1n c2) (oC1n (v := .inl x) rfl) rfl
theorem f_114_49 : oFet 114 49 = some (.goto (-47), 3) := by decide +kernel
theorem s_114_49 {d : Nat} {l0 l1 l2 l3 l4 : oV} {S : List oV} {σ : oSg} {Q : Option oV → (Nat → oC) → Prop} : oE d 114 49 [l0, l1, l2, l3, l4] S σ Q = oE d 114 2 [l0, l1, l2, l3, l4] S σ Q := pGoto f_114_49 (by decide)
theorem f_114_52 : oFet 114 52 = some (.return_, 1) := by decide +kernel
theorem s_114_52 {d : Nat} {l0 l1 l2 l3 l4 : oV} {σ : oSg} {Q : Option oV → (Nat → oC) → Prop} : oE d 114 52 [l0, l1, l2, l3, l4] [] σ Q = Q none (oBld σ) := oVret f_114_52 rt_114
theorem ow_115 : (oMt 115).2.2.2.2.1 = 4 := by decide +kernel
theorem rt_115 : (oMt 115).2.2.2.1 = some .int := by decide +kernel
theorem nl_115 : (oMt 115).2.2.1 = 7 := by decide +kernel
theorem f_115_0 : oFet 115 0 = some (.aload_n 0, 1) := by decide +kernel
theorem s_115_0 {d : Nat} {l1 l2 l3 l4 l5 l6 : oV} {a : Nat} {S : List oV} {σ : oSg} {Q : Option oV → (Nat → oC) → Prop} : oE d 115 0 [.inr (.inr (.inl a)), l1, l2, l3, l4, l5, l6] S σ Q = oE d 115 1 [.inr (.inr (.inl a)), l1, l2, l3, l4, l5, l6] (.inr (.inr (.inl a)) :: S) σ Q := pLdN (k := 0) f_115_0 rfl rfl rfl
theorem f_115_1 : oFet 115 1 = some (.iload_n 3, 1) := by decide +kernel
theorem s_115_1 {d : Nat} {l0 l1 l2 l4 l5 l6 : oV} {x : Int} {S : List oV} {σ : oSg} {Q : Option oV → (Nat → oC) → Prop} : oE d 115 1 [l0, l1, l2, .inl x, l4, l5, l6] S σ Q = oE d 115 2 [l0, l1, l2, .inl x, l4, l5, l6] (.inl x :: S) σ Q := pLdN (k := 3) f_115_1 rfl rfl rfl
theorem f_115_2 : oFet 115 2 = some (.iload 4, 2) := by decide +kernel
theorem s_115_2 {d : Nat} {l0 l1 l2 l3 l5 l6 : oV} {x : Int} {S : List oV} {σ : oSg} {Q : Option oV → (Nat → oC) → Prop} : oE d 115 2 [l0, l1, l2, l3, .inl x, l5, l6] S σ Q = oE d 115 4 [l0, l1, l2, l3, .inl x, l5, l6] (.inl x :: S) σ Q := pLd (i := 4) f_115_2 rfl rfl rfl
theorem f_115_4 : oFet 115 4 = some (.invokevirtual 23, 3) := by decide +kernel
theorem c_115_4 {d : Nat} {l0 l1 l2 l3 l4 l5 l6 : oV} {x0 x1 : oV} {a : Nat} {v : Option oV} {τ : oSg} {S : List oV} {σ : oSg} {Q : Option oV → (Nat → oC) → Prop} (hm : oMi d 16 [.inr (.inr (.inl a)), x0, x1] σ v τ) (hk : oKd a = some 4) (hs : oSmall S = true) : oE d 115 4 [l0, l1, l2, l3, l4, l5, l6] (x1 :: x0 :: .inr (.inr (.inl a)) :: S) σ Q = oE d 115 7 [l0, l1, l2, l3, l4, l5, l6] (v.toList ++ S) τ Q := pCallV f_115_4 ow_115 lk_4_23 mt_16 rfl rfl rfl hk hs hm
theorem f_115_7 : oFet 115 7 = some (.istore 5, 2) := by decide +kernel
theorem s_115_7 {d : Nat} {l0 l1 l2 l3 l4 l5 l6 : oV} {x : Int} {S : List oV} {σ : oSg} {Q : Option oV → (Nat → oC) → Prop} (c5 : oCat l5 = 1) (c4 : oCat l4 = 1)  : oE d 115 7 [l0, l1, l2, l3, l4, l5, l6] (.inl x :: S) σ Q = oE d 115 9 [l0, l1, l2, l3, l4, .inl x, l6] S σ Q := pSt (i := 5) f_115_7 rfl rfl (show (5 : Nat) < 7 by decide) (oC1n c4) (oC1n c5) rfl
theorem f_115_9 : oFet 115 9 = some (.iload 5, 2) := by decide +kernel
theorem s_115_9 {d : Nat} {l0 l1 l2 l3 l4 l6 : oV} {x : Int} {S : List oV} {σ : oSg} {Q : Option oV → (Nat → oC) → Prop} : oE d 115 9 [l0, l1, l2, l3, l4, .inl x, l6] S σ Q = oE d 115 11 [l0, l1, l2, l3, l4, .inl x, l6] (.inl x :: S) σ Q := pLd (i := 5) f_115_9 rfl rfl rfl
theorem f_115_11 : oFet 115 11 = some (.ifCond .ne 5, 3) := by decide +kernel
theorem s_115_11 {d : Nat} {l0 l1 l2 l3 l4 l5 l6 : oV} {x : Int} {S : List oV} {σ : oSg} {Q : Option oV → (Nat → oC) → Prop} : oE d 115 11 [l0, l1, l2, l3, l4, l5, l6] (.inl x :: S) σ Q = if ¬ x = 0 then oE d 115 16 [l0, l1, l2, l3, l4, l5, l6] S σ Q else oE d 115 14 [l0, l1, l2, l3, l4, l5, l6] S σ Q := oIfNe f_115_11 (by decide)
theorem f_115_14 : oFet 115 14 = some (.iconst 0, 1) := by decide +kernel
theorem s_115_14 {d : Nat} {l0 l1 l2 l3 l4 l5 l6 : oV} {S : List oV} {σ : oSg} {Q : Option oV → (Nat → oC) → Prop} : oE d 115 14 [l0, l1, l2, l3, l4, l5, l6] S σ Q = oE d 115 15 [l0, l1, l2, l3, l4, l5, l6] (.inl (0) :: S) σ Q := pKst f_115_14 (by decide)
theorem f_115_15 : oFet 115 15 = some (.ireturn, 1) := by decide +kernel
theorem s_115_15 {d : Nat} {l0 l1 l2 l3 l4 l5 l6 : oV} {x : Int} {σ : oSg} {Q : Option oV → (Nat → oC) → Prop} : oE d 115 15 [l0, l1, l2, l3, l4, l5, l6] [.inl x] σ Q = Q (some (.inl x)) (oBld σ) := oIret f_115_15 rt_115
theorem f_115_16 : oFet 115 16 = some (.iload_n 3, 1) := by decide +kernel
theorem s_115_16 {d : Nat} {l0 l1 l2 l4 l5 l6 : oV} {x : Int} {S : List oV} {σ : oSg} {Q : Option oV → (Nat → oC) → Prop} : oE d 115 16 [l0, l1, l2, .inl x, l4, l5, l6] S σ Q = oE d 115 17 [l0, l1, l2, .inl x, l4, l5, l6] (.inl x :: S) σ Q := pLdN (k := 3) f_115_16 rfl rfl rfl
theorem f_115_17 : oFet 115 17 = some (.iload_n 2, 1) := by decide +kernel
theorem s_115_17 {d : Nat} {l0 l1 l3 l4 l5 l6 : oV} {x : Int} {S : List oV} {σ : oSg} {Q : Option oV → (Nat → oC) → Prop} : oE d 115 17 [l0, l1, .inl x, l3, l4, l5, l6] S σ Q = oE d 115 18 [l0, l1, .inl x, l3, l4, l5, l6] (.inl x :: S) σ Q := pLdN (k := 2) f_115_17 rfl rfl rfl
theorem f_115_18 : oFet 115 18 = some (.if_icmp .eq 9, 3) := by decide +kernel
theorem s_115_18 {d : Nat} {l0 l1 l2 l3 l4 l5 l6 : oV} {x y : Int} {S : List oV} {σ : oSg} {Q : Option oV → (Nat → oC) → Prop} : oE d 115 18 [l0, l1, l2, l3, l4, l5, l6] (.inl y :: .inl x :: S) σ Q = if x = y then oE d 115 27 [l0, l1, l2, l3, l4, l5, l6] S σ Q else oE d 115 21 [l0, l1, l2, l3, l4, l5, l6] S σ Q := oCmpEq f_115_18 (by decide)
theorem f_115_21 : oFet 115 21 = some (.iload 4, 2) := by decide +kernel
theorem s_115_21 {d : Nat} {l0 l1 l2 l3 l5 l6 : oV} {x : Int} {S : List oV} {σ : oSg} {Q : Option oV → (Nat → oC) → Prop} : oE d 115 21 [l0, l1, l2, l3, .inl x, l5, l6] S σ Q = oE d 115 23 [l0, l1, l2, l3, .inl x, l5, l6] (.inl x :: S) σ Q := pLd (i := 4) f_115_21 rfl rfl rfl
theorem f_115_23 : oFet 115 23 = some (.iload_n 2, 1) := by decide +kernel
theorem s_115_23 {d : Nat} {l0 l1 l3 l4 l5 l6 : oV} {x : Int} {S : List oV} {σ : oSg} {Q : Option oV → (Nat → oC) → Prop} : oE d 115 23 [l0, l1, .inl x, l3, l4, l5, l6] S σ Q = oE d 115 24 [l0, l1, .inl x, l3, l4, l5, l6] (.inl x :: S) σ Q := pLdN (k := 2) f_115_23 rfl rfl rfl
theorem f_115_24 : oFet 115 24 = some (.if_icmp .ne 7, 3) := by decide +kernel
theorem s_115_24 {d : Nat} {l0 l1 l2 l3 l4 l5 l6 : oV} {x y : Int} {S : List oV} {σ : oSg} {Q : Option oV → (Nat → oC) → Prop} : oE d 115 24 [l0, l1, l2, l3, l4, l5, l6] (.inl y :: .inl x :: S) σ Q = if ¬ x = y then oE d 115 31 [l0, l1, l2, l3, l4, l5, l6] S σ Q else oE d 115 27 [l0, l1, l2, l3, l4, l5, l6] S σ Q := oCmpNe f_115_24 (by decide)
theorem f_115_27 : oFet 115 27 = some (.iconst 1, 1) := by decide +kernel
theorem s_115_27 {d : Nat} {l0 l1 l2 l3 l4 l5 l6 : oV} {S : List oV} {σ : oSg} {Q : Option oV → (Nat → oC) → Prop} : oE d 115 27 [l0, l1, l2, l3, l4, l5, l6] S σ Q = oE d 115 28 [l0, l1, l2, l3, l4, l5, l6] (.inl (1) :: S) σ Q := pKst f_115_27 (by decide)
theorem f_115_28 : oFet 115 28 = some (.goto 4, 3) := by decide +kernel
theorem s_115_28 {d : Nat} {l0 l1 l2 l3 l4 l5 l6 : oV} {S : List oV} {σ : oSg} {Q : Option oV → (Nat → oC) → Prop} : oE d 115 28 [l0, l1, l2, l3, l4, l5, l6] S σ Q = oE d 115 32 [l0, l1, l2, l3, l4, l5, l6] S σ Q := pGoto f_115_28 (by decide)
theorem f_115_31 : oFet 115 31 = some (.iconst 0, 1) := by decide +kernel
theorem s_115_31 {d : Nat} {l0 l1 l2 l3 l4 l5 l6 : oV} {S : List oV} {σ : oSg} {Q : Option oV → (Nat → oC) → Prop} : oE d 115 31 [l0, l1, l2, l3, l4, l5, l6] S σ Q = oE d 115 32 [l0, l1, l2, l3, l4, l5, l6] (.inl (0) :: S) σ Q := pKst f_115_31 (by decide)
theorem f_115_32 : oFet 115 32 = some (.istore 6, 2) := by decide +kernel
theorem s_115_32 {d : Nat} {l0 l1 l2 l3 l4 l5 l6 : oV} {x : Int} {S : List oV} {σ : oSg} {Q : Option oV → (Nat → oC) → Prop} (c6 : oCat l6 = 1) (c5 : oCat l5 = 1)  : oE d 115 32 [l0, l1, l2, l3, l4, l5, l6] (.inl x :: S) σ Q = oE d 115 34 [l0, l1, l2, l3, l4, l5, .inl x] S σ Q := pSt (i := 6) f_115_32 rfl rfl (show (6 : Nat) < 7 by decide) (oC1n c5) (oC1n c6) rfl
theorem f_115_34 : oFet 115 34 = some (.iload_n 1, 1) := by decide +kernel
theorem s_115_34 {d : Nat} {l0 l2 l3 l4 l5 l6 : oV} {x : Int} {S : List oV} {σ : oSg} {Q : Option oV → (Nat → oC) → Prop} : oE d 115 34 [l0, .inl x, l2, l3, l4, l5, l6] S σ Q = oE d 115 35 [l0, .inl x, l2, l3, l4, l5, l6] (.inl x :: S) σ Q := pLdN (k := 1) f_115_34 rfl rfl rfl
theorem f_115_35 : oFet 115 35 = some (.tableswitch 76 0 3 #[29, 41, 61, 74], 29) := by decide +kernel
theorem s_115_35_0 {d : Nat} {l0 l1 l2 l3 l4 l5 l6 : oV} {S : List oV} {σ : oSg} {Q : Option oV → (Nat → oC) → Prop} : oE d 115 35 [l0, l1, l2, l3, l4, l5, l6] (.inl (0) :: S) σ Q = oE d 115 64 [l0, l1, l2, l3, l4, l5, l6] S σ Q := oTabIn f_115_35 (by decide) rfl (by decide)
theorem s_115_35_1 {d : Nat} {l0 l1 l2 l3 l4 l5 l6 : oV} {S : List oV} {σ : oSg} {Q : Option oV → (Nat → oC) → Prop} : oE d 115 35 [l0, l1, l2, l3, l4, l5, l6] (.inl (1) :: S) σ Q = oE d 115 76 [l0, l1, l2, l3, l4, l5, l6] S σ Q := oTabIn f_115_35 (by decide) rfl (by decide)
theorem s_115_35_2 {d : Nat} {l0 l1 l2 l3 l4 l5 l6 : oV} {S : List oV} {σ : oSg} {Q : Option oV → (Nat → oC) → Prop} : oE d 115 35 [l0, l1, l2, l3, l4, l5, l6] (.inl (2) :: S) σ Q = oE d 115 96 [l0, l1, l2, l3, l4, l5, l6] S σ Q := oTabIn f_115_35 (by decide) rfl (by decide)
theorem s_115_35_3 {d : Nat} {l0 l1 l2 l3 l4 l5 l6 : oV} {S : List oV} {σ : oSg} {Q : Option oV → (Nat → oC) → Prop} : oE d 115 35 [l0, l1, l2, l3, l4, l5, l6] (.inl (3) :: S) σ Q = oE d 115 109 [l0, l1, l2, l3, l4, l5, l6] S σ Q := oTabIn f_115_35 (by decide) rfl (by decide)
theorem s_115_35_d {d : Nat} {l0 l1 l2 l3 l4 l5 l6 : oV} {x : Int} {S : List oV} {σ : oSg} {Q : Option oV → (Nat → oC) → Prop} (hx : x < 0 ∨ 3 < x) : oE d 115 35 [l0, l1, l2, l3, l4, l5, l6] (.inl x :: S) σ Q = oE d 115 111 [l0, l1, l2, l3, l4, l5, l6] S σ Q := oTabOut f_115_35 hx (by decide)
theorem f_115_64 : oFet 115 64 = some (.iload 6, 2) := by decide +kernel
theorem s_115_64 {d : Nat} {l0 l1 l2 l3 l4 l5 : oV} {x : Int} {S : List oV} {σ : oSg} {Q : Option oV → (Nat → oC) → Prop} : oE d 115 64 [l0, l1, l2, l3, l4, l5, .inl x] S σ Q = oE d 115 66 [l0, l1, l2, l3, l4, l5, .inl x] (.inl x :: S) σ Q := pLd (i := 6) f_115_64 rfl rfl rfl
theorem f_115_66 : oFet 115 66 = some (.ifCond .eq 7, 3) := by decide +kernel
theorem s_115_66 {d : Nat} {l0 l1 l2 l3 l4 l5 l6 : oV} {x : Int} {S : List oV} {σ : oSg} {Q : Option oV → (Nat → oC) → Prop} : oE d 115 66 [l0, l1, l2, l3, l4, l5, l6] (.inl x :: S) σ Q = if x = 0 then oE d 115 73 [l0, l1, l2, l3, l4, l5, l6] S σ Q else oE d 115 69 [l0, l1, l2, l3, l4, l5, l6] S σ Q := oIfEq f_115_66 (by decide)
theorem f_115_69 : oFet 115 69 = some (.iconst 0, 1) := by decide +kernel
theorem s_115_69 {d : Nat} {l0 l1 l2 l3 l4 l5 l6 : oV} {S : List oV} {σ : oSg} {Q : Option oV → (Nat → oC) → Prop} : oE d 115 69 [l0, l1, l2, l3, l4, l5, l6] S σ Q = oE d 115 70 [l0, l1, l2, l3, l4, l5, l6] (.inl (0) :: S) σ Q := pKst f_115_69 (by decide)
theorem f_115_70 : oFet 115 70 = some (.goto 5, 3) := by decide +kernel
theorem s_115_70 {d : Nat} {l0 l1 l2 l3 l4 l5 l6 : oV} {S : List oV} {σ : oSg} {Q : Option oV → (Nat → oC) → Prop} : oE d 115 70 [l0, l1, l2, l3, l4, l5, l6] S σ Q = oE d 115 75 [l0, l1, l2, l3, l4, l5, l6] S σ Q := pGoto f_115_70 (by decide)
theorem f_115_73 : oFet 115 73 = some (.iload 5, 2) := by decide +kernel
theorem s_115_73 {d : Nat} {l0 l1 l2 l3 l4 l6 : oV} {x : Int} {S : List oV} {σ : oSg} {Q : Option oV → (Nat → oC) → Prop} : oE d 115 73 [l0, l1, l2, l3, l4, .inl x, l6] S σ Q = oE d 115 75 [l0, l1, l2, l3, l4, .inl x, l6] (.inl x :: S) σ Q := pLd (i := 5) f_115_73 rfl rfl rfl
theorem f_115_75 : oFet 115 75 = some (.ireturn, 1) := by decide +kernel
theorem s_115_75 {d : Nat} {l0 l1 l2 l3 l4 l5 l6 : oV} {x : Int} {σ : oSg} {Q : Option oV → (Nat → oC) → Prop} : oE d 115 75 [l0, l1, l2, l3, l4, l5, l6] [.inl x] σ Q = Q (some (.inl x)) (oBld σ) := oIret f_115_75 rt_115
theorem f_115_76 : oFet 115 76 = some (.iload 6, 2) := by decide +kernel
theorem s_115_76 {d : Nat} {l0 l1 l2 l3 l4 l5 : oV} {x : Int} {S : List oV} {σ : oSg} {Q : Option oV → (Nat → oC) → Prop} : oE d 115 76 [l0, l1, l2, l3, l4, l5, .inl x] S σ Q = oE d 115 78 [l0, l1, l2, l3, l4, l5, .inl x] (.inl x :: S) σ Q := pLd (i := 6) f_115_76 rfl rfl rfl
theorem f_115_78 : oFet 115 78 = some (.ifCond .eq 15, 3) := by decide +kernel
theorem s_115_78 {d : Nat} {l0 l1 l2 l3 l4 l5 l6 : oV} {x : Int} {S : List oV} {σ : oSg} {Q : Option oV → (Nat → oC) → Prop} : oE d 115 78 [l0, l1, l2, l3, l4, l5, l6] (.inl x :: S) σ Q = if x = 0 then oE d 115 93 [l0, l1, l2, l3, l4, l5, l6] S σ Q else oE d 115 81 [l0, l1, l2, l3, l4, l5, l6] S σ Q := oIfEq f_115_78 (by decide)
theorem f_115_81 : oFet 115 81 = some (.iload 5, 2) := by decide +kernel
theorem s_115_81 {d : Nat} {l0 l1 l2 l3 l4 l6 : oV} {x : Int} {S : List oV} {σ : oSg} {Q : Option oV → (Nat → oC) → Prop} : oE d 115 81 [l0, l1, l2, l3, l4, .inl x, l6] S σ Q = oE d 115 83 [l0, l1, l2, l3, l4, .inl x, l6] (.inl x :: S) σ Q := pLd (i := 5) f_115_81 rfl rfl rfl
theorem f_115_83 : oFet 115 83 = some (.iconst 1, 1) := by decide +kernel
theorem s_115_83 {d : Nat} {l0 l1 l2 l3 l4 l5 l6 : oV} {S : List oV} {σ : oSg} {Q : Option oV → (Nat → oC) → Prop} : oE d 115 83 [l0, l1, l2, l3, l4, l5, l6] S σ Q = oE d 115 84 [l0, l1, l2, l3, l4, l5, l6] (.inl (1) :: S) σ Q := pKst f_115_83 (by decide)
theorem f_115_84 : oFet 115 84 = some (.iadd, 1) := by decide +kernel
theorem s_115_84 {d : Nat} {l0 l1 l2 l3 l4 l5 l6 : oV} {x y : Int} {S : List oV} {σ : oSg} {Q : Option oV → (Nat → oC) → Prop} : oE d 115 84 [l0, l1, l2, l3, l4, l5, l6] (.inl y :: .inl x :: S) σ Q = oE d 115 85 [l0, l1, l2, l3, l4, l5, l6] (.inl (oAdd x y) :: S) σ Q := oS3 f_115_84 rfl rfl rfl
theorem f_115_85 : oFet 115 85 = some (.bipush 20, 2) := by decide +kernel
theorem s_115_85 {d : Nat} {l0 l1 l2 l3 l4 l5 l6 : oV} {S : List oV} {σ : oSg} {Q : Option oV → (Nat → oC) → Prop} : oE d 115 85 [l0, l1, l2, l3, l4, l5, l6] S σ Q = oE d 115 87 [l0, l1, l2, l3, l4, l5, l6] (.inl (20) :: S) σ Q := pBip f_115_85 (by decide)
theorem f_115_87 : oFet 115 87 = some (.invokestatic 60, 3) := by decide +kernel
theorem s_115_87 {d : Nat} {l0 l1 l2 l3 l4 l5 l6 : oV} {x y : Int} {S : List oV} {σ : oSg} {Q : Option oV → (Nat → oC) → Prop} (hs : oSmall S = true) : oE d 115 87 [l0, l1, l2, l3, l4, l5, l6] (.inl y :: .inl x :: S) σ Q = oE d 115 90 [l0, l1, l2, l3, l4, l5, l6] (.inl (if y < x then y else x) :: S) σ Q := pMin f_115_87 ow_115 lk_4_60 hs
theorem f_115_90 : oFet 115 90 = some (.goto 5, 3) := by decide +kernel
theorem s_115_90 {d : Nat} {l0 l1 l2 l3 l4 l5 l6 : oV} {S : List oV} {σ : oSg} {Q : Option oV → (Nat → oC) → Prop} : oE d 115 90 [l0, l1, l2, l3, l4, l5, l6] S σ Q = oE d 115 95 [l0, l1, l2, l3, l4, l5, l6] S σ Q := pGoto f_115_90 (by decide)
theorem f_115_93 : oFet 115 93 = some (.iload 5, 2) := by decide +kernel
theorem s_115_93 {d : Nat} {l0 l1 l2 l3 l4 l6 : oV} {x : Int} {S : List oV} {σ : oSg} {Q : Option oV → (Nat → oC) → Prop} : oE d 115 93 [l0, l1, l2, l3, l4, .inl x, l6] S σ Q = oE d 115 95 [l0, l1, l2, l3, l4, .inl x, l6] (.inl x :: S) σ Q := pLd (i := 5) f_115_93 rfl rfl rfl
theorem f_115_95 : oFet 115 95 = some (.ireturn, 1) := by decide +kernel
theorem s_115_95 {d : Nat} {l0 l1 l2 l3 l4 l5 l6 : oV} {x : Int} {σ : oSg} {Q : Option oV → (Nat → oC) → Prop} : oE d 115 95 [l0, l1, l2, l3, l4, l5, l6] [.inl x] σ Q = Q (some (.inl x)) (oBld σ) := oIret f_115_95 rt_115
theorem f_115_96 : oFet 115 96 = some (.iload 5, 2) := by decide +kernel
theorem s_115_96 {d : Nat} {l0 l1 l2 l3 l4 l6 : oV} {x : Int} {S : List oV} {σ : oSg} {Q : Option oV → (Nat → oC) → Prop} : oE d 115 96 [l0, l1, l2, l3, l4, .inl x, l6] S σ Q = oE d 115 98 [l0, l1, l2, l3, l4, .inl x, l6] (.inl x :: S) σ Q := pLd (i := 5) f_115_96 rfl rfl rfl
theorem f_115_98 : oFet 115 98 = some (.iload_n 2, 1) := by decide +kernel
theorem s_115_98 {d : Nat} {l0 l1 l3 l4 l5 l6 : oV} {x : Int} {S : List oV} {σ : oSg} {Q : Option oV → (Nat → oC) → Prop} : oE d 115 98 [l0, l1, .inl x, l3, l4, l5, l6] S σ Q = oE d 115 99 [l0, l1, .inl x, l3, l4, l5, l6] (.inl x :: S) σ Q := pLdN (k := 2) f_115_98 rfl rfl rfl
theorem f_115_99 : oFet 115 99 = some (.if_icmp .ge 7, 3) := by decide +kernel
theorem s_115_99 {d : Nat} {l0 l1 l2 l3 l4 l5 l6 : oV} {x y : Int} {S : List oV} {σ : oSg} {Q : Option oV → (Nat → oC) → Prop} : oE d 115 99 [l0, l1, l2, l3, l4, l5, l6] (.inl y :: .inl x :: S) σ Q = if y ≤ x then oE d 115 106 [l0, l1, l2, l3, l4, l5, l6] S σ Q else oE d 115 102 [l0, l1, l2, l3, l4, l5, l6] S σ Q := oCmpGe f_115_99 (by decide)
theorem f_115_102 : oFet 115 102 = some (.iconst 0, 1) := by decide +kernel
theorem s_115_102 {d : Nat} {l0 l1 l2 l3 l4 l5 l6 : oV} {S : List oV} {σ : oSg} {Q : Option oV → (Nat → oC) → Prop} : oE d 115 102 [l0, l1, l2, l3, l4, l5, l6] S σ Q = oE d 115 103 [l0, l1, l2, l3, l4, l5, l6] (.inl (0) :: S) σ Q := pKst f_115_102 (by decide)
theorem f_115_103 : oFet 115 103 = some (.goto 5, 3) := by decide +kernel
theorem s_115_103 {d : Nat} {l0 l1 l2 l3 l4 l5 l6 : oV} {S : List oV} {σ : oSg} {Q : Option oV → (Nat → oC) → Prop} : oE d 115 103 [l0, l1, l2, l3, l4, l5, l6] S σ Q = oE d 115 108 [l0, l1, l2, l3, l4, l5, l6] S σ Q := pGoto f_115_103 (by decide)
theorem f_115_106 : oFet 115 106 = some (.iload 5, 2) := by decide +kernel
theorem s_115_106 {d : Nat} {l0 l1 l2 l3 l4 l6 : oV} {x : Int} {S : List oV} {σ : oSg} {Q : Option oV → (Nat → oC) → Prop} : oE d 115 106 [l0, l1, l2, l3, l4, .inl x, l6] S σ Q = oE d 115 108 [l0, l1, l2, l3, l4, .inl x, l6] (.inl x :: S) σ Q := pLd (i := 5) f_115_106 rfl rfl rfl
theorem f_115_108 : oFet 115 108 = some (.ireturn, 1) := by decide +kernel
theorem s_115_108 {d : Nat} {l0 l1 l2 l3 l4 l5 l6 : oV} {x : Int} {σ : oSg} {Q : Option oV → (Nat → oC) → Prop} : oE d 115 108 [l0, l1, l2, l3, l4, l5, l6] [.inl x] σ Q = Q (some (.inl x)) (oBld σ) := oIret f_115_108 rt_115
theorem f_115_109 : oFet 115 109 = some (.iconst 1, 1) := by decide +kernel
theorem s_115_109 {d : Nat} {l0 l1 l2 l3 l4 l5 l6 : oV} {S : List oV} {σ : oSg} {Q : Option oV → (Nat → oC) → Prop} : oE d 115 109 [l0, l1, l2, l3, l4, l5, l6] S σ Q = oE d 115 110 [l0, l1, l2, l3, l4, l5, l6] (.inl (1) :: S) σ Q := pKst f_115_109 (by decide)
theorem f_115_110 : oFet 115 110 = some (.ireturn, 1) := by decide +kernel
theorem s_115_110 {d : Nat} {l0 l1 l2 l3 l4 l5 l6 : oV} {x : Int} {σ : oSg} {Q : Option oV → (Nat → oC) → Prop} : oE d 115 110 [l0, l1, l2, l3, l4, l5, l6] [.inl x] σ Q = Q (some (.inl x)) (oBld σ) := oIret f_115_110 rt_115
theorem f_115_111 : oFet 115 111 = some (.iload 5, 2) := by decide +kernel
theorem s_115_111 {d : Nat} {l0 l1 l2 l3 l4 l6 : oV} {x : Int} {S : List oV} {σ : oSg} {Q : Option oV → (Nat → oC) → Prop} : oE d 115 111 [l0, l1, l2, l3, l4, .inl x, l6] S σ Q = oE d 115 113 [l0, l1, l2, l3, l4, .inl x, l6] (.inl x :: S) σ Q := pLd (i := 5) f_115_111 rfl rfl rfl
theorem f_115_113 : oFet 115 113 = some (.ireturn, 1) := by decide +kernel
theorem s_115_113 {d : Nat} {l0 l1 l2 l3 l4 l5 l6 : oV} {x : Int} {σ : oSg} {Q : Option oV → (Nat → oC) → Prop} : oE d 115 113 [l0, l1, l2, l3, l4, l5, l6] [.inl x] σ Q = Q (some (.inl x)) (oBld σ) := oIret f_115_113 rt_115
theorem ow_116 : (oMt 116).2.2.2.2.1 = 3 := by decide +kernel
theorem rt_116 : (oMt 116).2.2.2.1 = some .int := by decide +kernel
theorem nl_116 : (oMt 116).2.2.1 = 5 := by decide +kernel
theorem f_116_0 : oFet 116 0 = some (.iconst 0, 1) := by decide +kernel
theorem s_116_0 {d : Nat} {l0 l1 l2 l3 l4 : oV} {S : List oV} {σ : oSg} {Q : Option oV → (Nat → oC) → Prop} : oE d 116 0 [l0, l1, l2, l3, l4] S σ Q = oE d 116 1 [l0, l1, l2, l3, l4] (.inl (0) :: S) σ Q := pKst f_116_0 (by decide)
theorem f_116_1 : oFet 116 1 = some (.istore_n 3, 1) := by decide +kernel
theorem s_116_1 {d : Nat} {l0 l1 l2 l3 l4 : oV} {x : Int} {S : List oV} {σ : oSg} {Q : Option oV → (Nat → oC) → Prop} (c3 : oCat l3 = 1) (c2 : oCat l2 = 1)  : oE d 116 1 [l0, l1, l2, l3, l4] (.inl x :: S) σ Q = oE d 116 2 [l0, l1, l2, .inl x, l4] S σ Q := pSt (i := 3) f_116_1 rfl rfl (show (3 : Nat) < 5 by decide) (oC1n c2) (oC1n c3) rfl
theorem f_116_2 : oFet 116 2 = some (.iconst 0, 1) := by decide +kernel
theorem s_116_2 {d : Nat} {l0 l1 l2 l3 l4 : oV} {S : List oV} {σ : oSg} {Q : Option oV → (Nat → oC) → Prop} : oE d 116 2 [l0, l1, l2, l3, l4] S σ Q = oE d 116 3 [l0, l1, l2, l3, l4] (.inl (0) :: S) σ Q := pKst f_116_2 (by decide)
theorem f_116_3 : oFet 116 3 = some (.istore 4, 2) := by decide +kernel
theorem s_116_3 {d : Nat} {l0 l1 l2 l3 l4 : oV} {x : Int} {S : List oV} {σ : oSg} {Q : Option oV → (Nat → oC) → Prop} (c4 : oCat l4 = 1) (c3 : oCat l3 = 1)  : oE d 116 3 [l0, l1, l2, l3, l4] (.inl x :: S) σ Q = oE d 116 5 [l0, l1, l2, l3, .inl x] S σ Q := pSt (i := 4) f_116_3 rfl rfl (show (4 : Nat) < 5 by decide) (oC1n c3) (oC1n c4) rfl
theorem f_116_5 : oFet 116 5 = some (.iload 4, 2) := by decide +kernel
theorem s_116_5 {d : Nat} {l0 l1 l2 l3 : oV} {x : Int} {S : List oV} {σ : oSg} {Q : Option oV → (Nat → oC) → Prop} : oE d 116 5 [l0, l1, l2, l3, .inl x] S σ Q = oE d 116 7 [l0, l1, l2, l3, .inl x] (.inl x :: S) σ Q := pLd (i := 4) f_116_5 rfl rfl rfl
theorem f_116_7 : oFet 116 7 = some (.iload_n 2, 1) := by decide +kernel
theorem s_116_7 {d : Nat} {l0 l1 l3 l4 : oV} {x : Int} {S : List oV} {σ : oSg} {Q : Option oV → (Nat → oC) → Prop} : oE d 116 7 [l0, l1, .inl x, l3, l4] S σ Q = oE d 116 8 [l0, l1, .inl x, l3, l4] (.inl x :: S) σ Q := pLdN (k := 2) f_116_7 rfl rfl rfl
theorem f_116_8 : oFet 116 8 = some (.if_icmp .ge 27, 3) := by decide +kernel
theorem s_116_8 {d : Nat} {l0 l1 l2 l3 l4 : oV} {x y : Int} {S : List oV} {σ : oSg} {Q : Option oV → (Nat → oC) → Prop} : oE d 116 8 [l0, l1, l2, l3, l4] (.inl y :: .inl x :: S) σ Q = if y ≤ x then oE d 116 35 [l0, l1, l2, l3, l4] S σ Q else oE d 116 11 [l0, l1, l2, l3, l4] S σ Q := oCmpGe f_116_8 (by decide)
theorem f_116_11 : oFet 116 11 = some (.aload_n 0, 1) := by decide +kernel
theorem s_116_11 {d : Nat} {l1 l2 l3 l4 : oV} {a : Nat} {S : List oV} {σ : oSg} {Q : Option oV → (Nat → oC) → Prop} : oE d 116 11 [.inr (.inr (.inl a)), l1, l2, l3, l4] S σ Q = oE d 116 12 [.inr (.inr (.inl a)), l1, l2, l3, l4] (.inr (.inr (.inl a)) :: S) σ Q := pLdN (k := 0) f_116_11 rfl rfl rfl
theorem f_116_12 : oFet 116 12 = some (.iload 4, 2) := by decide +kernel
theorem s_116_12 {d : Nat} {l0 l1 l2 l3 : oV} {x : Int} {S : List oV} {σ : oSg} {Q : Option oV → (Nat → oC) → Prop} : oE d 116 12 [l0, l1, l2, l3, .inl x] S σ Q = oE d 116 14 [l0, l1, l2, l3, .inl x] (.inl x :: S) σ Q := pLd (i := 4) f_116_12 rfl rfl rfl
theorem f_116_14 : oFet 116 14 = some (.invokevirtual 92, 3) := by decide +kernel
theorem c_116_14 {d : Nat} {l0 l1 l2 l3 l4 : oV} {x0 : oV} {a : Nat} {v : Option oV} {τ : oSg} {S : List oV} {σ : oSg} {Q : Option oV → (Nat → oC) → Prop} (hm : oMi d 41 [.inr (.inr (.inl a)), x0] σ v τ) (hk : oKd a = some 3) (hs : oSmall S = true) : oE d 116 14 [l0, l1, l2, l3, l4] (x0 :: .inr (.inr (.inl a)) :: S) σ Q = oE d 116 17 [l0, l1, l2, l3, l4] (v.toList ++ S) τ Q := pCallV f_116_14 ow_116 lk_3_92 mt_41 rfl rfl rfl hk hs hm
theorem f_116_17 : oFet 116 17 = some (.aload_n 1, 1) := by decide +kernel
theorem s_116_17 {d : Nat} {l0 l2 l3 l4 : oV} {a : Nat} {S : List oV} {σ : oSg} {Q : Option oV → (Nat → oC) → Prop} : oE d 116 17 [l0, .inr (.inr (.inl a)), l2, l3, l4] S σ Q = oE d 116 18 [l0, .inr (.inr (.inl a)), l2, l3, l4] (.inr (.inr (.inl a)) :: S) σ Q := pLdN (k := 1) f_116_17 rfl rfl rfl
theorem f_116_18 : oFet 116 18 = some (.iload 4, 2) := by decide +kernel
theorem s_116_18 {d : Nat} {l0 l1 l2 l3 : oV} {x : Int} {S : List oV} {σ : oSg} {Q : Option oV → (Nat → oC) → Prop} : oE d 116 18 [l0, l1, l2, l3, .inl x] S σ Q = oE d 116 20 [l0, l1, l2, l3, .inl x] (.inl x :: S) σ Q := pLd (i := 4) f_116_18 rfl rfl rfl
theorem f_116_20 : oFet 116 20 = some (.invokevirtual 92, 3) := by decide +kernel
theorem c_116_20 {d : Nat} {l0 l1 l2 l3 l4 : oV} {x0 : oV} {a : Nat} {v : Option oV} {τ : oSg} {S : List oV} {σ : oSg} {Q : Option oV → (Nat → oC) → Prop} (hm : oMi d 41 [.inr (.inr (.inl a)), x0] σ v τ) (hk : oKd a = some 3) (hs : oSmall S = true) : oE d 116 20 [l0, l1, l2, l3, l4] (x0 :: .inr (.inr (.inl a)) :: S) σ Q = oE d 116 23 [l0, l1, l2, l3, l4] (v.toList ++ S) τ Q := pCallV f_116_20 ow_116 lk_3_92 mt_41 rfl rfl rfl hk hs hm
theorem f_116_23 : oFet 116 23 = some (.if_icmp .eq 6, 3) := by decide +kernel
theorem s_116_23 {d : Nat} {l0 l1 l2 l3 l4 : oV} {x y : Int} {S : List oV} {σ : oSg} {Q : Option oV → (Nat → oC) → Prop} : oE d 116 23 [l0, l1, l2, l3, l4] (.inl y :: .inl x :: S) σ Q = if x = y then oE d 116 29 [l0, l1, l2, l3, l4] S σ Q else oE d 116 26 [l0, l1, l2, l3, l4] S σ Q := oCmpEq f_116_23 (by decide)
theorem f_116_26 : oFet 116 26 = some (.iinc 3 1, 3) := by decide +kernel
theorem s_116_26 {d : Nat} {l0 l1 l2 l4 : oV} {x : Int} {S : List oV} {σ : oSg} {Q : Option oV → (Nat → oC) → Prop} (c2 : oCat l2 = 1)  : oE d 116 26 [l0, l1, l2, .inl x, l4] S σ Q = oE d 116 29 [l0, l1, l2, .inl (oAdd x (1)), l4] S σ Q := pInc f_116_26 rfl (show (3 : Nat) < 5 by decide) (oC1n c2) (oC1n (v := .inl x) rfl) rfl
theorem f_116_29 : oFet 116 29 = some (.iinc 4 1, 3) := by decide +kernel
theorem s_116_29 {d : Nat} {l0 l1 l2 l3 : oV} {x : Int} {S : List oV} {σ : oSg} {Q : Option oV → (Nat → oC) → Prop} (c3 : oCat l3 = 1)  : oE d 116 29 [l0, l1, l2, l3, .inl x] S σ Q = oE d 116 32 [l0, l1, l2, l3, .inl (oAdd x (1))] S σ Q := pInc f_116_29 rfl (show (4 : Nat) < 5 by decide) (oC1n c3) (oC1n (v := .inl x) rfl) rfl
theorem f_116_32 : oFet 116 32 = some (.goto (-27), 3) := by decide +kernel
theorem s_116_32 {d : Nat} {l0 l1 l2 l3 l4 : oV} {S : List oV} {σ : oSg} {Q : Option oV → (Nat → oC) → Prop} : oE d 116 32 [l0, l1, l2, l3, l4] S σ Q = oE d 116 5 [l0, l1, l2, l3, l4] S σ Q := pGoto f_116_32 (by decide)
theorem f_116_35 : oFet 116 35 = some (.iload_n 3, 1) := by decide +kernel
theorem s_116_35 {d : Nat} {l0 l1 l2 l4 : oV} {x : Int} {S : List oV} {σ : oSg} {Q : Option oV → (Nat → oC) → Prop} : oE d 116 35 [l0, l1, l2, .inl x, l4] S σ Q = oE d 116 36 [l0, l1, l2, .inl x, l4] (.inl x :: S) σ Q := pLdN (k := 3) f_116_35 rfl rfl rfl
theorem f_116_36 : oFet 116 36 = some (.ireturn, 1) := by decide +kernel
theorem s_116_36 {d : Nat} {l0 l1 l2 l3 l4 : oV} {x : Int} {σ : oSg} {Q : Option oV → (Nat → oC) → Prop} : oE d 116 36 [l0, l1, l2, l3, l4] [.inl x] σ Q = Q (some (.inl x)) (oBld σ) := oIret f_116_36 rt_116
theorem ow_117 : (oMt 117).2.2.2.2.1 = 10 := by decide +kernel
theorem rt_117 : (oMt 117).2.2.2.1 = some .int := by decide +kernel
theorem nl_117 : (oMt 117).2.2.1 = 3 := by decide +kernel
theorem f_117_0 : oFet 117 0 = some (.aload_n 0, 1) := by decide +kernel
theorem s_117_0 {d : Nat} {l1 l2 : oV} {a : Nat} {S : List oV} {σ : oSg} {Q : Option oV → (Nat → oC) → Prop} : oE d 117 0 [.inr (.inr (.inl a)), l1, l2] S σ Q = oE d 117 1 [.inr (.inr (.inl a)), l1, l2] (.inr (.inr (.inl a)) :: S) σ Q := pLdN (k := 0) f_117_0 rfl rfl rfl
theorem f_117_1 : oFet 117 1 = some (.aload_n 0, 1) := by decide +kernel
theorem s_117_1 {d : Nat} {l1 l2 : oV} {a : Nat} {S : List oV} {σ : oSg} {Q : Option oV → (Nat → oC) → Prop} : oE d 117 1 [.inr (.inr (.inl a)), l1, l2] S σ Q = oE d 117 2 [.inr (.inr (.inl a)), l1, l2] (.inr (.inr (.inl a)) :: S) σ Q := pLdN (k := 0) f_117_1 rfl rfl rfl
theorem f_117_2 : oFet 117 2 = some (.getfield 12, 3) := by decide +kernel
theorem s_117_2 {d : Nat} {l0 l1 l2 : oV} {a : Nat} {S : List oV} {σ : oSg} {Q : Option oV → (Nat → oC) → Prop} (hk : oKd a = some 10) : oE d 117 2 [l0, l1, l2] (.inr (.inr (.inl a)) :: S) σ Q = oE d 117 5 [l0, l1, l2] (.inr (.inr (.inl (oRf a 0))) :: S) σ Q := pGfR f_117_2 ow_117 fl_10_12 rfl (by decide) hk
theorem f_117_5 : oFet 117 5 = some (.getfield 330, 3) := by decide +kernel
theorem s_117_5 {d : Nat} {l0 l1 l2 : oV} {a : Nat} {S : List oV} {σ : oSg} {Q : Option oV → (Nat → oC) → Prop} (hk : oKd a = some 1) : oE d 117 5 [l0, l1, l2] (.inr (.inr (.inl a)) :: S) σ Q = oE d 117 8 [l0, l1, l2] (.inr (.inr (.inl (oRf a 6))) :: S) σ Q := pGfR f_117_5 ow_117 fl_10_330 rfl (by decide) hk
theorem f_117_8 : oFet 117 8 = some (.iload_n 1, 1) := by decide +kernel
theorem s_117_8 {d : Nat} {l0 l2 : oV} {x : Int} {S : List oV} {σ : oSg} {Q : Option oV → (Nat → oC) → Prop} : oE d 117 8 [l0, .inl x, l2] S σ Q = oE d 117 9 [l0, .inl x, l2] (.inl x :: S) σ Q := pLdN (k := 1) f_117_8 rfl rfl rfl
theorem f_117_9 : oFet 117 9 = some (.iload_n 2, 1) := by decide +kernel
theorem s_117_9 {d : Nat} {l0 l1 : oV} {x : Int} {S : List oV} {σ : oSg} {Q : Option oV → (Nat → oC) → Prop} : oE d 117 9 [l0, l1, .inl x] S σ Q = oE d 117 10 [l0, l1, .inl x] (.inl x :: S) σ Q := pLdN (k := 2) f_117_9 rfl rfl rfl
theorem f_117_10 : oFet 117 10 = some (.invokevirtual 296, 3) := by decide +kernel
theorem c_117_10 {d : Nat} {l0 l1 l2 : oV} {x0 x1 x2 : oV} {a : Nat} {v : Option oV} {τ : oSg} {S : List oV} {σ : oSg} {Q : Option oV → (Nat → oC) → Prop} (hm : oMi d 105 [.inr (.inr (.inl a)), x0, x1, x2] σ v τ) (hk : oKd a = some 10) (hs : oSmall S = true) : oE d 117 10 [l0, l1, l2] (x2 :: x1 :: x0 :: .inr (.inr (.inl a)) :: S) σ Q = oE d 117 13 [l0, l1, l2] (v.toList ++ S) τ Q := pCallV f_117_10 ow_117 lk_10_296 mt_105 rfl rfl rfl hk hs hm
theorem f_117_13 : oFet 117 13 = some (.ireturn, 1) := by decide +kernel
theorem s_117_13 {d : Nat} {l0 l1 l2 : oV} {x : Int} {σ : oSg} {Q : Option oV → (Nat → oC) → Prop} : oE d 117 13 [l0, l1, l2] [.inl x] σ Q = Q (some (.inl x)) (oBld σ) := oIret f_117_13 rt_117
theorem ow_118 : (oMt 118).2.2.2.2.1 = 10 := by decide +kernel
theorem rt_118 : (oMt 118).2.2.2.1 = some .int := by decide +kernel
theorem nl_118 : (oMt 118).2.2.1 = 2 := by decide +kernel
theorem f_118_0 : oFet 118 0 = some (.iconst 0, 1) := by decide +kernel
theorem s_118_0 {d : Nat} {l0 l1 : oV} {S : List oV} {σ : oSg} {Q : Option oV → (Nat → oC) → Prop} : oE d 118 0 [l0, l1] S σ Q = oE d 118 1 [l0, l1] (.inl (0) :: S) σ Q := pKst f_118_0 (by decide)
theorem f_118_1 : oFet 118 1 = some (.istore_n 1, 1) := by decide +kernel
theorem s_118_1 {d : Nat} {l0 l1 : oV} {x : Int} {S : List oV} {σ : oSg} {Q : Option oV → (Nat → oC) → Prop} (c1 : oCat l1 = 1) (c0 : oCat l0 = 1)  : oE d 118 1 [l0, l1] (.inl x :: S) σ Q = oE d 118 2 [l0, .inl x] S σ Q := pSt (i := 1) f_118_1 rfl rfl (show (1 : Nat) < 2 by decide) (oC1n c0) (oC1n c1) rfl
theorem f_118_2 : oFet 118 2 = some (.iload_n 1, 1) := by decide +kernel
theorem s_118_2 {d : Nat} {l0 : oV} {x : Int} {S : List oV} {σ : oSg} {Q : Option oV → (Nat → oC) → Prop} : oE d 118 2 [l0, .inl x] S σ Q = oE d 118 3 [l0, .inl x] (.inl x :: S) σ Q := pLdN (k := 1) f_118_2 rfl rfl rfl
theorem f_118_3 : oFet 118 3 = some (.aload_n 0, 1) := by decide +kernel
theorem s_118_3 {d : Nat} {l1 : oV} {a : Nat} {S : List oV} {σ : oSg} {Q : Option oV → (Nat → oC) → Prop} : oE d 118 3 [.inr (.inr (.inl a)), l1] S σ Q = oE d 118 4 [.inr (.inr (.inl a)), l1] (.inr (.inr (.inl a)) :: S) σ Q := pLdN (k := 0) f_118_3 rfl rfl rfl
theorem f_118_4 : oFet 118 4 = some (.getfield 12, 3) := by decide +kernel
theorem s_118_4 {d : Nat} {l0 l1 : oV} {a : Nat} {S : List oV} {σ : oSg} {Q : Option oV → (Nat → oC) → Prop} (hk : oKd a = some 10) : oE d 118 4 [l0, l1] (.inr (.inr (.inl a)) :: S) σ Q = oE d 118 7 [l0, l1] (.inr (.inr (.inl (oRf a 0))) :: S) σ Q := pGfR f_118_4 ow_118 fl_10_12 rfl (by decide) hk
theorem f_118_7 : oFet 118 7 = some (.getfield 330, 3) := by decide +kernel
theorem s_118_7 {d : Nat} {l0 l1 : oV} {a : Nat} {S : List oV} {σ : oSg} {Q : Option oV → (Nat → oC) → Prop} (hk : oKd a = some 1) : oE d 118 7 [l0, l1] (.inr (.inr (.inl a)) :: S) σ Q = oE d 118 10 [l0, l1] (.inr (.inr (.inl (oRf a 6))) :: S) σ Q := pGfR f_118_7 ow_118 fl_10_330 rfl (by decide) hk
theorem f_118_10 : oFet 118 10 = some (.getfield 316, 3) := by decide +kernel
theorem s_118_10 {d : Nat} {l0 l1 : oV} {a : Nat} {S : List oV} {σ : oSg} {Q : Option oV → (Nat → oC) → Prop} (hk : oKd a = some 7) : oE d 118 10 [l0, l1] (.inr (.inr (.inl a)) :: S) σ Q = oE d 118 13 [l0, l1] (.inl (σ.1 a 0) :: S) σ Q := pGfI f_118_10 ow_118 fl_10_316 rfl (by decide) hk
theorem f_118_13 : oFet 118 13 = some (.if_icmp .ge 43, 3) := by decide +kernel
theorem s_118_13 {d : Nat} {l0 l1 : oV} {x y : Int} {S : List oV} {σ : oSg} {Q : Option oV → (Nat → oC) → Prop} : oE d 118 13 [l0, l1] (.inl y :: .inl x :: S) σ Q = if y ≤ x then oE d 118 56 [l0, l1] S σ Q else oE d 118 16 [l0, l1] S σ Q := oCmpGe f_118_13 (by decide)
theorem f_118_16 : oFet 118 16 = some (.aload_n 0, 1) := by decide +kernel
theorem s_118_16 {d : Nat} {l1 : oV} {a : Nat} {S : List oV} {σ : oSg} {Q : Option oV → (Nat → oC) → Prop} : oE d 118 16 [.inr (.inr (.inl a)), l1] S σ Q = oE d 118 17 [.inr (.inr (.inl a)), l1] (.inr (.inr (.inl a)) :: S) σ Q := pLdN (k := 0) f_118_16 rfl rfl rfl
theorem f_118_17 : oFet 118 17 = some (.getfield 12, 3) := by decide +kernel
theorem s_118_17 {d : Nat} {l0 l1 : oV} {a : Nat} {S : List oV} {σ : oSg} {Q : Option oV → (Nat → oC) → Prop} (hk : oKd a = some 10) : oE d 118 17 [l0, l1] (.inr (.inr (.inl a)) :: S) σ Q = oE d 118 20 [l0, l1] (.inr (.inr (.inl (oRf a 0))) :: S) σ Q := pGfR f_118_17 ow_118 fl_10_12 rfl (by decide) hk
theorem f_118_20 : oFet 118 20 = some (.aload_n 0, 1) := by decide +kernel
theorem s_118_20 {d : Nat} {l1 : oV} {a : Nat} {S : List oV} {σ : oSg} {Q : Option oV → (Nat → oC) → Prop} : oE d 118 20 [.inr (.inr (.inl a)), l1] S σ Q = oE d 118 21 [.inr (.inr (.inl a)), l1] (.inr (.inr (.inl a)) :: S) σ Q := pLdN (k := 0) f_118_20 rfl rfl rfl
theorem f_118_21 : oFet 118 21 = some (.getfield 12, 3) := by decide +kernel
theorem s_118_21 {d : Nat} {l0 l1 : oV} {a : Nat} {S : List oV} {σ : oSg} {Q : Option oV → (Nat → oC) → Prop} (hk : oKd a = some 10) : oE d 118 21 [l0, l1] (.inr (.inr (.inl a)) :: S) σ Q = oE d 118 24 [l0, l1] (.inr (.inr (.inl (oRf a 0))) :: S) σ Q := pGfR f_118_21 ow_118 fl_10_12 rfl (by decide) hk
theorem f_118_24 : oFet 118 24 = some (.getfield 330, 3) := by decide +kernel
theorem s_118_24 {d : Nat} {l0 l1 : oV} {a : Nat} {S : List oV} {σ : oSg} {Q : Option oV → (Nat → oC) → Prop} (hk : oKd a = some 1) : oE d 118 24 [l0, l1] (.inr (.inr (.inl a)) :: S) σ Q = oE d 118 27 [l0, l1] (.inr (.inr (.inl (oRf a 6))) :: S) σ Q := pGfR f_118_24 ow_118 fl_10_330 rfl (by decide) hk
theorem f_118_27 : oFet 118 27 = some (.iload_n 1, 1) := by decide +kernel
theorem s_118_27 {d : Nat} {l0 : oV} {x : Int} {S : List oV} {σ : oSg} {Q : Option oV → (Nat → oC) → Prop} : oE d 118 27 [l0, .inl x] S σ Q = oE d 118 28 [l0, .inl x] (.inl x :: S) σ Q := pLdN (k := 1) f_118_27 rfl rfl rfl
theorem f_118_28 : oFet 118 28 = some (.invokevirtual 317, 3) := by decide +kernel
theorem c_118_28 {d : Nat} {l0 l1 : oV} {x0 : oV} {a : Nat} {v : Option oV} {τ : oSg} {S : List oV} {σ : oSg} {Q : Option oV → (Nat → oC) → Prop} (hm : oMi d 80 [.inr (.inr (.inl a)), x0] σ v τ) (hk : oKd a = some 7) (hs : oSmall S = true) : oE d 118 28 [l0, l1] (x0 :: .inr (.inr (.inl a)) :: S) σ Q = oE d 118 31 [l0, l1] (v.toList ++ S) τ Q := pCallV f_118_28 ow_118 lk_10_317 mt_80 rfl rfl rfl hk hs hm
theorem f_118_31 : oFet 118 31 = some (.invokevirtual 92, 3) := by decide +kernel
theorem c_118_31 {d : Nat} {l0 l1 : oV} {x0 : oV} {a : Nat} {v : Option oV} {τ : oSg} {S : List oV} {σ : oSg} {Q : Option oV → (Nat → oC) → Prop} (hm : oMi d 18 [.inr (.inr (.inl a)), x0] σ v τ) (hk : oKd a = some 1) (hs : oSmall S = true) : oE d 118 31 [l0, l1] (x0 :: .inr (.inr (.inl a)) :: S) σ Q = oE d 118 34 [l0, l1] (v.toList ++ S) τ Q := pCallV f_118_31 ow_118 lk_10_92 mt_18 rfl rfl rfl hk hs hm
theorem f_118_34 : oFet 118 34 = some (.aload_n 0, 1) := by decide +kernel
theorem s_118_34 {d : Nat} {l1 : oV} {a : Nat} {S : List oV} {σ : oSg} {Q : Option oV → (Nat → oC) → Prop} : oE d 118 34 [.inr (.inr (.inl a)), l1] S σ Q = oE d 118 35 [.inr (.inr (.inl a)), l1] (.inr (.inr (.inl a)) :: S) σ Q := pLdN (k := 0) f_118_34 rfl rfl rfl
theorem f_118_35 : oFet 118 35 = some (.getfield 12, 3) := by decide +kernel
theorem s_118_35 {d : Nat} {l0 l1 : oV} {a : Nat} {S : List oV} {σ : oSg} {Q : Option oV → (Nat → oC) → Prop} (hk : oKd a = some 10) : oE d 118 35 [l0, l1] (.inr (.inr (.inl a)) :: S) σ Q = oE d 118 38 [l0, l1] (.inr (.inr (.inl (oRf a 0))) :: S) σ Q := pGfR f_118_35 ow_118 fl_10_12 rfl (by decide) hk
theorem f_118_38 : oFet 118 38 = some (.getfield 330, 3) := by decide +kernel
theorem s_118_38 {d : Nat} {l0 l1 : oV} {a : Nat} {S : List oV} {σ : oSg} {Q : Option oV → (Nat → oC) → Prop} (hk : oKd a = some 1) : oE d 118 38 [l0, l1] (.inr (.inr (.inl a)) :: S) σ Q = oE d 118 41 [l0, l1] (.inr (.inr (.inl (oRf a 6))) :: S) σ Q := pGfR f_118_38 ow_118 fl_10_330 rfl (by decide) hk
theorem f_118_41 : oFet 118 41 = some (.iload_n 1, 1) := by decide +kernel
theorem s_118_41 {d : Nat} {l0 : oV} {x : Int} {S : List oV} {σ : oSg} {Q : Option oV → (Nat → oC) → Prop} : oE d 118 41 [l0, .inl x] S σ Q = oE d 118 42 [l0, .inl x] (.inl x :: S) σ Q := pLdN (k := 1) f_118_41 rfl rfl rfl
theorem f_118_42 : oFet 118 42 = some (.invokevirtual 320, 3) := by decide +kernel
theorem c_118_42 {d : Nat} {l0 l1 : oV} {x0 : oV} {a : Nat} {v : Option oV} {τ : oSg} {S : List oV} {σ : oSg} {Q : Option oV → (Nat → oC) → Prop} (hm : oMi d 81 [.inr (.inr (.inl a)), x0] σ v τ) (hk : oKd a = some 7) (hs : oSmall S = true) : oE d 118 42 [l0, l1] (x0 :: .inr (.inr (.inl a)) :: S) σ Q = oE d 118 45 [l0, l1] (v.toList ++ S) τ Q := pCallV f_118_42 ow_118 lk_10_320 mt_81 rfl rfl rfl hk hs hm
theorem f_118_45 : oFet 118 45 = some (.if_icmp .eq 5, 3) := by decide +kernel
theorem s_118_45 {d : Nat} {l0 l1 : oV} {x y : Int} {S : List oV} {σ : oSg} {Q : Option oV → (Nat → oC) → Prop} : oE d 118 45 [l0, l1] (.inl y :: .inl x :: S) σ Q = if x = y then oE d 118 50 [l0, l1] S σ Q else oE d 118 48 [l0, l1] S σ Q := oCmpEq f_118_45 (by decide)
theorem f_118_48 : oFet 118 48 = some (.iload_n 1, 1) := by decide +kernel
theorem s_118_48 {d : Nat} {l0 : oV} {x : Int} {S : List oV} {σ : oSg} {Q : Option oV → (Nat → oC) → Prop} : oE d 118 48 [l0, .inl x] S σ Q = oE d 118 49 [l0, .inl x] (.inl x :: S) σ Q := pLdN (k := 1) f_118_48 rfl rfl rfl
theorem f_118_49 : oFet 118 49 = some (.ireturn, 1) := by decide +kernel
theorem s_118_49 {d : Nat} {l0 l1 : oV} {x : Int} {σ : oSg} {Q : Option oV → (Nat → oC) → Prop} : oE d 118 49 [l0, l1] [.inl x] σ Q = Q (some (.inl x)) (oBld σ) := oIret f_118_49 rt_118
theorem f_118_50 : oFet 118 50 = some (.iinc 1 1, 3) := by decide +kernel
theorem s_118_50 {d : Nat} {l0 : oV} {x : Int} {S : List oV} {σ : oSg} {Q : Option oV → (Nat → oC) → Prop} (c0 : oCat l0 = 1)  : oE d 118 50 [l0, .inl x] S σ Q = oE d 118 53 [l0, .inl (oAdd x (1))] S σ Q := pInc f_118_50 rfl (show (1 : Nat) < 2 by decide) (oC1n c0) (oC1n (v := .inl x) rfl) rfl
theorem f_118_53 : oFet 118 53 = some (.goto (-51), 3) := by decide +kernel
theorem s_118_53 {d : Nat} {l0 l1 : oV} {S : List oV} {σ : oSg} {Q : Option oV → (Nat → oC) → Prop} : oE d 118 53 [l0, l1] S σ Q = oE d 118 2 [l0, l1] S σ Q := pGoto f_118_53 (by decide)
theorem f_118_56 : oFet 118 56 = some (.bipush (-5), 2) := by decide +kernel
theorem s_118_56 {d : Nat} {l0 l1 : oV} {S : List oV} {σ : oSg} {Q : Option oV → (Nat → oC) → Prop} : oE d 118 56 [l0, l1] S σ Q = oE d 118 58 [l0, l1] (.inl (-5) :: S) σ Q := pBip f_118_56 (by decide)
theorem f_118_58 : oFet 118 58 = some (.ireturn, 1) := by decide +kernel
theorem s_118_58 {d : Nat} {l0 l1 : oV} {x : Int} {σ : oSg} {Q : Option oV → (Nat → oC) → Prop} : oE d 118 58 [l0, l1] [.inl x] σ Q = Q (some (.inl x)) (oBld σ) := oIret f_118_58 rt_118
theorem ow_119 : (oMt 119).2.2.2.2.1 = 10 := by decide +kernel
theorem rt_119 : (oMt 119).2.2.2.1 = some .int := by decide +kernel
theorem nl_119 : (oMt 119).2.2.1 = 4 := by decide +kernel
theorem f_119_0 : oFet 119 0 = some (.aload_n 0, 1) := by decide +kernel
theorem s_119_0 {d : Nat} {l1 l2 l3 : oV} {a : Nat} {S : List oV} {σ : oSg} {Q : Option oV → (Nat → oC) → Prop} : oE d 119 0 [.inr (.inr (.inl a)), l1, l2, l3] S σ Q = oE d 119 1 [.inr (.inr (.inl a)), l1, l2, l3] (.inr (.inr (.inl a)) :: S) σ Q := pLdN (k := 0) f_119_0 rfl rfl rfl
theorem f_119_1 : oFet 119 1 = some (.getfield 31, 3) := by decide +kernel
theorem s_119_1 {d : Nat} {l0 l1 l2 l3 : oV} {a : Nat} {S : List oV} {σ : oSg} {Q : Option oV → (Nat → oC) → Prop} (hk : oKd a = some 10) : oE d 119 1 [l0, l1, l2, l3] (.inr (.inr (.inl a)) :: S) σ Q = oE d 119 4 [l0, l1, l2, l3] (.inr (.inr (.inl (oRf a 4))) :: S) σ Q := pGfR f_119_1 ow_119 fl_10_31 rfl (by decide) hk
theorem f_119_4 : oFet 119 4 = some (.iload_n 1, 1) := by decide +kernel
theorem s_119_4 {d : Nat} {l0 l2 l3 : oV} {x : Int} {S : List oV} {σ : oSg} {Q : Option oV → (Nat → oC) → Prop} : oE d 119 4 [l0, .inl x, l2, l3] S σ Q = oE d 119 5 [l0, .inl x, l2, l3] (.inl x :: S) σ Q := pLdN (k := 1) f_119_4 rfl rfl rfl
theorem f_119_5 : oFet 119 5 = some (.invokevirtual 333, 3) := by decide +kernel
theorem c_119_5 {d : Nat} {l0 l1 l2 l3 : oV} {x0 : oV} {a : Nat} {v : Option oV} {τ : oSg} {S : List oV} {σ : oSg} {Q : Option oV → (Nat → oC) → Prop} (hm : oMi d 120 [.inr (.inr (.inl a)), x0] σ v τ) (hk : oKd a = some 8) (hs : oSmall S = true) : oE d 119 5 [l0, l1, l2, l3] (x0 :: .inr (.inr (.inl a)) :: S) σ Q = oE d 119 8 [l0, l1, l2, l3] (v.toList ++ S) τ Q := pCallV f_119_5 ow_119 lk_10_333 mt_120 rfl rfl rfl hk hs hm
theorem f_119_8 : oFet 119 8 = some (.ifCond .ne 5, 3) := by decide +kernel
theorem s_119_8 {d : Nat} {l0 l1 l2 l3 : oV} {x : Int} {S : List oV} {σ : oSg} {Q : Option oV → (Nat → oC) → Prop} : oE d 119 8 [l0, l1, l2, l3] (.inl x :: S) σ Q = if ¬ x = 0 then oE d 119 13 [l0, l1, l2, l3] S σ Q else oE d 119 11 [l0, l1, l2, l3] S σ Q := oIfNe f_119_8 (by decide)
theorem f_119_11 : oFet 119 11 = some (.iconst (-1), 1) := by decide +kernel
theorem s_119_11 {d : Nat} {l0 l1 l2 l3 : oV} {S : List oV} {σ : oSg} {Q : Option oV → (Nat → oC) → Prop} : oE d 119 11 [l0, l1, l2, l3] S σ Q = oE d 119 12 [l0, l1, l2, l3] (.inl (-1) :: S) σ Q := pKst f_119_11 (by decide)
theorem f_119_12 : oFet 119 12 = some (.ireturn, 1) := by decide +kernel
theorem s_119_12 {d : Nat} {l0 l1 l2 l3 : oV} {x : Int} {σ : oSg} {Q : Option oV → (Nat → oC) → Prop} : oE d 119 12 [l0, l1, l2, l3] [.inl x] σ Q = Q (some (.inl x)) (oBld σ) := oIret f_119_12 rt_119
theorem f_119_13 : oFet 119 13 = some (.aload_n 0, 1) := by decide +kernel
theorem s_119_13 {d : Nat} {l1 l2 l3 : oV} {a : Nat} {S : List oV} {σ : oSg} {Q : Option oV → (Nat → oC) → Prop} : oE d 119 13 [.inr (.inr (.inl a)), l1, l2, l3] S σ Q = oE d 119 14 [.inr (.inr (.inl a)), l1, l2, l3] (.inr (.inr (.inl a)) :: S) σ Q := pLdN (k := 0) f_119_13 rfl rfl rfl
theorem f_119_14 : oFet 119 14 = some (.getfield 31, 3) := by decide +kernel
theorem s_119_14 {d : Nat} {l0 l1 l2 l3 : oV} {a : Nat} {S : List oV} {σ : oSg} {Q : Option oV → (Nat → oC) → Prop} (hk : oKd a = some 10) : oE d 119 14 [l0, l1, l2, l3] (.inr (.inr (.inl a)) :: S) σ Q = oE d 119 17 [l0, l1, l2, l3] (.inr (.inr (.inl (oRf a 4))) :: S) σ Q := pGfR f_119_14 ow_119 fl_10_31 rfl (by decide) hk
theorem f_119_17 : oFet 119 17 = some (.iload_n 1, 1) := by decide +kernel
theorem s_119_17 {d : Nat} {l0 l2 l3 : oV} {x : Int} {S : List oV} {σ : oSg} {Q : Option oV → (Nat → oC) → Prop} : oE d 119 17 [l0, .inl x, l2, l3] S σ Q = oE d 119 18 [l0, .inl x, l2, l3] (.inl x :: S) σ Q := pLdN (k := 1) f_119_17 rfl rfl rfl
theorem f_119_18 : oFet 119 18 = some (.invokevirtual 334, 3) := by decide +kernel
theorem c_119_18 {d : Nat} {l0 l1 l2 l3 : oV} {x0 : oV} {a : Nat} {v : Option oV} {τ : oSg} {S : List oV} {σ : oSg} {Q : Option oV → (Nat → oC) → Prop} (hm : oMi d 121 [.inr (.inr (.inl a)), x0] σ v τ) (hk : oKd a = some 8) (hs : oSmall S = true) : oE d 119 18 [l0, l1, l2, l3] (x0 :: .inr (.inr (.inl a)) :: S) σ Q = oE d 119 21 [l0, l1, l2, l3] (v.toList ++ S) τ Q := pCallV f_119_18 ow_119 lk_10_334 mt_121 rfl rfl rfl hk hs hm
theorem f_119_21 : oFet 119 21 = some (.ifCond .eq 18, 3) := by decide +kernel
theorem s_119_21 {d : Nat} {l0 l1 l2 l3 : oV} {x : Int} {S : List oV} {σ : oSg} {Q : Option oV → (Nat → oC) → Prop} : oE d 119 21 [l0, l1, l2, l3] (.inl x :: S) σ Q = if x = 0 then oE d 119 39 [l0, l1, l2, l3] S σ Q else oE d 119 24 [l0, l1, l2, l3] S σ Q := oIfEq f_119_21 (by decide)
theorem f_119_24 : oFet 119 24 = some (.aload_n 0, 1) := by decide +kernel
theorem s_119_24 {d : Nat} {l1 l2 l3 : oV} {a : Nat} {S : List oV} {σ : oSg} {Q : Option oV → (Nat → oC) → Prop} : oE d 119 24 [.inr (.inr (.inl a)), l1, l2, l3] S σ Q = oE d 119 25 [.inr (.inr (.inl a)), l1, l2, l3] (.inr (.inr (.inl a)) :: S) σ Q := pLdN (k := 0) f_119_24 rfl rfl rfl
theorem f_119_25 : oFet 119 25 = some (.getfield 31, 3) := by decide +kernel
theorem s_119_25 {d : Nat} {l0 l1 l2 l3 : oV} {a : Nat} {S : List oV} {σ : oSg} {Q : Option oV → (Nat → oC) → Prop} (hk : oKd a = some 10) : oE d 119 25 [l0, l1, l2, l3] (.inr (.inr (.inl a)) :: S) σ Q = oE d 119 28 [l0, l1, l2, l3] (.inr (.inr (.inl (oRf a 4))) :: S) σ Q := pGfR f_119_25 ow_119 fl_10_31 rfl (by decide) hk
theorem f_119_28 : oFet 119 28 = some (.iload_n 1, 1) := by decide +kernel
theorem s_119_28 {d : Nat} {l0 l2 l3 : oV} {x : Int} {S : List oV} {σ : oSg} {Q : Option oV → (Nat → oC) → Prop} : oE d 119 28 [l0, .inl x, l2, l3] S σ Q = oE d 119 29 [l0, .inl x, l2, l3] (.inl x :: S) σ Q := pLdN (k := 1) f_119_28 rfl rfl rfl
theorem f_119_29 : oFet 119 29 = some (.invokevirtual 337, 3) := by decide +kernel
theorem c_119_29 {d : Nat} {l0 l1 l2 l3 : oV} {x0 : oV} {a : Nat} {v : Option oV} {τ : oSg} {S : List oV} {σ : oSg} {Q : Option oV → (Nat → oC) → Prop} (hm : oMi d 122 [.inr (.inr (.inl a)), x0] σ v τ) (hk : oKd a = some 8) (hs : oSmall S = true) : oE d 119 29 [l0, l1, l2, l3] (x0 :: .inr (.inr (.inl a)) :: S) σ Q = oE d 119 32 [l0, l1, l2, l3] (v.toList ++ S) τ Q := pCallV f_119_29 ow_119 lk_10_337 mt_122 rfl rfl rfl hk hs hm
theorem f_119_32 : oFet 119 32 = some (.iconst 3, 1) := by decide +kernel
theorem s_119_32 {d : Nat} {l0 l1 l2 l3 : oV} {S : List oV} {σ : oSg} {Q : Option oV → (Nat → oC) → Prop} : oE d 119 32 [l0, l1, l2, l3] S σ Q = oE d 119 33 [l0, l1, l2, l3] (.inl (3) :: S) σ Q := pKst f_119_32 (by decide)
theorem f_119_33 : oFet 119 33 = some (.if_icmp .eq 6, 3) := by decide +kernel
theorem s_119_33 {d : Nat} {l0 l1 l2 l3 : oV} {x y : Int} {S : List oV} {σ : oSg} {Q : Option oV → (Nat → oC) → Prop} : oE d 119 33 [l0, l1, l2, l3] (.inl y :: .inl x :: S) σ Q = if x = y then oE d 119 39 [l0, l1, l2, l3] S σ Q else oE d 119 36 [l0, l1, l2, l3] S σ Q := oCmpEq f_119_33 (by decide)
theorem f_119_36 : oFet 119 36 = some (.bipush (-12), 2) := by decide +kernel
theorem s_119_36 {d : Nat} {l0 l1 l2 l3 : oV} {S : List oV} {σ : oSg} {Q : Option oV → (Nat → oC) → Prop} : oE d 119 36 [l0, l1, l2, l3] S σ Q = oE d 119 38 [l0, l1, l2, l3] (.inl (-12) :: S) σ Q := pBip f_119_36 (by decide)
theorem f_119_38 : oFet 119 38 = some (.ireturn, 1) := by decide +kernel
theorem s_119_38 {d : Nat} {l0 l1 l2 l3 : oV} {x : Int} {σ : oSg} {Q : Option oV → (Nat → oC) → Prop} : oE d 119 38 [l0, l1, l2, l3] [.inl x] σ Q = Q (some (.inl x)) (oBld σ) := oIret f_119_38 rt_119
theorem f_119_39 : oFet 119 39 = some (.iconst 0, 1) := by decide +kernel
theorem s_119_39 {d : Nat} {l0 l1 l2 l3 : oV} {S : List oV} {σ : oSg} {Q : Option oV → (Nat → oC) → Prop} : oE d 119 39 [l0, l1, l2, l3] S σ Q = oE d 119 40 [l0, l1, l2, l3] (.inl (0) :: S) σ Q := pKst f_119_39 (by decide)
theorem f_119_40 : oFet 119 40 = some (.istore_n 3, 1) := by decide +kernel
theorem s_119_40 {d : Nat} {l0 l1 l2 l3 : oV} {x : Int} {S : List oV} {σ : oSg} {Q : Option oV → (Nat → oC) → Prop} (c3 : oCat l3 = 1) (c2 : oCat l2 = 1)  : oE d 119 40 [l0, l1, l2, l3] (.inl x :: S) σ Q = oE d 119 41 [l0, l1, l2, .inl x] S σ Q := pSt (i := 3) f_119_40 rfl rfl (show (3 : Nat) < 4 by decide) (oC1n c2) (oC1n c3) rfl
theorem f_119_41 : oFet 119 41 = some (.iload_n 3, 1) := by decide +kernel
theorem s_119_41 {d : Nat} {l0 l1 l2 : oV} {x : Int} {S : List oV} {σ : oSg} {Q : Option oV → (Nat → oC) → Prop} : oE d 119 41 [l0, l1, l2, .inl x] S σ Q = oE d 119 42 [l0, l1, l2, .inl x] (.inl x :: S) σ Q := pLdN (k := 3) f_119_41 rfl rfl rfl
theorem f_119_42 : oFet 119 42 = some (.aload_n 0, 1) := by decide +kernel
theorem s_119_42 {d : Nat} {l1 l2 l3 : oV} {a : Nat} {S : List oV} {σ : oSg} {Q : Option oV → (Nat → oC) → Prop} : oE d 119 42 [.inr (.inr (.inl a)), l1, l2, l3] S σ Q = oE d 119 43 [.inr (.inr (.inl a)), l1, l2, l3] (.inr (.inr (.inl a)) :: S) σ Q := pLdN (k := 0) f_119_42 rfl rfl rfl
theorem f_119_43 : oFet 119 43 = some (.getfield 12, 3) := by decide +kernel
theorem s_119_43 {d : Nat} {l0 l1 l2 l3 : oV} {a : Nat} {S : List oV} {σ : oSg} {Q : Option oV → (Nat → oC) → Prop} (hk : oKd a = some 10) : oE d 119 43 [l0, l1, l2, l3] (.inr (.inr (.inl a)) :: S) σ Q = oE d 119 46 [l0, l1, l2, l3] (.inr (.inr (.inl (oRf a 0))) :: S) σ Q := pGfR f_119_43 ow_119 fl_10_12 rfl (by decide) hk
theorem f_119_46 : oFet 119 46 = some (.getfield 73, 3) := by decide +kernel
theorem s_119_46 {d : Nat} {l0 l1 l2 l3 : oV} {a : Nat} {S : List oV} {σ : oSg} {Q : Option oV → (Nat → oC) → Prop} (hk : oKd a = some 1) : oE d 119 46 [l0, l1, l2, l3] (.inr (.inr (.inl a)) :: S) σ Q = oE d 119 49 [l0, l1, l2, l3] (.inr (.inr (.inl (oRf a 0))) :: S) σ Q := pGfR f_119_46 ow_119 fl_10_73 rfl (by decide) hk
theorem f_119_49 : oFet 119 49 = some (.getfield 76, 3) := by decide +kernel
theorem s_119_49 {d : Nat} {l0 l1 l2 l3 : oV} {a : Nat} {S : List oV} {σ : oSg} {Q : Option oV → (Nat → oC) → Prop} (hk : oKd a = some 4) : oE d 119 49 [l0, l1, l2, l3] (.inr (.inr (.inl a)) :: S) σ Q = oE d 119 52 [l0, l1, l2, l3] (.inl (σ.1 a 0) :: S) σ Q := pGfI f_119_49 ow_119 fl_10_76 rfl (by decide) hk
theorem f_119_52 : oFet 119 52 = some (.if_icmp .ge 58, 3) := by decide +kernel
theorem s_119_52 {d : Nat} {l0 l1 l2 l3 : oV} {x y : Int} {S : List oV} {σ : oSg} {Q : Option oV → (Nat → oC) → Prop} : oE d 119 52 [l0, l1, l2, l3] (.inl y :: .inl x :: S) σ Q = if y ≤ x then oE d 119 110 [l0, l1, l2, l3] S σ Q else oE d 119 55 [l0, l1, l2, l3] S σ Q := oCmpGe f_119_52 (by decide)
theorem f_119_55 : oFet 119 55 = some (.iload_n 2, 1) := by decide +kernel
theorem s_119_55 {d : Nat} {l0 l1 l3 : oV} {x : Int} {S : List oV} {σ : oSg} {Q : Option oV → (Nat → oC) → Prop} : oE d 119 55 [l0, l1, .inl x, l3] S σ Q = oE d 119 56 [l0, l1, .inl x, l3] (.inl x :: S) σ Q := pLdN (k := 2) f_119_55 rfl rfl rfl
theorem f_119_56 : oFet 119 56 = some (.ifCond .lt 17, 3) := by decide +kernel
theorem s_119_56 {d : Nat} {l0 l1 l2 l3 : oV} {x : Int} {S : List oV} {σ : oSg} {Q : Option oV → (Nat → oC) → Prop} : oE d 119 56 [l0, l1, l2, l3] (.inl x :: S) σ Q = if x < 0 then oE d 119 73 [l0, l1, l2, l3] S σ Q else oE d 119 59 [l0, l1, l2, l3] S σ Q := oIfLt f_119_56 (by decide)
theorem f_119_59 : oFet 119 59 = some (.iload_n 2, 1) := by decide +kernel
theorem s_119_59 {d : Nat} {l0 l1 l3 : oV} {x : Int} {S : List oV} {σ : oSg} {Q : Option oV → (Nat → oC) → Prop} : oE d 119 59 [l0, l1, .inl x, l3] S σ Q = oE d 119 60 [l0, l1, .inl x, l3] (.inl x :: S) σ Q := pLdN (k := 2) f_119_59 rfl rfl rfl
theorem f_119_60 : oFet 119 60 = some (.aload_n 0, 1) := by decide +kernel
theorem s_119_60 {d : Nat} {l1 l2 l3 : oV} {a : Nat} {S : List oV} {σ : oSg} {Q : Option oV → (Nat → oC) → Prop} : oE d 119 60 [.inr (.inr (.inl a)), l1, l2, l3] S σ Q = oE d 119 61 [.inr (.inr (.inl a)), l1, l2, l3] (.inr (.inr (.inl a)) :: S) σ Q := pLdN (k := 0) f_119_60 rfl rfl rfl
theorem f_119_61 : oFet 119 61 = some (.getfield 31, 3) := by decide +kernel
theorem s_119_61 {d : Nat} {l0 l1 l2 l3 : oV} {a : Nat} {S : List oV} {σ : oSg} {Q : Option oV → (Nat → oC) → Prop} (hk : oKd a = some 10) : oE d 119 61 [l0, l1, l2, l3] (.inr (.inr (.inl a)) :: S) σ Q = oE d 119 64 [l0, l1, l2, l3] (.inr (.inr (.inl (oRf a 4))) :: S) σ Q := pGfR f_119_61 ow_119 fl_10_31 rfl (by decide) hk
theorem f_119_64 : oFet 119 64 = some (.iload_n 1, 1) := by decide +kernel
theorem s_119_64 {d : Nat} {l0 l2 l3 : oV} {x : Int} {S : List oV} {σ : oSg} {Q : Option oV → (Nat → oC) → Prop} : oE d 119 64 [l0, .inl x, l2, l3] S σ Q = oE d 119 65 [l0, .inl x, l2, l3] (.inl x :: S) σ Q := pLdN (k := 1) f_119_64 rfl rfl rfl
theorem f_119_65 : oFet 119 65 = some (.invokevirtual 340, 3) := by decide +kernel
theorem c_119_65 {d : Nat} {l0 l1 l2 l3 : oV} {x0 : oV} {a : Nat} {v : Option oV} {τ : oSg} {S : List oV} {σ : oSg} {Q : Option oV → (Nat → oC) → Prop} (hm : oMi d 123 [.inr (.inr (.inl a)), x0] σ v τ) (hk : oKd a = some 8) (hs : oSmall S = true) : oE d 119 65 [l0, l1, l2, l3] (x0 :: .inr (.inr (.inl a)) :: S) σ Q = oE d 119 68 [l0, l1, l2, l3] (v.toList ++ S) τ Q := pCallV f_119_65 ow_119 lk_10_340 mt_123 rfl rfl rfl hk hs hm
theorem f_119_68 : oFet 119 68 = some (.iload_n 3, 1) := by decide +kernel
theorem s_119_68 {d : Nat} {l0 l1 l2 : oV} {x : Int} {S : List oV} {σ : oSg} {Q : Option oV → (Nat → oC) → Prop} : oE d 119 68 [l0, l1, l2, .inl x] S σ Q = oE d 119 69 [l0, l1, l2, .inl x] (.inl x :: S) σ Q := pLdN (k := 3) f_119_68 rfl rfl rfl
theorem f_119_69 : oFet 119 69 = some (.isub, 1) := by decide +kernel
theorem s_119_69 {d : Nat} {l0 l1 l2 l3 : oV} {x y : Int} {S : List oV} {σ : oSg} {Q : Option oV → (Nat → oC) → Prop} : oE d 119 69 [l0, l1, l2, l3] (.inl y :: .inl x :: S) σ Q = oE d 119 70 [l0, l1, l2, l3] (.inl (oSub x y) :: S) σ Q := oS3 f_119_69 rfl rfl rfl
theorem f_119_70 : oFet 119 70 = some (.if_icmp .lt 8, 3) := by decide +kernel
theorem s_119_70 {d : Nat} {l0 l1 l2 l3 : oV} {x y : Int} {S : List oV} {σ : oSg} {Q : Option oV → (Nat → oC) → Prop} : oE d 119 70 [l0, l1, l2, l3] (.inl y :: .inl x :: S) σ Q = if x < y then oE d 119 78 [l0, l1, l2, l3] S σ Q else oE d 119 73 [l0, l1, l2, l3] S σ Q := oCmpLt f_119_70 (by decide)
theorem f_119_73 : oFet 119 73 = some (.bipush 100, 2) := by decide +kernel
theorem s_119_73 {d : Nat} {l0 l1 l2 l3 : oV} {S : List oV} {σ : oSg} {Q : Option oV → (Nat → oC) → Prop} : oE d 119 73 [l0, l1, l2, l3] S σ Q = oE d 119 75 [l0, l1, l2, l3] (.inl (100) :: S) σ Q := pBip f_119_73 (by decide)
theorem f_119_75 : oFet 119 75 = some (.iload_n 3, 1) := by decide +kernel
theorem s_119_75 {d : Nat} {l0 l1 l2 : oV} {x : Int} {S : List oV} {σ : oSg} {Q : Option oV → (Nat → oC) → Prop} : oE d 119 75 [l0, l1, l2, .inl x] S σ Q = oE d 119 76 [l0, l1, l2, .inl x] (.inl x :: S) σ Q := pLdN (k := 3) f_119_75 rfl rfl rfl
theorem f_119_76 : oFet 119 76 = some (.iadd, 1) := by decide +kernel
theorem s_119_76 {d : Nat} {l0 l1 l2 l3 : oV} {x y : Int} {S : List oV} {σ : oSg} {Q : Option oV → (Nat → oC) → Prop} : oE d 119 76 [l0, l1, l2, l3] (.inl y :: .inl x :: S) σ Q = oE d 119 77 [l0, l1, l2, l3] (.inl (oAdd x y) :: S) σ Q := oS3 f_119_76 rfl rfl rfl
theorem f_119_77 : oFet 119 77 = some (.ireturn, 1) := by decide +kernel
theorem s_119_77 {d : Nat} {l0 l1 l2 l3 : oV} {x : Int} {σ : oSg} {Q : Option oV → (Nat → oC) → Prop} : oE d 119 77 [l0, l1, l2, l3] [.inl x] σ Q = Q (some (.inl x)) (oBld σ) := oIret f_119_77 rt_119
theorem f_119_78 : oFet 119 78 = some (.aload_n 0, 1) := by decide +kernel
theorem s_119_78 {d : Nat} {l1 l2 l3 : oV} {a : Nat} {S : List oV} {σ : oSg} {Q : Option oV → (Nat → oC) → Prop} : oE d 119 78 [.inr (.inr (.inl a)), l1, l2, l3] S σ Q = oE d 119 79 [.inr (.inr (.inl a)), l1, l2, l3] (.inr (.inr (.inl a)) :: S) σ Q := pLdN (k := 0) f_119_78 rfl rfl rfl
theorem f_119_79 : oFet 119 79 = some (.getfield 31, 3) := by decide +kernel
theorem s_119_79 {d : Nat} {l0 l1 l2 l3 : oV} {a : Nat} {S : List oV} {σ : oSg} {Q : Option oV → (Nat → oC) → Prop} (hk : oKd a = some 10) : oE d 119 79 [l0, l1, l2, l3] (.inr (.inr (.inl a)) :: S) σ Q = oE d 119 82 [l0, l1, l2, l3] (.inr (.inr (.inl (oRf a 4))) :: S) σ Q := pGfR f_119_79 ow_119 fl_10_31 rfl (by decide) hk
theorem f_119_82 : oFet 119 82 = some (.iload_n 1, 1) := by decide +kernel
theorem s_119_82 {d : Nat} {l0 l2 l3 : oV} {x : Int} {S : List oV} {σ : oSg} {Q : Option oV → (Nat → oC) → Prop} : oE d 119 82 [l0, .inl x, l2, l3] S σ Q = oE d 119 83 [l0, .inl x, l2, l3] (.inl x :: S) σ Q := pLdN (k := 1) f_119_82 rfl rfl rfl
theorem f_119_83 : oFet 119 83 = some (.iload_n 2, 1) := by decide +kernel
theorem s_119_83 {d : Nat} {l0 l1 l3 : oV} {x : Int} {S : List oV} {σ : oSg} {Q : Option oV → (Nat → oC) → Prop} : oE d 119 83 [l0, l1, .inl x, l3] S σ Q = oE d 119 84 [l0, l1, .inl x, l3] (.inl x :: S) σ Q := pLdN (k := 2) f_119_83 rfl rfl rfl
theorem f_119_84 : oFet 119 84 = some (.iload_n 3, 1) := by decide +kernel
theorem s_119_84 {d : Nat} {l0 l1 l2 : oV} {x : Int} {S : List oV} {σ : oSg} {Q : Option oV → (Nat → oC) → Prop} : oE d 119 84 [l0, l1, l2, .inl x] S σ Q = oE d 119 85 [l0, l1, l2, .inl x] (.inl x :: S) σ Q := pLdN (k := 3) f_119_84 rfl rfl rfl
theorem f_119_85 : oFet 119 85 = some (.iadd, 1) := by decide +kernel
theorem s_119_85 {d : Nat} {l0 l1 l2 l3 : oV} {x y : Int} {S : List oV} {σ : oSg} {Q : Option oV → (Nat → oC) → Prop} : oE d 119 85 [l0, l1, l2, l3] (.inl y :: .inl x :: S) σ Q = oE d 119 86 [l0, l1, l2, l3] (.inl (oAdd x y) :: S) σ Q := oS3 f_119_85 rfl rfl rfl
theorem f_119_86 : oFet 119 86 = some (.invokevirtual 343, 3) := by decide +kernel
theorem c_119_86 {d : Nat} {l0 l1 l2 l3 : oV} {x0 x1 : oV} {a : Nat} {v : Option oV} {τ : oSg} {S : List oV} {σ : oSg} {Q : Option oV → (Nat → oC) → Prop} (hm : oMi d 124 [.inr (.inr (.inl a)), x0, x1] σ v τ) (hk : oKd a = some 8) (hs : oSmall S = true) : oE d 119 86 [l0, l1, l2, l3] (x1 :: x0 :: .inr (.inr (.inl a)) :: S) σ Q = oE d 119 89 [l0, l1, l2, l3] (v.toList ++ S) τ Q := pCallV f_119_86 ow_119 lk_10_343 mt_124 rfl rfl rfl hk hs hm
theorem f_119_89 : oFet 119 89 = some (.aload_n 0, 1) := by decide +kernel
theorem s_119_89 {d : Nat} {l1 l2 l3 : oV} {a : Nat} {S : List oV} {σ : oSg} {Q : Option oV → (Nat → oC) → Prop} : oE d 119 89 [.inr (.inr (.inl a)), l1, l2, l3] S σ Q = oE d 119 90 [.inr (.inr (.inl a)), l1, l2, l3] (.inr (.inr (.inl a)) :: S) σ Q := pLdN (k := 0) f_119_89 rfl rfl rfl
theorem f_119_90 : oFet 119 90 = some (.getfield 12, 3) := by decide +kernel
theorem s_119_90 {d : Nat} {l0 l1 l2 l3 : oV} {a : Nat} {S : List oV} {σ : oSg} {Q : Option oV → (Nat → oC) → Prop} (hk : oKd a = some 10) : oE d 119 90 [l0, l1, l2, l3] (.inr (.inr (.inl a)) :: S) σ Q = oE d 119 93 [l0, l1, l2, l3] (.inr (.inr (.inl (oRf a 0))) :: S) σ Q := pGfR f_119_90 ow_119 fl_10_12 rfl (by decide) hk
theorem f_119_93 : oFet 119 93 = some (.iload_n 3, 1) := by decide +kernel
theorem s_119_93 {d : Nat} {l0 l1 l2 : oV} {x : Int} {S : List oV} {σ : oSg} {Q : Option oV → (Nat → oC) → Prop} : oE d 119 93 [l0, l1, l2, .inl x] S σ Q = oE d 119 94 [l0, l1, l2, .inl x] (.inl x :: S) σ Q := pLdN (k := 3) f_119_93 rfl rfl rfl
theorem f_119_94 : oFet 119 94 = some (.invokevirtual 92, 3) := by decide +kernel
theorem c_119_94 {d : Nat} {l0 l1 l2 l3 : oV} {x0 : oV} {a : Nat} {v : Option oV} {τ : oSg} {S : List oV} {σ : oSg} {Q : Option oV → (Nat → oC) → Prop} (hm : oMi d 18 [.inr (.inr (.inl a)), x0] σ v τ) (hk : oKd a = some 1) (hs : oSmall S = true) : oE d 119 94 [l0, l1, l2, l3] (x0 :: .inr (.inr (.inl a)) :: S) σ Q = oE d 119 97 [l0, l1, l2, l3] (v.toList ++ S) τ Q := pCallV f_119_94 ow_119 lk_10_92 mt_18 rfl rfl rfl hk hs hm
theorem f_119_97 : oFet 119 97 = some (.i2l, 1) := by decide +kernel
theorem s_119_97 {d : Nat} {l0 l1 l2 l3 : oV} {x : Int} {S : List oV} {σ : oSg} {Q : Option oV → (Nat → oC) → Prop} : oE d 119 97 [l0, l1, l2, l3] (.inl x :: S) σ Q = oE d 119 98 [l0, l1, l2, l3] (.inr (.inl x) :: S) σ Q := oS4 f_119_97 rfl rfl rfl rfl
theorem f_119_98 : oFet 119 98 = some (.lcmp, 1) := by decide +kernel
theorem s_119_98 {d : Nat} {l0 l1 l2 l3 : oV} {x y : Int} {S : List oV} {σ : oSg} {Q : Option oV → (Nat → oC) → Prop} : oE d 119 98 [l0, l1, l2, l3] (.inr (.inl y) :: .inr (.inl x) :: S) σ Q = oE d 119 99 [l0, l1, l2, l3] (.inl (oLcmp x y) :: S) σ Q := oS4 f_119_98 rfl rfl rfl rfl
theorem f_119_99 : oFet 119 99 = some (.ifCond .eq 5, 3) := by decide +kernel
theorem s_119_99 {d : Nat} {l0 l1 l2 l3 : oV} {x : Int} {S : List oV} {σ : oSg} {Q : Option oV → (Nat → oC) → Prop} : oE d 119 99 [l0, l1, l2, l3] (.inl x :: S) σ Q = if x = 0 then oE d 119 104 [l0, l1, l2, l3] S σ Q else oE d 119 102 [l0, l1, l2, l3] S σ Q := oIfEq f_119_99 (by decide)
theorem f_119_102 : oFet 119 102 = some (.iload_n 3, 1) := by decide +kernel
theorem s_119_102 {d : Nat} {l0 l1 l2 : oV} {x : Int} {S : List oV} {σ : oSg} {Q : Option oV → (Nat → oC) → Prop} : oE d 119 102 [l0, l1, l2, .inl x] S σ Q = oE d 119 103 [l0, l1, l2, .inl x] (.inl x :: S) σ Q := pLdN (k := 3) f_119_102 rfl rfl rfl
theorem f_119_103 : oFet 119 103 = some (.ireturn, 1) := by decide +kernel
theorem s_119_103 {d : Nat} {l0 l1 l2 l3 : oV} {x : Int} {σ : oSg} {Q : Option oV → (Nat → oC) → Prop} : oE d 119 103 [l0, l1, l2, l3] [.inl x] σ Q = Q (some (.inl x)) (oBld σ) := oIret f_119_103 rt_119
theorem f_119_104 : oFet 119 104 = some (.iinc 3 1, 3) := by decide +kernel
theorem s_119_104 {d : Nat} {l0 l1 l2 : oV} {x : Int} {S : List oV} {σ : oSg} {Q : Option oV → (Nat → oC) → Prop} (c2 : oCat l2 = 1)  : oE d 119 104 [l0, l1, l2, .inl x] S σ Q = oE d 119 107 [l0, l1, l2, .inl (oAdd x (1))] S σ Q := pInc f_119_104 rfl (show (3 : Nat) < 4 by decide) (oC1n c2) (oC1n (v := .inl x) rfl) rfl
theorem f_119_107 : oFet 119 107 = some (.goto (-66), 3) := by decide +kernel
theorem s_119_107 {d : Nat} {l0 l1 l2 l3 : oV} {S : List oV} {σ : oSg} {Q : Option oV → (Nat → oC) → Prop} : oE d 119 107 [l0, l1, l2, l3] S σ Q = oE d 119 41 [l0, l1, l2, l3] S σ Q := pGoto f_119_107 (by decide)
theorem f_119_110 : oFet 119 110 = some (.bipush (-5), 2) := by decide +kernel
theorem s_119_110 {d : Nat} {l0 l1 l2 l3 : oV} {S : List oV} {σ : oSg} {Q : Option oV → (Nat → oC) → Prop} : oE d 119 110 [l0, l1, l2, l3] S σ Q = oE d 119 112 [l0, l1, l2, l3] (.inl (-5) :: S) σ Q := pBip f_119_110 (by decide)
theorem f_119_112 : oFet 119 112 = some (.ireturn, 1) := by decide +kernel
theorem s_119_112 {d : Nat} {l0 l1 l2 l3 : oV} {x : Int} {σ : oSg} {Q : Option oV → (Nat → oC) → Prop} : oE d 119 112 [l0, l1, l2, l3] [.inl x] σ Q = Q (some (.inl x)) (oBld σ) := oIret f_119_112 rt_119
theorem ow_120 : (oMt 120).2.2.2.2.1 = 8 := by decide +kernel
theorem rt_120 : (oMt 120).2.2.2.1 = some .boolean := by decide +kernel
theorem nl_120 : (oMt 120).2.2.1 = 2 := by decide +kernel
theorem f_120_0 : oFet 120 0 = some (.iload_n 1, 1) := by decide +kernel
theorem s_120_0 {d : Nat} {l0 : oV} {x : Int} {S : List oV} {σ : oSg} {Q : Option oV → (Nat → oC) → Prop} : oE d 120 0 [l0, .inl x] S σ Q = oE d 120 1 [l0, .inl x] (.inl x :: S) σ Q := pLdN (k := 1) f_120_0 rfl rfl rfl
theorem f_120_1 : oFet 120 1 = some (.ifCond .lt 13, 3) := by decide +kernel
theorem s_120_1 {d : Nat} {l0 l1 : oV} {x : Int} {S : List oV} {σ : oSg} {Q : Option oV → (Nat → oC) → Prop} : oE d 120 1 [l0, l1] (.inl x :: S) σ Q = if x < 0 then oE d 120 14 [l0, l1] S σ Q else oE d 120 4 [l0, l1] S σ Q := oIfLt f_120_1 (by decide)
theorem f_120_4 : oFet 120 4 = some (.iload_n 1, 1) := by decide +kernel
theorem s_120_4 {d : Nat} {l0 : oV} {x : Int} {S : List oV} {σ : oSg} {Q : Option oV → (Nat → oC) → Prop} : oE d 120 4 [l0, .inl x] S σ Q = oE d 120 5 [l0, .inl x] (.inl x :: S) σ Q := pLdN (k := 1) f_120_4 rfl rfl rfl
theorem f_120_5 : oFet 120 5 = some (.bipush 6, 2) := by decide +kernel
theorem s_120_5 {d : Nat} {l0 l1 : oV} {S : List oV} {σ : oSg} {Q : Option oV → (Nat → oC) → Prop} : oE d 120 5 [l0, l1] S σ Q = oE d 120 7 [l0, l1] (.inl (6) :: S) σ Q := pBip f_120_5 (by decide)
theorem f_120_7 : oFet 120 7 = some (.if_icmp .ge 7, 3) := by decide +kernel
theorem s_120_7 {d : Nat} {l0 l1 : oV} {x y : Int} {S : List oV} {σ : oSg} {Q : Option oV → (Nat → oC) → Prop} : oE d 120 7 [l0, l1] (.inl y :: .inl x :: S) σ Q = if y ≤ x then oE d 120 14 [l0, l1] S σ Q else oE d 120 10 [l0, l1] S σ Q := oCmpGe f_120_7 (by decide)
theorem f_120_10 : oFet 120 10 = some (.iconst 1, 1) := by decide +kernel
theorem s_120_10 {d : Nat} {l0 l1 : oV} {S : List oV} {σ : oSg} {Q : Option oV → (Nat → oC) → Prop} : oE d 120 10 [l0, l1] S σ Q = oE d 120 11 [l0, l1] (.inl (1) :: S) σ Q := pKst f_120_10 (by decide)
theorem f_120_11 : oFet 120 11 = some (.goto 4, 3) := by decide +kernel
theorem s_120_11 {d : Nat} {l0 l1 : oV} {S : List oV} {σ : oSg} {Q : Option oV → (Nat → oC) → Prop} : oE d 120 11 [l0, l1] S σ Q = oE d 120 15 [l0, l1] S σ Q := pGoto f_120_11 (by decide)
theorem f_120_14 : oFet 120 14 = some (.iconst 0, 1) := by decide +kernel
theorem s_120_14 {d : Nat} {l0 l1 : oV} {S : List oV} {σ : oSg} {Q : Option oV → (Nat → oC) → Prop} : oE d 120 14 [l0, l1] S σ Q = oE d 120 15 [l0, l1] (.inl (0) :: S) σ Q := pKst f_120_14 (by decide)
theorem f_120_15 : oFet 120 15 = some (.ireturn, 1) := by decide +kernel
theorem s_120_15 {d : Nat} {l0 l1 : oV} {x : Int} {σ : oSg} {Q : Option oV → (Nat → oC) → Prop} (hx : x = 0 ∨ x = 1) : oE d 120 15 [l0, l1] [.inl x] σ Q = Q (some (.inl x)) (oBld σ) := oZret f_120_15 rt_120 hx
theorem ow_121 : (oMt 121).2.2.2.2.1 = 8 := by decide +kernel
theorem rt_121 : (oMt 121).2.2.2.1 = some .boolean := by decide +kernel
theorem nl_121 : (oMt 121).2.2.1 = 2 := by decide +kernel
theorem f_121_0 : oFet 121 0 = some (.aload_n 0, 1) := by decide +kernel
theorem s_121_0 {d : Nat} {l1 : oV} {a : Nat} {S : List oV} {σ : oSg} {Q : Option oV → (Nat → oC) → Prop} : oE d 121 0 [.inr (.inr (.inl a)), l1] S σ Q = oE d 121 1 [.inr (.inr (.inl a)), l1] (.inr (.inr (.inl a)) :: S) σ Q := pLdN (k := 0) f_121_0 rfl rfl rfl
theorem f_121_1 : oFet 121 1 = some (.iload_n 1, 1) := by decide +kernel
theorem s_121_1 {d : Nat} {l0 : oV} {x : Int} {S : List oV} {σ : oSg} {Q : Option oV → (Nat → oC) → Prop} : oE d 121 1 [l0, .inl x] S σ Q = oE d 121 2 [l0, .inl x] (.inl x :: S) σ Q := pLdN (k := 1) f_121_1 rfl rfl rfl
theorem f_121_2 : oFet 121 2 = some (.invokevirtual 30, 3) := by decide +kernel
theorem c_121_2 {d : Nat} {l0 l1 : oV} {x0 : oV} {a : Nat} {v : Option oV} {τ : oSg} {S : List oV} {σ : oSg} {Q : Option oV → (Nat → oC) → Prop} (hm : oMi d 122 [.inr (.inr (.inl a)), x0] σ v τ) (hk : oKd a = some 8) (hs : oSmall S = true) : oE d 121 2 [l0, l1] (x0 :: .inr (.inr (.inl a)) :: S) σ Q = oE d 121 5 [l0, l1] (v.toList ++ S) τ Q := pCallV f_121_2 ow_121 lk_8_30 mt_122 rfl rfl rfl hk hs hm
theorem f_121_5 : oFet 121 5 = some (.iconst (-1), 1) := by decide +kernel
theorem s_121_5 {d : Nat} {l0 l1 : oV} {S : List oV} {σ : oSg} {Q : Option oV → (Nat → oC) → Prop} : oE d 121 5 [l0, l1] S σ Q = oE d 121 6 [l0, l1] (.inl (-1) :: S) σ Q := pKst f_121_5 (by decide)
theorem f_121_6 : oFet 121 6 = some (.if_icmp .eq 7, 3) := by decide +kernel
theorem s_121_6 {d : Nat} {l0 l1 : oV} {x y : Int} {S : List oV} {σ : oSg} {Q : Option oV → (Nat → oC) → Prop} : oE d 121 6 [l0, l1] (.inl y :: .inl x :: S) σ Q = if x = y then oE d 121 13 [l0, l1] S σ Q else oE d 121 9 [l0, l1] S σ Q := oCmpEq f_121_6 (by decide)
theorem f_121_9 : oFet 121 9 = some (.iconst 1, 1) := by decide +kernel
theorem s_121_9 {d : Nat} {l0 l1 : oV} {S : List oV} {σ : oSg} {Q : Option oV → (Nat → oC) → Prop} : oE d 121 9 [l0, l1] S σ Q = oE d 121 10 [l0, l1] (.inl (1) :: S) σ Q := pKst f_121_9 (by decide)
theorem f_121_10 : oFet 121 10 = some (.goto 4, 3) := by decide +kernel
theorem s_121_10 {d : Nat} {l0 l1 : oV} {S : List oV} {σ : oSg} {Q : Option oV → (Nat → oC) → Prop} : oE d 121 10 [l0, l1] S σ Q = oE d 121 14 [l0, l1] S σ Q := pGoto f_121_10 (by decide)
theorem f_121_13 : oFet 121 13 = some (.iconst 0, 1) := by decide +kernel
theorem s_121_13 {d : Nat} {l0 l1 : oV} {S : List oV} {σ : oSg} {Q : Option oV → (Nat → oC) → Prop} : oE d 121 13 [l0, l1] S σ Q = oE d 121 14 [l0, l1] (.inl (0) :: S) σ Q := pKst f_121_13 (by decide)
theorem f_121_14 : oFet 121 14 = some (.ireturn, 1) := by decide +kernel
theorem s_121_14 {d : Nat} {l0 l1 : oV} {x : Int} {σ : oSg} {Q : Option oV → (Nat → oC) → Prop} (hx : x = 0 ∨ x = 1) : oE d 121 14 [l0, l1] [.inl x] σ Q = Q (some (.inl x)) (oBld σ) := oZret f_121_14 rt_121 hx
theorem ow_122 : (oMt 122).2.2.2.2.1 = 8 := by decide +kernel
theorem rt_122 : (oMt 122).2.2.2.1 = some .int := by decide +kernel
theorem nl_122 : (oMt 122).2.2.1 = 2 := by decide +kernel
theorem f_122_0 : oFet 122 0 = some (.aload_n 0, 1) := by decide +kernel
theorem s_122_0 {d : Nat} {l1 : oV} {a : Nat} {S : List oV} {σ : oSg} {Q : Option oV → (Nat → oC) → Prop} : oE d 122 0 [.inr (.inr (.inl a)), l1] S σ Q = oE d 122 1 [.inr (.inr (.inl a)), l1] (.inr (.inr (.inl a)) :: S) σ Q := pLdN (k := 0) f_122_0 rfl rfl rfl
theorem f_122_1 : oFet 122 1 = some (.iload_n 1, 1) := by decide +kernel
theorem s_122_1 {d : Nat} {l0 : oV} {x : Int} {S : List oV} {σ : oSg} {Q : Option oV → (Nat → oC) → Prop} : oE d 122 1 [l0, .inl x] S σ Q = oE d 122 2 [l0, .inl x] (.inl x :: S) σ Q := pLdN (k := 1) f_122_1 rfl rfl rfl
theorem f_122_2 : oFet 122 2 = some (.invokevirtual 26, 3) := by decide +kernel
theorem c_122_2 {d : Nat} {l0 l1 : oV} {x0 : oV} {a : Nat} {v : Option oV} {τ : oSg} {S : List oV} {σ : oSg} {Q : Option oV → (Nat → oC) → Prop} (hm : oMi d 120 [.inr (.inr (.inl a)), x0] σ v τ) (hk : oKd a = some 8) (hs : oSmall S = true) : oE d 122 2 [l0, l1] (x0 :: .inr (.inr (.inl a)) :: S) σ Q = oE d 122 5 [l0, l1] (v.toList ++ S) τ Q := pCallV f_122_2 ow_122 lk_8_26 mt_120 rfl rfl rfl hk hs hm
theorem f_122_5 : oFet 122 5 = some (.ifCond .eq 12, 3) := by decide +kernel
theorem s_122_5 {d : Nat} {l0 l1 : oV} {x : Int} {S : List oV} {σ : oSg} {Q : Option oV → (Nat → oC) → Prop} : oE d 122 5 [l0, l1] (.inl x :: S) σ Q = if x = 0 then oE d 122 17 [l0, l1] S σ Q else oE d 122 8 [l0, l1] S σ Q := oIfEq f_122_5 (by decide)
theorem f_122_8 : oFet 122 8 = some (.aload_n 0, 1) := by decide +kernel
theorem s_122_8 {d : Nat} {l1 : oV} {a : Nat} {S : List oV} {σ : oSg} {Q : Option oV → (Nat → oC) → Prop} : oE d 122 8 [.inr (.inr (.inl a)), l1] S σ Q = oE d 122 9 [.inr (.inr (.inl a)), l1] (.inr (.inr (.inl a)) :: S) σ Q := pLdN (k := 0) f_122_8 rfl rfl rfl
theorem f_122_9 : oFet 122 9 = some (.getfield 9, 3) := by decide +kernel
theorem s_122_9 {d : Nat} {l0 l1 : oV} {a : Nat} {S : List oV} {σ : oSg} {Q : Option oV → (Nat → oC) → Prop} (hk : oKd a = some 8) : oE d 122 9 [l0, l1] (.inr (.inr (.inl a)) :: S) σ Q = oE d 122 12 [l0, l1] (.inr (.inr (.inl (oRf a 0))) :: S) σ Q := pGfR f_122_9 ow_122 fl_8_9 rfl (by decide) hk
theorem f_122_12 : oFet 122 12 = some (.iload_n 1, 1) := by decide +kernel
theorem s_122_12 {d : Nat} {l0 : oV} {x : Int} {S : List oV} {σ : oSg} {Q : Option oV → (Nat → oC) → Prop} : oE d 122 12 [l0, .inl x] S σ Q = oE d 122 13 [l0, .inl x] (.inl x :: S) σ Q := pLdN (k := 1) f_122_12 rfl rfl rfl
theorem f_122_13 : oFet 122 13 = some (.iaload, 1) := by decide +kernel
theorem s_122_13 {d : Nat} {l0 l1 : oV} {a : Nat} {i : Int} {S : List oV} {σ : oSg} {Q : Option oV → (Nat → oC) → Prop} (hk : oAk a = some 0) (h0 : 0 ≤ i) (h1 : i < (oLn a : Int)) : oE d 122 13 [l0, l1] (.inl i :: .inr (.inr (.inl a)) :: S) σ Q = oE d 122 14 [l0, l1] (.inl (σ.2 a i.toNat) :: S) σ Q := oIal f_122_13 hk h0 h1
theorem f_122_14 : oFet 122 14 = some (.goto 4, 3) := by decide +kernel
theorem s_122_14 {d : Nat} {l0 l1 : oV} {S : List oV} {σ : oSg} {Q : Option oV → (Nat → oC) → Prop} : oE d 122 14 [l0, l1] S σ Q = oE d 122 18 [l0, l1] S σ Q := pGoto f_122_14 (by decide)
theorem f_122_17 : oFet 122 17 = some (.iconst (-1), 1) := by decide +kernel
theorem s_122_17 {d : Nat} {l0 l1 : oV} {S : List oV} {σ : oSg} {Q : Option oV → (Nat → oC) → Prop} : oE d 122 17 [l0, l1] S σ Q = oE d 122 18 [l0, l1] (.inl (-1) :: S) σ Q := pKst f_122_17 (by decide)
theorem f_122_18 : oFet 122 18 = some (.ireturn, 1) := by decide +kernel
theorem s_122_18 {d : Nat} {l0 l1 : oV} {x : Int} {σ : oSg} {Q : Option oV → (Nat → oC) → Prop} : oE d 122 18 [l0, l1] [.inl x] σ Q = Q (some (.inl x)) (oBld σ) := oIret f_122_18 rt_122
theorem ow_123 : (oMt 123).2.2.2.2.1 = 8 := by decide +kernel
theorem rt_123 : (oMt 123).2.2.2.1 = some .int := by decide +kernel
theorem nl_123 : (oMt 123).2.2.1 = 2 := by decide +kernel
theorem f_123_0 : oFet 123 0 = some (.aload_n 0, 1) := by decide +kernel
theorem s_123_0 {d : Nat} {l1 : oV} {a : Nat} {S : List oV} {σ : oSg} {Q : Option oV → (Nat → oC) → Prop} : oE d 123 0 [.inr (.inr (.inl a)), l1] S σ Q = oE d 123 1 [.inr (.inr (.inl a)), l1] (.inr (.inr (.inl a)) :: S) σ Q := pLdN (k := 0) f_123_0 rfl rfl rfl
theorem f_123_1 : oFet 123 1 = some (.iload_n 1, 1) := by decide +kernel
theorem s_123_1 {d : Nat} {l0 : oV} {x : Int} {S : List oV} {σ : oSg} {Q : Option oV → (Nat → oC) → Prop} : oE d 123 1 [l0, .inl x] S σ Q = oE d 123 2 [l0, .inl x] (.inl x :: S) σ Q := pLdN (k := 1) f_123_1 rfl rfl rfl
theorem f_123_2 : oFet 123 2 = some (.invokevirtual 26, 3) := by decide +kernel
theorem c_123_2 {d : Nat} {l0 l1 : oV} {x0 : oV} {a : Nat} {v : Option oV} {τ : oSg} {S : List oV} {σ : oSg} {Q : Option oV → (Nat → oC) → Prop} (hm : oMi d 120 [.inr (.inr (.inl a)), x0] σ v τ) (hk : oKd a = some 8) (hs : oSmall S = true) : oE d 123 2 [l0, l1] (x0 :: .inr (.inr (.inl a)) :: S) σ Q = oE d 123 5 [l0, l1] (v.toList ++ S) τ Q := pCallV f_123_2 ow_123 lk_8_26 mt_120 rfl rfl rfl hk hs hm
theorem f_123_5 : oFet 123 5 = some (.ifCond .eq 12, 3) := by decide +kernel
theorem s_123_5 {d : Nat} {l0 l1 : oV} {x : Int} {S : List oV} {σ : oSg} {Q : Option oV → (Nat → oC) → Prop} : oE d 123 5 [l0, l1] (.inl x :: S) σ Q = if x = 0 then oE d 123 17 [l0, l1] S σ Q else oE d 123 8 [l0, l1] S σ Q := oIfEq f_123_5 (by decide)
theorem f_123_8 : oFet 123 8 = some (.aload_n 0, 1) := by decide +kernel
theorem s_123_8 {d : Nat} {l1 : oV} {a : Nat} {S : List oV} {σ : oSg} {Q : Option oV → (Nat → oC) → Prop} : oE d 123 8 [.inr (.inr (.inl a)), l1] S σ Q = oE d 123 9 [.inr (.inr (.inl a)), l1] (.inr (.inr (.inl a)) :: S) σ Q := pLdN (k := 0) f_123_8 rfl rfl rfl
theorem f_123_9 : oFet 123 9 = some (.getfield 13, 3) := by decide +kernel
theorem s_123_9 {d : Nat} {l0 l1 : oV} {a : Nat} {S : List oV} {σ : oSg} {Q : Option oV → (Nat → oC) → Prop} (hk : oKd a = some 8) : oE d 123 9 [l0, l1] (.inr (.inr (.inl a)) :: S) σ Q = oE d 123 12 [l0, l1] (.inr (.inr (.inl (oRf a 1))) :: S) σ Q := pGfR f_123_9 ow_123 fl_8_13 rfl (by decide) hk
theorem f_123_12 : oFet 123 12 = some (.iload_n 1, 1) := by decide +kernel
theorem s_123_12 {d : Nat} {l0 : oV} {x : Int} {S : List oV} {σ : oSg} {Q : Option oV → (Nat → oC) → Prop} : oE d 123 12 [l0, .inl x] S σ Q = oE d 123 13 [l0, .inl x] (.inl x :: S) σ Q := pLdN (k := 1) f_123_12 rfl rfl rfl
theorem f_123_13 : oFet 123 13 = some (.iaload, 1) := by decide +kernel
theorem s_123_13 {d : Nat} {l0 l1 : oV} {a : Nat} {i : Int} {S : List oV} {σ : oSg} {Q : Option oV → (Nat → oC) → Prop} (hk : oAk a = some 0) (h0 : 0 ≤ i) (h1 : i < (oLn a : Int)) : oE d 123 13 [l0, l1] (.inl i :: .inr (.inr (.inl a)) :: S) σ Q = oE d 123 14 [l0, l1] (.inl (σ.2 a i.toNat) :: S) σ Q := oIal f_123_13 hk h0 h1
theorem f_123_14 : oFet 123 14 = some (.goto 4, 3) := by decide +kernel
theorem s_123_14 {d : Nat} {l0 l1 : oV} {S : List oV} {σ : oSg} {Q : Option oV → (Nat → oC) → Prop} : oE d 123 14 [l0, l1] S σ Q = oE d 123 18 [l0, l1] S σ Q := pGoto f_123_14 (by decide)
theorem f_123_17 : oFet 123 17 = some (.iconst 0, 1) := by decide +kernel
theorem s_123_17 {d : Nat} {l0 l1 : oV} {S : List oV} {σ : oSg} {Q : Option oV → (Nat → oC) → Prop} : oE d 123 17 [l0, l1] S σ Q = oE d 123 18 [l0, l1] (.inl (0) :: S) σ Q := pKst f_123_17 (by decide)
theorem f_123_18 : oFet 123 18 = some (.ireturn, 1) := by decide +kernel
theorem s_123_18 {d : Nat} {l0 l1 : oV} {x : Int} {σ : oSg} {Q : Option oV → (Nat → oC) → Prop} : oE d 123 18 [l0, l1] [.inl x] σ Q = Q (some (.inl x)) (oBld σ) := oIret f_123_18 rt_123
theorem ow_124 : (oMt 124).2.2.2.2.1 = 8 := by decide +kernel
theorem rt_124 : (oMt 124).2.2.2.1 = some .long := by decide +kernel
theorem nl_124 : (oMt 124).2.2.1 = 3 := by decide +kernel
theorem f_124_0 : oFet 124 0 = some (.aload_n 0, 1) := by decide +kernel
theorem s_124_0 {d : Nat} {l1 l2 : oV} {a : Nat} {S : List oV} {σ : oSg} {Q : Option oV → (Nat → oC) → Prop} : oE d 124 0 [.inr (.inr (.inl a)), l1, l2] S σ Q = oE d 124 1 [.inr (.inr (.inl a)), l1, l2] (.inr (.inr (.inl a)) :: S) σ Q := pLdN (k := 0) f_124_0 rfl rfl rfl
theorem f_124_1 : oFet 124 1 = some (.iload_n 1, 1) := by decide +kernel
theorem s_124_1 {d : Nat} {l0 l2 : oV} {x : Int} {S : List oV} {σ : oSg} {Q : Option oV → (Nat → oC) → Prop} : oE d 124 1 [l0, .inl x, l2] S σ Q = oE d 124 2 [l0, .inl x, l2] (.inl x :: S) σ Q := pLdN (k := 1) f_124_1 rfl rfl rfl
theorem f_124_2 : oFet 124 2 = some (.iload_n 2, 1) := by decide +kernel
theorem s_124_2 {d : Nat} {l0 l1 : oV} {x : Int} {S : List oV} {σ : oSg} {Q : Option oV → (Nat → oC) → Prop} : oE d 124 2 [l0, l1, .inl x] S σ Q = oE d 124 3 [l0, l1, .inl x] (.inl x :: S) σ Q := pLdN (k := 2) f_124_2 rfl rfl rfl
theorem f_124_3 : oFet 124 3 = some (.iconst 1, 1) := by decide +kernel
theorem s_124_3 {d : Nat} {l0 l1 l2 : oV} {S : List oV} {σ : oSg} {Q : Option oV → (Nat → oC) → Prop} : oE d 124 3 [l0, l1, l2] S σ Q = oE d 124 4 [l0, l1, l2] (.inl (1) :: S) σ Q := pKst f_124_3 (by decide)
theorem f_124_4 : oFet 124 4 = some (.invokevirtual 40, 3) := by decide +kernel
theorem c_124_4 {d : Nat} {l0 l1 l2 : oV} {x0 x1 x2 : oV} {a : Nat} {v : Option oV} {τ : oSg} {S : List oV} {σ : oSg} {Q : Option oV → (Nat → oC) → Prop} (hm : oMi d 125 [.inr (.inr (.inl a)), x0, x1, x2] σ v τ) (hk : oKd a = some 8) (hs : oSmall S = true) : oE d 124 4 [l0, l1, l2] (x2 :: x1 :: x0 :: .inr (.inr (.inl a)) :: S) σ Q = oE d 124 7 [l0, l1, l2] (v.toList ++ S) τ Q := pCallV f_124_4 ow_124 lk_8_40 mt_125 rfl rfl rfl hk hs hm
theorem f_124_7 : oFet 124 7 = some (.ifCond .eq 17, 3) := by decide +kernel
theorem s_124_7 {d : Nat} {l0 l1 l2 : oV} {x : Int} {S : List oV} {σ : oSg} {Q : Option oV → (Nat → oC) → Prop} : oE d 124 7 [l0, l1, l2] (.inl x :: S) σ Q = if x = 0 then oE d 124 24 [l0, l1, l2] S σ Q else oE d 124 10 [l0, l1, l2] S σ Q := oIfEq f_124_7 (by decide)
theorem f_124_10 : oFet 124 10 = some (.aload_n 0, 1) := by decide +kernel
theorem s_124_10 {d : Nat} {l1 l2 : oV} {a : Nat} {S : List oV} {σ : oSg} {Q : Option oV → (Nat → oC) → Prop} : oE d 124 10 [.inr (.inr (.inl a)), l1, l2] S σ Q = oE d 124 11 [.inr (.inr (.inl a)), l1, l2] (.inr (.inr (.inl a)) :: S) σ Q := pLdN (k := 0) f_124_10 rfl rfl rfl
theorem f_124_11 : oFet 124 11 = some (.getfield 16, 3) := by decide +kernel
theorem s_124_11 {d : Nat} {l0 l1 l2 : oV} {a : Nat} {S : List oV} {σ : oSg} {Q : Option oV → (Nat → oC) → Prop} (hk : oKd a = some 8) : oE d 124 11 [l0, l1, l2] (.inr (.inr (.inl a)) :: S) σ Q = oE d 124 14 [l0, l1, l2] (.inr (.inr (.inl (oRf a 2))) :: S) σ Q := pGfR f_124_11 ow_124 fl_8_16 rfl (by decide) hk
theorem f_124_14 : oFet 124 14 = some (.iload_n 1, 1) := by decide +kernel
theorem s_124_14 {d : Nat} {l0 l2 : oV} {x : Int} {S : List oV} {σ : oSg} {Q : Option oV → (Nat → oC) → Prop} : oE d 124 14 [l0, .inl x, l2] S σ Q = oE d 124 15 [l0, .inl x, l2] (.inl x :: S) σ Q := pLdN (k := 1) f_124_14 rfl rfl rfl
theorem f_124_15 : oFet 124 15 = some (.bipush 60, 2) := by decide +kernel
theorem s_124_15 {d : Nat} {l0 l1 l2 : oV} {S : List oV} {σ : oSg} {Q : Option oV → (Nat → oC) → Prop} : oE d 124 15 [l0, l1, l2] S σ Q = oE d 124 17 [l0, l1, l2] (.inl (60) :: S) σ Q := pBip f_124_15 (by decide)
theorem f_124_17 : oFet 124 17 = some (.imul, 1) := by decide +kernel
theorem s_124_17 {d : Nat} {l0 l1 l2 : oV} {x y : Int} {S : List oV} {σ : oSg} {Q : Option oV → (Nat → oC) → Prop} : oE d 124 17 [l0, l1, l2] (.inl y :: .inl x :: S) σ Q = oE d 124 18 [l0, l1, l2] (.inl (oMul x y) :: S) σ Q := oS3 f_124_17 rfl rfl rfl
theorem f_124_18 : oFet 124 18 = some (.iload_n 2, 1) := by decide +kernel
theorem s_124_18 {d : Nat} {l0 l1 : oV} {x : Int} {S : List oV} {σ : oSg} {Q : Option oV → (Nat → oC) → Prop} : oE d 124 18 [l0, l1, .inl x] S σ Q = oE d 124 19 [l0, l1, .inl x] (.inl x :: S) σ Q := pLdN (k := 2) f_124_18 rfl rfl rfl
theorem f_124_19 : oFet 124 19 = some (.iadd, 1) := by decide +kernel
theorem s_124_19 {d : Nat} {l0 l1 l2 : oV} {x y : Int} {S : List oV} {σ : oSg} {Q : Option oV → (Nat → oC) → Prop} : oE d 124 19 [l0, l1, l2] (.inl y :: .inl x :: S) σ Q = oE d 124 20 [l0, l1, l2] (.inl (oAdd x y) :: S) σ Q := oS3 f_124_19 rfl rfl rfl
theorem f_124_20 : oFet 124 20 = some (.laload, 1) := by decide +kernel
theorem s_124_20 {d : Nat} {l0 l1 l2 : oV} {a : Nat} {i : Int} {S : List oV} {σ : oSg} {Q : Option oV → (Nat → oC) → Prop} (hk : oAk a = some 1) (h0 : 0 ≤ i) (h1 : i < (oLn a : Int)) : oE d 124 20 [l0, l1, l2] (.inl i :: .inr (.inr (.inl a)) :: S) σ Q = oE d 124 21 [l0, l1, l2] (.inr (.inl (σ.2 a i.toNat)) :: S) σ Q := oLal f_124_20 hk h0 h1
theorem f_124_21 : oFet 124 21 = some (.goto 4, 3) := by decide +kernel
theorem s_124_21 {d : Nat} {l0 l1 l2 : oV} {S : List oV} {σ : oSg} {Q : Option oV → (Nat → oC) → Prop} : oE d 124 21 [l0, l1, l2] S σ Q = oE d 124 25 [l0, l1, l2] S σ Q := pGoto f_124_21 (by decide)
theorem f_124_24 : oFet 124 24 = some (.lconst 0, 1) := by decide +kernel
theorem s_124_24 {d : Nat} {l0 l1 l2 : oV} {S : List oV} {σ : oSg} {Q : Option oV → (Nat → oC) → Prop} : oE d 124 24 [l0, l1, l2] S σ Q = oE d 124 25 [l0, l1, l2] (.inr (.inl 0) :: S) σ Q := pLcs f_124_24
theorem f_124_25 : oFet 124 25 = some (.lreturn, 1) := by decide +kernel
theorem s_124_25 {d : Nat} {l0 l1 l2 : oV} {x : Int} {σ : oSg} {Q : Option oV → (Nat → oC) → Prop} : oE d 124 25 [l0, l1, l2] [.inr (.inl x)] σ Q = Q (some (.inr (.inl x))) (oBld σ) := oLret f_124_25 rt_124
theorem ow_125 : (oMt 125).2.2.2.2.1 = 8 := by decide +kernel
theorem rt_125 : (oMt 125).2.2.2.1 = some .boolean := by decide +kernel
theorem nl_125 : (oMt 125).2.2.1 = 4 := by decide +kernel
theorem f_125_0 : oFet 125 0 = some (.iload_n 3, 1) := by decide +kernel
theorem s_125_0 {d : Nat} {l0 l1 l2 : oV} {x : Int} {S : List oV} {σ : oSg} {Q : Option oV → (Nat → oC) → Prop} : oE d 125 0 [l0, l1, l2, .inl x] S σ Q = oE d 125 1 [l0, l1, l2, .inl x] (.inl x :: S) σ Q := pLdN (k := 3) f_125_0 rfl rfl rfl
theorem f_125_1 : oFet 125 1 = some (.ifCond .lt 31, 3) := by decide +kernel
theorem s_125_1 {d : Nat} {l0 l1 l2 l3 : oV} {x : Int} {S : List oV} {σ : oSg} {Q : Option oV → (Nat → oC) → Prop} : oE d 125 1 [l0, l1, l2, l3] (.inl x :: S) σ Q = if x < 0 then oE d 125 32 [l0, l1, l2, l3] S σ Q else oE d 125 4 [l0, l1, l2, l3] S σ Q := oIfLt f_125_1 (by decide)
theorem f_125_4 : oFet 125 4 = some (.iload_n 2, 1) := by decide +kernel
theorem s_125_4 {d : Nat} {l0 l1 l3 : oV} {x : Int} {S : List oV} {σ : oSg} {Q : Option oV → (Nat → oC) → Prop} : oE d 125 4 [l0, l1, .inl x, l3] S σ Q = oE d 125 5 [l0, l1, .inl x, l3] (.inl x :: S) σ Q := pLdN (k := 2) f_125_4 rfl rfl rfl
theorem f_125_5 : oFet 125 5 = some (.ifCond .lt 27, 3) := by decide +kernel
theorem s_125_5 {d : Nat} {l0 l1 l2 l3 : oV} {x : Int} {S : List oV} {σ : oSg} {Q : Option oV → (Nat → oC) → Prop} : oE d 125 5 [l0, l1, l2, l3] (.inl x :: S) σ Q = if x < 0 then oE d 125 32 [l0, l1, l2, l3] S σ Q else oE d 125 8 [l0, l1, l2, l3] S σ Q := oIfLt f_125_5 (by decide)
theorem f_125_8 : oFet 125 8 = some (.iload_n 3, 1) := by decide +kernel
theorem s_125_8 {d : Nat} {l0 l1 l2 : oV} {x : Int} {S : List oV} {σ : oSg} {Q : Option oV → (Nat → oC) → Prop} : oE d 125 8 [l0, l1, l2, .inl x] S σ Q = oE d 125 9 [l0, l1, l2, .inl x] (.inl x :: S) σ Q := pLdN (k := 3) f_125_8 rfl rfl rfl
theorem f_125_9 : oFet 125 9 = some (.aload_n 0, 1) := by decide +kernel
theorem s_125_9 {d : Nat} {l1 l2 l3 : oV} {a : Nat} {S : List oV} {σ : oSg} {Q : Option oV → (Nat → oC) → Prop} : oE d 125 9 [.inr (.inr (.inl a)), l1, l2, l3] S σ Q = oE d 125 10 [.inr (.inr (.inl a)), l1, l2, l3] (.inr (.inr (.inl a)) :: S) σ Q := pLdN (k := 0) f_125_9 rfl rfl rfl
theorem f_125_10 : oFet 125 10 = some (.iload_n 1, 1) := by decide +kernel
theorem s_125_10 {d : Nat} {l0 l2 l3 : oV} {x : Int} {S : List oV} {σ : oSg} {Q : Option oV → (Nat → oC) → Prop} : oE d 125 10 [l0, .inl x, l2, l3] S σ Q = oE d 125 11 [l0, .inl x, l2, l3] (.inl x :: S) σ Q := pLdN (k := 1) f_125_10 rfl rfl rfl
theorem f_125_11 : oFet 125 11 = some (.invokevirtual 34, 3) := by decide +kernel
theorem c_125_11 {d : Nat} {l0 l1 l2 l3 : oV} {x0 : oV} {a : Nat} {v : Option oV} {τ : oSg} {S : List oV} {σ : oSg} {Q : Option oV → (Nat → oC) → Prop} (hm : oMi d 123 [.inr (.inr (.inl a)), x0] σ v τ) (hk : oKd a = some 8) (hs : oSmall S = true) : oE d 125 11 [l0, l1, l2, l3] (x0 :: .inr (.inr (.inl a)) :: S) σ Q = oE d 125 14 [l0, l1, l2, l3] (v.toList ++ S) τ Q := pCallV f_125_11 ow_125 lk_8_34 mt_123 rfl rfl rfl hk hs hm
theorem f_125_14 : oFet 125 14 = some (.if_icmp .gt 18, 3) := by decide +kernel
theorem s_125_14 {d : Nat} {l0 l1 l2 l3 : oV} {x y : Int} {S : List oV} {σ : oSg} {Q : Option oV → (Nat → oC) → Prop} : oE d 125 14 [l0, l1, l2, l3] (.inl y :: .inl x :: S) σ Q = if y < x then oE d 125 32 [l0, l1, l2, l3] S σ Q else oE d 125 17 [l0, l1, l2, l3] S σ Q := oCmpGt f_125_14 (by decide)
theorem f_125_17 : oFet 125 17 = some (.iload_n 2, 1) := by decide +kernel
theorem s_125_17 {d : Nat} {l0 l1 l3 : oV} {x : Int} {S : List oV} {σ : oSg} {Q : Option oV → (Nat → oC) → Prop} : oE d 125 17 [l0, l1, .inl x, l3] S σ Q = oE d 125 18 [l0, l1, .inl x, l3] (.inl x :: S) σ Q := pLdN (k := 2) f_125_17 rfl rfl rfl
theorem f_125_18 : oFet 125 18 = some (.aload_n 0, 1) := by decide +kernel
theorem s_125_18 {d : Nat} {l1 l2 l3 : oV} {a : Nat} {S : List oV} {σ : oSg} {Q : Option oV → (Nat → oC) → Prop} : oE d 125 18 [.inr (.inr (.inl a)), l1, l2, l3] S σ Q = oE d 125 19 [.inr (.inr (.inl a)), l1, l2, l3] (.inr (.inr (.inl a)) :: S) σ Q := pLdN (k := 0) f_125_18 rfl rfl rfl
theorem f_125_19 : oFet 125 19 = some (.iload_n 1, 1) := by decide +kernel
theorem s_125_19 {d : Nat} {l0 l2 l3 : oV} {x : Int} {S : List oV} {σ : oSg} {Q : Option oV → (Nat → oC) → Prop} : oE d 125 19 [l0, .inl x, l2, l3] S σ Q = oE d 125 20 [l0, .inl x, l2, l3] (.inl x :: S) σ Q := pLdN (k := 1) f_125_19 rfl rfl rfl
theorem f_125_20 : oFet 125 20 = some (.invokevirtual 34, 3) := by decide +kernel
theorem c_125_20 {d : Nat} {l0 l1 l2 l3 : oV} {x0 : oV} {a : Nat} {v : Option oV} {τ : oSg} {S : List oV} {σ : oSg} {Q : Option oV → (Nat → oC) → Prop} (hm : oMi d 123 [.inr (.inr (.inl a)), x0] σ v τ) (hk : oKd a = some 8) (hs : oSmall S = true) : oE d 125 20 [l0, l1, l2, l3] (x0 :: .inr (.inr (.inl a)) :: S) σ Q = oE d 125 23 [l0, l1, l2, l3] (v.toList ++ S) τ Q := pCallV f_125_20 ow_125 lk_8_34 mt_123 rfl rfl rfl hk hs hm
theorem f_125_23 : oFet 125 23 = some (.iload_n 3, 1) := by decide +kernel
theorem s_125_23 {d : Nat} {l0 l1 l2 : oV} {x : Int} {S : List oV} {σ : oSg} {Q : Option oV → (Nat → oC) → Prop} : oE d 125 23 [l0, l1, l2, .inl x] S σ Q = oE d 125 24 [l0, l1, l2, .inl x] (.inl x :: S) σ Q := pLdN (k := 3) f_125_23 rfl rfl rfl
theorem f_125_24 : oFet 125 24 = some (.isub, 1) := by decide +kernel
theorem s_125_24 {d : Nat} {l0 l1 l2 l3 : oV} {x y : Int} {S : List oV} {σ : oSg} {Q : Option oV → (Nat → oC) → Prop} : oE d 125 24 [l0, l1, l2, l3] (.inl y :: .inl x :: S) σ Q = oE d 125 25 [l0, l1, l2, l3] (.inl (oSub x y) :: S) σ Q := oS3 f_125_24 rfl rfl rfl
theorem f_125_25 : oFet 125 25 = some (.if_icmp .gt 7, 3) := by decide +kernel
theorem s_125_25 {d : Nat} {l0 l1 l2 l3 : oV} {x y : Int} {S : List oV} {σ : oSg} {Q : Option oV → (Nat → oC) → Prop} : oE d 125 25 [l0, l1, l2, l3] (.inl y :: .inl x :: S) σ Q = if y < x then oE d 125 32 [l0, l1, l2, l3] S σ Q else oE d 125 28 [l0, l1, l2, l3] S σ Q := oCmpGt f_125_25 (by decide)
theorem f_125_28 : oFet 125 28 = some (.iconst 1, 1) := by decide +kernel
theorem s_125_28 {d : Nat} {l0 l1 l2 l3 : oV} {S : List oV} {σ : oSg} {Q : Option oV → (Nat → oC) → Prop} : oE d 125 28 [l0, l1, l2, l3] S σ Q = oE d 125 29 [l0, l1, l2, l3] (.inl (1) :: S) σ Q := pKst f_125_28 (by decide)
theorem f_125_29 : oFet 125 29 = some (.goto 4, 3) := by decide +kernel
theorem s_125_29 {d : Nat} {l0 l1 l2 l3 : oV} {S : List oV} {σ : oSg} {Q : Option oV → (Nat → oC) → Prop} : oE d 125 29 [l0, l1, l2, l3] S σ Q = oE d 125 33 [l0, l1, l2, l3] S σ Q := pGoto f_125_29 (by decide)
theorem f_125_32 : oFet 125 32 = some (.iconst 0, 1) := by decide +kernel
theorem s_125_32 {d : Nat} {l0 l1 l2 l3 : oV} {S : List oV} {σ : oSg} {Q : Option oV → (Nat → oC) → Prop} : oE d 125 32 [l0, l1, l2, l3] S σ Q = oE d 125 33 [l0, l1, l2, l3] (.inl (0) :: S) σ Q := pKst f_125_32 (by decide)
theorem f_125_33 : oFet 125 33 = some (.ireturn, 1) := by decide +kernel
theorem s_125_33 {d : Nat} {l0 l1 l2 l3 : oV} {x : Int} {σ : oSg} {Q : Option oV → (Nat → oC) → Prop} (hx : x = 0 ∨ x = 1) : oE d 125 33 [l0, l1, l2, l3] [.inl x] σ Q = Q (some (.inl x)) (oBld σ) := oZret f_125_33 rt_125 hx
theorem ow_126 : (oMt 126).2.2.2.2.1 = 10 := by decide +kernel
theorem rt_126 : (oMt 126).2.2.2.1 = some .int := by decide +kernel
theorem nl_126 : (oMt 126).2.2.1 = 1 := by decide +kernel
theorem f_126_0 : oFet 126 0 = some (.aload_n 0, 1) := by decide +kernel
theorem s_126_0 {d : Nat} {a : Nat} {S : List oV} {σ : oSg} {Q : Option oV → (Nat → oC) → Prop} : oE d 126 0 [.inr (.inr (.inl a))] S σ Q = oE d 126 1 [.inr (.inr (.inl a))] (.inr (.inr (.inl a)) :: S) σ Q := pLdN (k := 0) f_126_0 rfl rfl rfl
theorem f_126_1 : oFet 126 1 = some (.getfield 18, 3) := by decide +kernel
theorem s_126_1 {d : Nat} {l0 : oV} {a : Nat} {S : List oV} {σ : oSg} {Q : Option oV → (Nat → oC) → Prop} (hk : oKd a = some 10) : oE d 126 1 [l0] (.inr (.inr (.inl a)) :: S) σ Q = oE d 126 4 [l0] (.inr (.inr (.inl (oRf a 1))) :: S) σ Q := pGfR f_126_1 ow_126 fl_10_18 rfl (by decide) hk
theorem f_126_4 : oFet 126 4 = some (.aload_n 0, 1) := by decide +kernel
theorem s_126_4 {d : Nat} {a : Nat} {S : List oV} {σ : oSg} {Q : Option oV → (Nat → oC) → Prop} : oE d 126 4 [.inr (.inr (.inl a))] S σ Q = oE d 126 5 [.inr (.inr (.inl a))] (.inr (.inr (.inl a)) :: S) σ Q := pLdN (k := 0) f_126_4 rfl rfl rfl
theorem f_126_5 : oFet 126 5 = some (.getfield 12, 3) := by decide +kernel
theorem s_126_5 {d : Nat} {l0 : oV} {a : Nat} {S : List oV} {σ : oSg} {Q : Option oV → (Nat → oC) → Prop} (hk : oKd a = some 10) : oE d 126 5 [l0] (.inr (.inr (.inl a)) :: S) σ Q = oE d 126 8 [l0] (.inr (.inr (.inl (oRf a 0))) :: S) σ Q := pGfR f_126_5 ow_126 fl_10_12 rfl (by decide) hk
theorem f_126_8 : oFet 126 8 = some (.invokevirtual 347, 3) := by decide +kernel
theorem c_126_8 {d : Nat} {l0 : oV} {x0 : oV} {a : Nat} {v : Option oV} {τ : oSg} {S : List oV} {σ : oSg} {Q : Option oV → (Nat → oC) → Prop} (hm : oMi d 127 [.inr (.inr (.inl a)), x0] σ v τ) (hk : oKd a = some 1) (hs : oSmall S = true) : oE d 126 8 [l0] (x0 :: .inr (.inr (.inl a)) :: S) σ Q = oE d 126 11 [l0] (v.toList ++ S) τ Q := pCallV f_126_8 ow_126 lk_10_347 mt_127 rfl rfl rfl hk hs hm
theorem f_126_11 : oFet 126 11 = some (.aload_n 0, 1) := by decide +kernel
theorem s_126_11 {d : Nat} {a : Nat} {S : List oV} {σ : oSg} {Q : Option oV → (Nat → oC) → Prop} : oE d 126 11 [.inr (.inr (.inl a))] S σ Q = oE d 126 12 [.inr (.inr (.inl a))] (.inr (.inr (.inl a)) :: S) σ Q := pLdN (k := 0) f_126_11 rfl rfl rfl
theorem f_126_12 : oFet 126 12 = some (.iconst 1, 1) := by decide +kernel
theorem s_126_12 {d : Nat} {l0 : oV} {S : List oV} {σ : oSg} {Q : Option oV → (Nat → oC) → Prop} : oE d 126 12 [l0] S σ Q = oE d 126 13 [l0] (.inl (1) :: S) σ Q := pKst f_126_12 (by decide)
theorem f_126_13 : oFet 126 13 = some (.putfield 350, 3) := by decide +kernel
theorem s_126_13 {d : Nat} {l0 : oV} {a : Nat} {S : List oV} {σ : oSg} {Q : Option oV → (Nat → oC) → Prop} (hk : oKd a = some 10) : oE d 126 13 [l0] (.inl 1 :: .inr (.inr (.inl a)) :: S) σ Q = oE d 126 16 [l0] S (oSF σ a 2 1) Q := pPfI f_126_13 ow_126 fl_10_350 rfl (by decide) rfl (by decide +kernel) hk
theorem f_126_16 : oFet 126 16 = some (.aload_n 0, 1) := by decide +kernel
theorem s_126_16 {d : Nat} {a : Nat} {S : List oV} {σ : oSg} {Q : Option oV → (Nat → oC) → Prop} : oE d 126 16 [.inr (.inr (.inl a))] S σ Q = oE d 126 17 [.inr (.inr (.inl a))] (.inr (.inr (.inl a)) :: S) σ Q := pLdN (k := 0) f_126_16 rfl rfl rfl
theorem f_126_17 : oFet 126 17 = some (.getfield 12, 3) := by decide +kernel
theorem s_126_17 {d : Nat} {l0 : oV} {a : Nat} {S : List oV} {σ : oSg} {Q : Option oV → (Nat → oC) → Prop} (hk : oKd a = some 10) : oE d 126 17 [l0] (.inr (.inr (.inl a)) :: S) σ Q = oE d 126 20 [l0] (.inr (.inr (.inl (oRf a 0))) :: S) σ Q := pGfR f_126_17 ow_126 fl_10_12 rfl (by decide) hk
theorem f_126_20 : oFet 126 20 = some (.getfield 73, 3) := by decide +kernel
theorem s_126_20 {d : Nat} {l0 : oV} {a : Nat} {S : List oV} {σ : oSg} {Q : Option oV → (Nat → oC) → Prop} (hk : oKd a = some 1) : oE d 126 20 [l0] (.inr (.inr (.inl a)) :: S) σ Q = oE d 126 23 [l0] (.inr (.inr (.inl (oRf a 0))) :: S) σ Q := pGfR f_126_20 ow_126 fl_10_73 rfl (by decide) hk
theorem f_126_23 : oFet 126 23 = some (.getfield 76, 3) := by decide +kernel
theorem s_126_23 {d : Nat} {l0 : oV} {a : Nat} {S : List oV} {σ : oSg} {Q : Option oV → (Nat → oC) → Prop} (hk : oKd a = some 4) : oE d 126 23 [l0] (.inr (.inr (.inl a)) :: S) σ Q = oE d 126 26 [l0] (.inl (σ.1 a 0) :: S) σ Q := pGfI f_126_23 ow_126 fl_10_76 rfl (by decide) hk
theorem f_126_26 : oFet 126 26 = some (.ireturn, 1) := by decide +kernel
theorem s_126_26 {d : Nat} {l0 : oV} {x : Int} {σ : oSg} {Q : Option oV → (Nat → oC) → Prop} : oE d 126 26 [l0] [.inl x] σ Q = Q (some (.inl x)) (oBld σ) := oIret f_126_26 rt_126
theorem ow_127 : (oMt 127).2.2.2.2.1 = 1 := by decide +kernel
theorem rt_127 : (oMt 127).2.2.2.1 = none := by decide +kernel
theorem nl_127 : (oMt 127).2.2.1 = 2 := by decide +kernel
theorem f_127_0 : oFet 127 0 = some (.aload_n 0, 1) := by decide +kernel
theorem s_127_0 {d : Nat} {l1 : oV} {a : Nat} {S : List oV} {σ : oSg} {Q : Option oV → (Nat → oC) → Prop} : oE d 127 0 [.inr (.inr (.inl a)), l1] S σ Q = oE d 127 1 [.inr (.inr (.inl a)), l1] (.inr (.inr (.inl a)) :: S) σ Q := pLdN (k := 0) f_127_0 rfl rfl rfl
theorem f_127_1 : oFet 127 1 = some (.getfield 12, 3) := by decide +kernel
theorem s_127_1 {d : Nat} {l0 l1 : oV} {a : Nat} {S : List oV} {σ : oSg} {Q : Option oV → (Nat → oC) → Prop} (hk : oKd a = some 1) : oE d 127 1 [l0, l1] (.inr (.inr (.inl a)) :: S) σ Q = oE d 127 4 [l0, l1] (.inr (.inr (.inl (oRf a 0))) :: S) σ Q := pGfR f_127_1 ow_127 fl_1_12 rfl (by decide) hk
theorem f_127_4 : oFet 127 4 = some (.aload_n 1, 1) := by decide +kernel
theorem s_127_4 {d : Nat} {l0 : oV} {a : Nat} {S : List oV} {σ : oSg} {Q : Option oV → (Nat → oC) → Prop} : oE d 127 4 [l0, .inr (.inr (.inl a))] S σ Q = oE d 127 5 [l0, .inr (.inr (.inl a))] (.inr (.inr (.inl a)) :: S) σ Q := pLdN (k := 1) f_127_4 rfl rfl rfl
theorem f_127_5 : oFet 127 5 = some (.getfield 12, 3) := by decide +kernel
theorem s_127_5 {d : Nat} {l0 l1 : oV} {a : Nat} {S : List oV} {σ : oSg} {Q : Option oV → (Nat → oC) → Prop} (hk : oKd a = some 1) : oE d 127 5 [l0, l1] (.inr (.inr (.inl a)) :: S) σ Q = oE d 127 8 [l0, l1] (.inr (.inr (.inl (oRf a 0))) :: S) σ Q := pGfR f_127_5 ow_127 fl_1_12 rfl (by decide) hk
theorem f_127_8 : oFet 127 8 = some (.invokevirtual 118, 3) := by decide +kernel
theorem c_127_8 {d : Nat} {l0 l1 : oV} {x0 : oV} {a : Nat} {v : Option oV} {τ : oSg} {S : List oV} {σ : oSg} {Q : Option oV → (Nat → oC) → Prop} (hm : oMi d 71 [.inr (.inr (.inl a)), x0] σ v τ) (hk : oKd a = some 4) (hs : oSmall S = true) : oE d 127 8 [l0, l1] (x0 :: .inr (.inr (.inl a)) :: S) σ Q = oE d 127 11 [l0, l1] (v.toList ++ S) τ Q := pCallV f_127_8 ow_127 lk_1_118 mt_71 rfl rfl rfl hk hs hm
theorem f_127_11 : oFet 127 11 = some (.aload_n 1, 1) := by decide +kernel
theorem s_127_11 {d : Nat} {l0 : oV} {a : Nat} {S : List oV} {σ : oSg} {Q : Option oV → (Nat → oC) → Prop} : oE d 127 11 [l0, .inr (.inr (.inl a))] S σ Q = oE d 127 12 [l0, .inr (.inr (.inl a))] (.inr (.inr (.inl a)) :: S) σ Q := pLdN (k := 1) f_127_11 rfl rfl rfl
theorem f_127_12 : oFet 127 12 = some (.getfield 18, 3) := by decide +kernel
theorem s_127_12 {d : Nat} {l0 l1 : oV} {a : Nat} {S : List oV} {σ : oSg} {Q : Option oV → (Nat → oC) → Prop} (hk : oKd a = some 1) : oE d 127 12 [l0, l1] (.inr (.inr (.inl a)) :: S) σ Q = oE d 127 15 [l0, l1] (.inr (.inr (.inl (oRf a 1))) :: S) σ Q := pGfR f_127_12 ow_127 fl_1_18 rfl (by decide) hk
theorem f_127_15 : oFet 127 15 = some (.iconst 0, 1) := by decide +kernel
theorem s_127_15 {d : Nat} {l0 l1 : oV} {S : List oV} {σ : oSg} {Q : Option oV → (Nat → oC) → Prop} : oE d 127 15 [l0, l1] S σ Q = oE d 127 16 [l0, l1] (.inl (0) :: S) σ Q := pKst f_127_15 (by decide)
theorem f_127_16 : oFet 127 16 = some (.aload_n 0, 1) := by decide +kernel
theorem s_127_16 {d : Nat} {l1 : oV} {a : Nat} {S : List oV} {σ : oSg} {Q : Option oV → (Nat → oC) → Prop} : oE d 127 16 [.inr (.inr (.inl a)), l1] S σ Q = oE d 127 17 [.inr (.inr (.inl a)), l1] (.inr (.inr (.inl a)) :: S) σ Q := pLdN (k := 0) f_127_16 rfl rfl rfl
theorem f_127_17 : oFet 127 17 = some (.getfield 18, 3) := by decide +kernel
theorem s_127_17 {d : Nat} {l0 l1 : oV} {a : Nat} {S : List oV} {σ : oSg} {Q : Option oV → (Nat → oC) → Prop} (hk : oKd a = some 1) : oE d 127 17 [l0, l1] (.inr (.inr (.inl a)) :: S) σ Q = oE d 127 20 [l0, l1] (.inr (.inr (.inl (oRf a 1))) :: S) σ Q := pGfR f_127_17 ow_127 fl_1_18 rfl (by decide) hk
theorem f_127_20 : oFet 127 20 = some (.iconst 0, 1) := by decide +kernel
theorem s_127_20 {d : Nat} {l0 l1 : oV} {S : List oV} {σ : oSg} {Q : Option oV → (Nat → oC) → Prop} : oE d 127 20 [l0, l1] S σ Q = oE d 127 21 [l0, l1] (.inl (0) :: S) σ Q := pKst f_127_20 (by decide)
theorem f_127_21 : oFet 127 21 = some (.bipush 7, 2) := by decide +kernel
theorem s_127_21 {d : Nat} {l0 l1 : oV} {S : List oV} {σ : oSg} {Q : Option oV → (Nat → oC) → Prop} : oE d 127 21 [l0, l1] S σ Q = oE d 127 23 [l0, l1] (.inl (7) :: S) σ Q := pBip f_127_21 (by decide)
theorem f_127_23 : oFet 127 23 = some (.invokestatic 122, 3) := by decide +kernel
theorem s_127_23 {d : Nat} {l0 l1 : oV} {a b : Nat} {sp dp n : Int} {S : List oV} {σ : oSg} {Q : Option oV → (Nat → oC) → Prop} (ha : oAk a = some 0) (hb : oAk b = some 0) (hs : oSmall S = true) (g1 : 0 ≤ sp) (g2 : 0 ≤ dp) (g3 : 0 ≤ n) (g4 : sp + n ≤ (oLn a : Int)) (g5 : dp + n ≤ (oLn b : Int)) : oE d 127 23 [l0, l1] (.inl n :: .inl dp :: .inr (.inr (.inl b)) :: .inl sp :: .inr (.inr (.inl a)) :: S) σ Q = oE d 127 26 [l0, l1] S (oCp σ a sp b dp n) Q := pCpy f_127_23 ow_127 lk_1_122 ha hb (by decide) hs g1 g2 g3 g4 g5
theorem f_127_26 : oFet 127 26 = some (.aload_n 1, 1) := by decide +kernel
theorem s_127_26 {d : Nat} {l0 : oV} {a : Nat} {S : List oV} {σ : oSg} {Q : Option oV → (Nat → oC) → Prop} : oE d 127 26 [l0, .inr (.inr (.inl a))] S σ Q = oE d 127 27 [l0, .inr (.inr (.inl a))] (.inr (.inr (.inl a)) :: S) σ Q := pLdN (k := 1) f_127_26 rfl rfl rfl
theorem f_127_27 : oFet 127 27 = some (.getfield 22, 3) := by decide +kernel
theorem s_127_27 {d : Nat} {l0 l1 : oV} {a : Nat} {S : List oV} {σ : oSg} {Q : Option oV → (Nat → oC) → Prop} (hk : oKd a = some 1) : oE d 127 27 [l0, l1] (.inr (.inr (.inl a)) :: S) σ Q = oE d 127 30 [l0, l1] (.inr (.inr (.inl (oRf a 2))) :: S) σ Q := pGfR f_127_27 ow_127 fl_1_22 rfl (by decide) hk
theorem f_127_30 : oFet 127 30 = some (.iconst 0, 1) := by decide +kernel
theorem s_127_30 {d : Nat} {l0 l1 : oV} {S : List oV} {σ : oSg} {Q : Option oV → (Nat → oC) → Prop} : oE d 127 30 [l0, l1] S σ Q = oE d 127 31 [l0, l1] (.inl (0) :: S) σ Q := pKst f_127_30 (by decide)
theorem f_127_31 : oFet 127 31 = some (.aload_n 0, 1) := by decide +kernel
theorem s_127_31 {d : Nat} {l1 : oV} {a : Nat} {S : List oV} {σ : oSg} {Q : Option oV → (Nat → oC) → Prop} : oE d 127 31 [.inr (.inr (.inl a)), l1] S σ Q = oE d 127 32 [.inr (.inr (.inl a)), l1] (.inr (.inr (.inl a)) :: S) σ Q := pLdN (k := 0) f_127_31 rfl rfl rfl
theorem f_127_32 : oFet 127 32 = some (.getfield 22, 3) := by decide +kernel
theorem s_127_32 {d : Nat} {l0 l1 : oV} {a : Nat} {S : List oV} {σ : oSg} {Q : Option oV → (Nat → oC) → Prop} (hk : oKd a = some 1) : oE d 127 32 [l0, l1] (.inr (.inr (.inl a)) :: S) σ Q = oE d 127 35 [l0, l1] (.inr (.inr (.inl (oRf a 2))) :: S) σ Q := pGfR f_127_32 ow_127 fl_1_22 rfl (by decide) hk
theorem f_127_35 : oFet 127 35 = some (.iconst 0, 1) := by decide +kernel
theorem s_127_35 {d : Nat} {l0 l1 : oV} {S : List oV} {σ : oSg} {Q : Option oV → (Nat → oC) → Prop} : oE d 127 35 [l0, l1] S σ Q = oE d 127 36 [l0, l1] (.inl (0) :: S) σ Q := pKst f_127_35 (by decide)
theorem f_127_36 : oFet 127 36 = some (.bipush 7, 2) := by decide +kernel
theorem s_127_36 {d : Nat} {l0 l1 : oV} {S : List oV} {σ : oSg} {Q : Option oV → (Nat → oC) → Prop} : oE d 127 36 [l0, l1] S σ Q = oE d 127 38 [l0, l1] (.inl (7) :: S) σ Q := pBip f_127_36 (by decide)
theorem f_127_38 : oFet 127 38 = some (.invokestatic 122, 3) := by decide +kernel
theorem s_127_38 {d : Nat} {l0 l1 : oV} {a b : Nat} {sp dp n : Int} {S : List oV} {σ : oSg} {Q : Option oV → (Nat → oC) → Prop} (ha : oAk a = some 0) (hb : oAk b = some 0) (hs : oSmall S = true) (g1 : 0 ≤ sp) (g2 : 0 ≤ dp) (g3 : 0 ≤ n) (g4 : sp + n ≤ (oLn a : Int)) (g5 : dp + n ≤ (oLn b : Int)) : oE d 127 38 [l0, l1] (.inl n :: .inl dp :: .inr (.inr (.inl b)) :: .inl sp :: .inr (.inr (.inl a)) :: S) σ Q = oE d 127 41 [l0, l1] S (oCp σ a sp b dp n) Q := pCpy f_127_38 ow_127 lk_1_122 ha hb (by decide) hs g1 g2 g3 g4 g5
theorem f_127_41 : oFet 127 41 = some (.aload_n 0, 1) := by decide +kernel
theorem s_127_41 {d : Nat} {l1 : oV} {a : Nat} {S : List oV} {σ : oSg} {Q : Option oV → (Nat → oC) → Prop} : oE d 127 41 [.inr (.inr (.inl a)), l1] S σ Q = oE d 127 42 [.inr (.inr (.inl a)), l1] (.inr (.inr (.inl a)) :: S) σ Q := pLdN (k := 0) f_127_41 rfl rfl rfl
theorem f_127_42 : oFet 127 42 = some (.getfield 30, 3) := by decide +kernel
theorem s_127_42 {d : Nat} {l0 l1 : oV} {a : Nat} {S : List oV} {σ : oSg} {Q : Option oV → (Nat → oC) → Prop} (hk : oKd a = some 1) : oE d 127 42 [l0, l1] (.inr (.inr (.inl a)) :: S) σ Q = oE d 127 45 [l0, l1] (.inr (.inr (.inl (oRf a 3))) :: S) σ Q := pGfR f_127_42 ow_127 fl_1_30 rfl (by decide) hk
theorem f_127_45 : oFet 127 45 = some (.aload_n 1, 1) := by decide +kernel
theorem s_127_45 {d : Nat} {l0 : oV} {a : Nat} {S : List oV} {σ : oSg} {Q : Option oV → (Nat → oC) → Prop} : oE d 127 45 [l0, .inr (.inr (.inl a))] S σ Q = oE d 127 46 [l0, .inr (.inr (.inl a))] (.inr (.inr (.inl a)) :: S) σ Q := pLdN (k := 1) f_127_45 rfl rfl rfl
theorem f_127_46 : oFet 127 46 = some (.getfield 30, 3) := by decide +kernel
theorem s_127_46 {d : Nat} {l0 l1 : oV} {a : Nat} {S : List oV} {σ : oSg} {Q : Option oV → (Nat → oC) → Prop} (hk : oKd a = some 1) : oE d 127 46 [l0, l1] (.inr (.inr (.inl a)) :: S) σ Q = oE d 127 49 [l0, l1] (.inr (.inr (.inl (oRf a 3))) :: S) σ Q := pGfR f_127_46 ow_127 fl_1_30 rfl (by decide) hk
theorem f_127_49 : oFet 127 49 = some (.invokevirtual 128, 3) := by decide +kernel
theorem c_127_49 {d : Nat} {l0 l1 : oV} {x0 : oV} {a : Nat} {v : Option oV} {τ : oSg} {S : List oV} {σ : oSg} {Q : Option oV → (Nat → oC) → Prop} (hm : oMi d 128 [.inr (.inr (.inl a)), x0] σ v τ) (hk : oKd a = some 7) (hs : oSmall S = true) : oE d 127 49 [l0, l1] (x0 :: .inr (.inr (.inl a)) :: S) σ Q = oE d 127 52 [l0, l1] (v.toList ++ S) τ Q := pCallV f_127_49 ow_127 lk_1_128 mt_128 rfl rfl rfl hk hs hm
theorem f_127_52 : oFet 127 52 = some (.aload_n 0, 1) := by decide +kernel
theorem s_127_52 {d : Nat} {l1 : oV} {a : Nat} {S : List oV} {σ : oSg} {Q : Option oV → (Nat → oC) → Prop} : oE d 127 52 [.inr (.inr (.inl a)), l1] S σ Q = oE d 127 53 [.inr (.inr (.inl a)), l1] (.inr (.inr (.inl a)) :: S) σ Q := pLdN (k := 0) f_127_52 rfl rfl rfl
theorem f_127_53 : oFet 127 53 = some (.getfield 34, 3) := by decide +kernel
theorem s_127_53 {d : Nat} {l0 l1 : oV} {a : Nat} {S : List oV} {σ : oSg} {Q : Option oV → (Nat → oC) → Prop} (hk : oKd a = some 1) : oE d 127 53 [l0, l1] (.inr (.inr (.inl a)) :: S) σ Q = oE d 127 56 [l0, l1] (.inr (.inr (.inl (oRf a 4))) :: S) σ Q := pGfR f_127_53 ow_127 fl_1_34 rfl (by decide) hk
theorem f_127_56 : oFet 127 56 = some (.aload_n 1, 1) := by decide +kernel
theorem s_127_56 {d : Nat} {l0 : oV} {a : Nat} {S : List oV} {σ : oSg} {Q : Option oV → (Nat → oC) → Prop} : oE d 127 56 [l0, .inr (.inr (.inl a))] S σ Q = oE d 127 57 [l0, .inr (.inr (.inl a))] (.inr (.inr (.inl a)) :: S) σ Q := pLdN (k := 1) f_127_56 rfl rfl rfl
theorem f_127_57 : oFet 127 57 = some (.getfield 34, 3) := by decide +kernel
theorem s_127_57 {d : Nat} {l0 l1 : oV} {a : Nat} {S : List oV} {σ : oSg} {Q : Option oV → (Nat → oC) → Prop} (hk : oKd a = some 1) : oE d 127 57 [l0, l1] (.inr (.inr (.inl a)) :: S) σ Q = oE d 127 60 [l0, l1] (.inr (.inr (.inl (oRf a 4))) :: S) σ Q := pGfR f_127_57 ow_127 fl_1_34 rfl (by decide) hk
theorem f_127_60 : oFet 127 60 = some (.invokevirtual 128, 3) := by decide +kernel
theorem c_127_60 {d : Nat} {l0 l1 : oV} {x0 : oV} {a : Nat} {v : Option oV} {τ : oSg} {S : List oV} {σ : oSg} {Q : Option oV → (Nat → oC) → Prop} (hm : oMi d 128 [.inr (.inr (.inl a)), x0] σ v τ) (hk : oKd a = some 7) (hs : oSmall S = true) : oE d 127 60 [l0, l1] (x0 :: .inr (.inr (.inl a)) :: S) σ Q = oE d 127 63 [l0, l1] (v.toList ++ S) τ Q := pCallV f_127_60 ow_127 lk_1_128 mt_128 rfl rfl rfl hk hs hm
theorem f_127_63 : oFet 127 63 = some (.aload_n 0, 1) := by decide +kernel
theorem s_127_63 {d : Nat} {l1 : oV} {a : Nat} {S : List oV} {σ : oSg} {Q : Option oV → (Nat → oC) → Prop} : oE d 127 63 [.inr (.inr (.inl a)), l1] S σ Q = oE d 127 64 [.inr (.inr (.inl a)), l1] (.inr (.inr (.inl a)) :: S) σ Q := pLdN (k := 0) f_127_63 rfl rfl rfl
theorem f_127_64 : oFet 127 64 = some (.getfield 37, 3) := by decide +kernel
theorem s_127_64 {d : Nat} {l0 l1 : oV} {a : Nat} {S : List oV} {σ : oSg} {Q : Option oV → (Nat → oC) → Prop} (hk : oKd a = some 1) : oE d 127 64 [l0, l1] (.inr (.inr (.inl a)) :: S) σ Q = oE d 127 67 [l0, l1] (.inr (.inr (.inl (oRf a 5))) :: S) σ Q := pGfR f_127_64 ow_127 fl_1_37 rfl (by decide) hk
theorem f_127_67 : oFet 127 67 = some (.aload_n 1, 1) := by decide +kernel
theorem s_127_67 {d : Nat} {l0 : oV} {a : Nat} {S : List oV} {σ : oSg} {Q : Option oV → (Nat → oC) → Prop} : oE d 127 67 [l0, .inr (.inr (.inl a))] S σ Q = oE d 127 68 [l0, .inr (.inr (.inl a))] (.inr (.inr (.inl a)) :: S) σ Q := pLdN (k := 1) f_127_67 rfl rfl rfl
theorem f_127_68 : oFet 127 68 = some (.getfield 37, 3) := by decide +kernel
theorem s_127_68 {d : Nat} {l0 l1 : oV} {a : Nat} {S : List oV} {σ : oSg} {Q : Option oV → (Nat → oC) → Prop} (hk : oKd a = some 1) : oE d 127 68 [l0, l1] (.inr (.inr (.inl a)) :: S) σ Q = oE d 127 71 [l0, l1] (.inr (.inr (.inl (oRf a 5))) :: S) σ Q := pGfR f_127_68 ow_127 fl_1_37 rfl (by decide) hk
theorem f_127_71 : oFet 127 71 = some (.invokevirtual 128, 3) := by decide +kernel
theorem c_127_71 {d : Nat} {l0 l1 : oV} {x0 : oV} {a : Nat} {v : Option oV} {τ : oSg} {S : List oV} {σ : oSg} {Q : Option oV → (Nat → oC) → Prop} (hm : oMi d 128 [.inr (.inr (.inl a)), x0] σ v τ) (hk : oKd a = some 7) (hs : oSmall S = true) : oE d 127 71 [l0, l1] (x0 :: .inr (.inr (.inl a)) :: S) σ Q = oE d 127 74 [l0, l1] (v.toList ++ S) τ Q := pCallV f_127_71 ow_127 lk_1_128 mt_128 rfl rfl rfl hk hs hm
theorem f_127_74 : oFet 127 74 = some (.aload_n 0, 1) := by decide +kernel
theorem s_127_74 {d : Nat} {l1 : oV} {a : Nat} {S : List oV} {σ : oSg} {Q : Option oV → (Nat → oC) → Prop} : oE d 127 74 [.inr (.inr (.inl a)), l1] S σ Q = oE d 127 75 [.inr (.inr (.inl a)), l1] (.inr (.inr (.inl a)) :: S) σ Q := pLdN (k := 0) f_127_74 rfl rfl rfl
theorem f_127_75 : oFet 127 75 = some (.getfield 40, 3) := by decide +kernel
theorem s_127_75 {d : Nat} {l0 l1 : oV} {a : Nat} {S : List oV} {σ : oSg} {Q : Option oV → (Nat → oC) → Prop} (hk : oKd a = some 1) : oE d 127 75 [l0, l1] (.inr (.inr (.inl a)) :: S) σ Q = oE d 127 78 [l0, l1] (.inr (.inr (.inl (oRf a 6))) :: S) σ Q := pGfR f_127_75 ow_127 fl_1_40 rfl (by decide) hk
theorem f_127_78 : oFet 127 78 = some (.aload_n 1, 1) := by decide +kernel
theorem s_127_78 {d : Nat} {l0 : oV} {a : Nat} {S : List oV} {σ : oSg} {Q : Option oV → (Nat → oC) → Prop} : oE d 127 78 [l0, .inr (.inr (.inl a))] S σ Q = oE d 127 79 [l0, .inr (.inr (.inl a))] (.inr (.inr (.inl a)) :: S) σ Q := pLdN (k := 1) f_127_78 rfl rfl rfl
theorem f_127_79 : oFet 127 79 = some (.getfield 40, 3) := by decide +kernel
theorem s_127_79 {d : Nat} {l0 l1 : oV} {a : Nat} {S : List oV} {σ : oSg} {Q : Option oV → (Nat → oC) → Prop} (hk : oKd a = some 1) : oE d 127 79 [l0, l1] (.inr (.inr (.inl a)) :: S) σ Q = oE d 127 82 [l0, l1] (.inr (.inr (.inl (oRf a 6))) :: S) σ Q := pGfR f_127_79 ow_127 fl_1_40 rfl (by decide) hk
theorem f_127_82 : oFet 127 82 = some (.invokevirtual 128, 3) := by decide +kernel
theorem c_127_82 {d : Nat} {l0 l1 : oV} {x0 : oV} {a : Nat} {v : Option oV} {τ : oSg} {S : List oV} {σ : oSg} {Q : Option oV → (Nat → oC) → Prop} (hm : oMi d 128 [.inr (.inr (.inl a)), x0] σ v τ) (hk : oKd a = some 7) (hs : oSmall S = true) : oE d 127 82 [l0, l1] (x0 :: .inr (.inr (.inl a)) :: S) σ Q = oE d 127 85 [l0, l1] (v.toList ++ S) τ Q := pCallV f_127_82 ow_127 lk_1_128 mt_128 rfl rfl rfl hk hs hm
theorem f_127_85 : oFet 127 85 = some (.return_, 1) := by decide +kernel
theorem s_127_85 {d : Nat} {l0 l1 : oV} {σ : oSg} {Q : Option oV → (Nat → oC) → Prop} : oE d 127 85 [l0, l1] [] σ Q = Q none (oBld σ) := oVret f_127_85 rt_127
theorem ow_128 : (oMt 128).2.2.2.2.1 = 7 := by decide +kernel
theorem rt_128 : (oMt 128).2.2.2.1 = none := by decide +kernel
theorem nl_128 : (oMt 128).2.2.1 = 3 := by decide +kernel
theorem f_128_0 : oFet 128 0 = some (.aload_n 0, 1) := by decide +kernel
theorem s_128_0 {d : Nat} {l1 l2 : oV} {a : Nat} {S : List oV} {σ : oSg} {Q : Option oV → (Nat → oC) → Prop} : oE d 128 0 [.inr (.inr (.inl a)), l1, l2] S σ Q = oE d 128 1 [.inr (.inr (.inl a)), l1, l2] (.inr (.inr (.inl a)) :: S) σ Q := pLdN (k := 0) f_128_0 rfl rfl rfl
theorem f_128_1 : oFet 128 1 = some (.invokevirtual 28, 3) := by decide +kernel
theorem c_128_1 {d : Nat} {l0 l1 l2 : oV} {a : Nat} {v : Option oV} {τ : oSg} {S : List oV} {σ : oSg} {Q : Option oV → (Nat → oC) → Prop} (hm : oMi d 92 [.inr (.inr (.inl a))] σ v τ) (hk : oKd a = some 7) (hs : oSmall S = true) : oE d 128 1 [l0, l1, l2] (.inr (.inr (.inl a)) :: S) σ Q = oE d 128 4 [l0, l1, l2] (v.toList ++ S) τ Q := pCallV f_128_1 ow_128 lk_7_28 mt_92 rfl rfl rfl hk hs hm
theorem f_128_4 : oFet 128 4 = some (.pop, 1) := by decide +kernel
theorem s_128_4 {d : Nat} {l0 l1 l2 : oV} {x : Int} {S : List oV} {σ : oSg} {Q : Option oV → (Nat → oC) → Prop} : oE d 128 4 [l0, l1, l2] (.inl x :: S) σ Q = oE d 128 5 [l0, l1, l2] S σ Q := pPop f_128_4 rfl
theorem f_128_5 : oFet 128 5 = some (.iconst 0, 1) := by decide +kernel
theorem s_128_5 {d : Nat} {l0 l1 l2 : oV} {S : List oV} {σ : oSg} {Q : Option oV → (Nat → oC) → Prop} : oE d 128 5 [l0, l1, l2] S σ Q = oE d 128 6 [l0, l1, l2] (.inl (0) :: S) σ Q := pKst f_128_5 (by decide)
theorem f_128_6 : oFet 128 6 = some (.istore_n 2, 1) := by decide +kernel
theorem s_128_6 {d : Nat} {l0 l1 l2 : oV} {x : Int} {S : List oV} {σ : oSg} {Q : Option oV → (Nat → oC) → Prop} (c2 : oCat l2 = 1) (c1 : oCat l1 = 1)  : oE d 128 6 [l0, l1, l2] (.inl x :: S) σ Q = oE d 128 7 [l0, l1, .inl x] S σ Q := pSt (i := 2) f_128_6 rfl rfl (show (2 : Nat) < 3 by decide) (oC1n c1) (oC1n c2) rfl
theorem f_128_7 : oFet 128 7 = some (.iload_n 2, 1) := by decide +kernel
theorem s_128_7 {d : Nat} {l0 l1 : oV} {x : Int} {S : List oV} {σ : oSg} {Q : Option oV → (Nat → oC) → Prop} : oE d 128 7 [l0, l1, .inl x] S σ Q = oE d 128 8 [l0, l1, .inl x] (.inl x :: S) σ Q := pLdN (k := 2) f_128_7 rfl rfl rfl
theorem f_128_8 : oFet 128 8 = some (.aload_n 1, 1) := by decide +kernel
theorem s_128_8 {d : Nat} {l0 l2 : oV} {a : Nat} {S : List oV} {σ : oSg} {Q : Option oV → (Nat → oC) → Prop} : oE d 128 8 [l0, .inr (.inr (.inl a)), l2] S σ Q = oE d 128 9 [l0, .inr (.inr (.inl a)), l2] (.inr (.inr (.inl a)) :: S) σ Q := pLdN (k := 1) f_128_8 rfl rfl rfl
theorem f_128_9 : oFet 128 9 = some (.getfield 24, 3) := by decide +kernel
theorem s_128_9 {d : Nat} {l0 l1 l2 : oV} {a : Nat} {S : List oV} {σ : oSg} {Q : Option oV → (Nat → oC) → Prop} (hk : oKd a = some 7) : oE d 128 9 [l0, l1, l2] (.inr (.inr (.inl a)) :: S) σ Q = oE d 128 12 [l0, l1, l2] (.inl (σ.1 a 0) :: S) σ Q := pGfI f_128_9 ow_128 fl_7_24 rfl (by decide) hk
theorem f_128_12 : oFet 128 12 = some (.if_icmp .ge 24, 3) := by decide +kernel
theorem s_128_12 {d : Nat} {l0 l1 l2 : oV} {x y : Int} {S : List oV} {σ : oSg} {Q : Option oV → (Nat → oC) → Prop} : oE d 128 12 [l0, l1, l2] (.inl y :: .inl x :: S) σ Q = if y ≤ x then oE d 128 36 [l0, l1, l2] S σ Q else oE d 128 15 [l0, l1, l2] S σ Q := oCmpGe f_128_12 (by decide)
theorem f_128_15 : oFet 128 15 = some (.aload_n 0, 1) := by decide +kernel
theorem s_128_15 {d : Nat} {l1 l2 : oV} {a : Nat} {S : List oV} {σ : oSg} {Q : Option oV → (Nat → oC) → Prop} : oE d 128 15 [.inr (.inr (.inl a)), l1, l2] S σ Q = oE d 128 16 [.inr (.inr (.inl a)), l1, l2] (.inr (.inr (.inl a)) :: S) σ Q := pLdN (k := 0) f_128_15 rfl rfl rfl
theorem f_128_16 : oFet 128 16 = some (.aload_n 1, 1) := by decide +kernel
theorem s_128_16 {d : Nat} {l0 l2 : oV} {a : Nat} {S : List oV} {σ : oSg} {Q : Option oV → (Nat → oC) → Prop} : oE d 128 16 [l0, .inr (.inr (.inl a)), l2] S σ Q = oE d 128 17 [l0, .inr (.inr (.inl a)), l2] (.inr (.inr (.inl a)) :: S) σ Q := pLdN (k := 1) f_128_16 rfl rfl rfl
theorem f_128_17 : oFet 128 17 = some (.iload_n 2, 1) := by decide +kernel
theorem s_128_17 {d : Nat} {l0 l1 : oV} {x : Int} {S : List oV} {σ : oSg} {Q : Option oV → (Nat → oC) → Prop} : oE d 128 17 [l0, l1, .inl x] S σ Q = oE d 128 18 [l0, l1, .inl x] (.inl x :: S) σ Q := pLdN (k := 2) f_128_17 rfl rfl rfl
theorem f_128_18 : oFet 128 18 = some (.invokevirtual 32, 3) := by decide +kernel
theorem c_128_18 {d : Nat} {l0 l1 l2 : oV} {x0 : oV} {a : Nat} {v : Option oV} {τ : oSg} {S : List oV} {σ : oSg} {Q : Option oV → (Nat → oC) → Prop} (hm : oMi d 80 [.inr (.inr (.inl a)), x0] σ v τ) (hk : oKd a = some 7) (hs : oSmall S = true) : oE d 128 18 [l0, l1, l2] (x0 :: .inr (.inr (.inl a)) :: S) σ Q = oE d 128 21 [l0, l1, l2] (v.toList ++ S) τ Q := pCallV f_128_18 ow_128 lk_7_32 mt_80 rfl rfl rfl hk hs hm
theorem f_128_21 : oFet 128 21 = some (.aload_n 1, 1) := by decide +kernel
theorem s_128_21 {d : Nat} {l0 l2 : oV} {a : Nat} {S : List oV} {σ : oSg} {Q : Option oV → (Nat → oC) → Prop} : oE d 128 21 [l0, .inr (.inr (.inl a)), l2] S σ Q = oE d 128 22 [l0, .inr (.inr (.inl a)), l2] (.inr (.inr (.inl a)) :: S) σ Q := pLdN (k := 1) f_128_21 rfl rfl rfl
theorem f_128_22 : oFet 128 22 = some (.iload_n 2, 1) := by decide +kernel
theorem s_128_22 {d : Nat} {l0 l1 : oV} {x : Int} {S : List oV} {σ : oSg} {Q : Option oV → (Nat → oC) → Prop} : oE d 128 22 [l0, l1, .inl x] S σ Q = oE d 128 23 [l0, l1, .inl x] (.inl x :: S) σ Q := pLdN (k := 2) f_128_22 rfl rfl rfl
theorem f_128_23 : oFet 128 23 = some (.invokevirtual 36, 3) := by decide +kernel
theorem c_128_23 {d : Nat} {l0 l1 l2 : oV} {x0 : oV} {a : Nat} {v : Option oV} {τ : oSg} {S : List oV} {σ : oSg} {Q : Option oV → (Nat → oC) → Prop} (hm : oMi d 81 [.inr (.inr (.inl a)), x0] σ v τ) (hk : oKd a = some 7) (hs : oSmall S = true) : oE d 128 23 [l0, l1, l2] (x0 :: .inr (.inr (.inl a)) :: S) σ Q = oE d 128 26 [l0, l1, l2] (v.toList ++ S) τ Q := pCallV f_128_23 ow_128 lk_7_36 mt_81 rfl rfl rfl hk hs hm
theorem f_128_26 : oFet 128 26 = some (.invokevirtual 39, 3) := by decide +kernel
theorem c_128_26 {d : Nat} {l0 l1 l2 : oV} {x0 x1 : oV} {a : Nat} {v : Option oV} {τ : oSg} {S : List oV} {σ : oSg} {Q : Option oV → (Nat → oC) → Prop} (hm : oMi d 94 [.inr (.inr (.inl a)), x0, x1] σ v τ) (hk : oKd a = some 7) (hs : oSmall S = true) : oE d 128 26 [l0, l1, l2] (x1 :: x0 :: .inr (.inr (.inl a)) :: S) σ Q = oE d 128 29 [l0, l1, l2] (v.toList ++ S) τ Q := pCallV f_128_26 ow_128 lk_7_39 mt_94 rfl rfl rfl hk hs hm
theorem f_128_29 : oFet 128 29 = some (.pop, 1) := by decide +kernel
theorem s_128_29 {d : Nat} {l0 l1 l2 : oV} {x : Int} {S : List oV} {σ : oSg} {Q : Option oV → (Nat → oC) → Prop} : oE d 128 29 [l0, l1, l2] (.inl x :: S) σ Q = oE d 128 30 [l0, l1, l2] S σ Q := pPop f_128_29 rfl
theorem f_128_30 : oFet 128 30 = some (.iinc 2 1, 3) := by decide +kernel
theorem s_128_30 {d : Nat} {l0 l1 : oV} {x : Int} {S : List oV} {σ : oSg} {Q : Option oV → (Nat → oC) → Prop} (c1 : oCat l1 = 1)  : oE d 128 30 [l0, l1, .inl x] S σ Q = oE d 128 33 [l0, l1, .inl (oAdd x (1))] S σ Q := pInc f_128_30 rfl (show (2 : Nat) < 3 by decide) (oC1n c1) (oC1n (v := .inl x) rfl) rfl
theorem f_128_33 : oFet 128 33 = some (.goto (-26), 3) := by decide +kernel
theorem s_128_33 {d : Nat} {l0 l1 l2 : oV} {S : List oV} {σ : oSg} {Q : Option oV → (Nat → oC) → Prop} : oE d 128 33 [l0, l1, l2] S σ Q = oE d 128 7 [l0, l1, l2] S σ Q := pGoto f_128_33 (by decide)
theorem f_128_36 : oFet 128 36 = some (.return_, 1) := by decide +kernel
theorem s_128_36 {d : Nat} {l0 l1 l2 : oV} {σ : oSg} {Q : Option oV → (Nat → oC) → Prop} : oE d 128 36 [l0, l1, l2] [] σ Q = Q none (oBld σ) := oVret f_128_36 rt_128
theorem ow_129 : (oMt 129).2.2.2.2.1 = 10 := by decide +kernel
theorem rt_129 : (oMt 129).2.2.2.1 = some .int := by decide +kernel
theorem nl_129 : (oMt 129).2.2.1 = 1 := by decide +kernel
theorem f_129_0 : oFet 129 0 = some (.aload_n 0, 1) := by decide +kernel
theorem s_129_0 {d : Nat} {a : Nat} {S : List oV} {σ : oSg} {Q : Option oV → (Nat → oC) → Prop} : oE d 129 0 [.inr (.inr (.inl a))] S σ Q = oE d 129 1 [.inr (.inr (.inl a))] (.inr (.inr (.inl a)) :: S) σ Q := pLdN (k := 0) f_129_0 rfl rfl rfl
theorem f_129_1 : oFet 129 1 = some (.getfield 350, 3) := by decide +kernel
theorem s_129_1 {d : Nat} {l0 : oV} {a : Nat} {S : List oV} {σ : oSg} {Q : Option oV → (Nat → oC) → Prop} (hk : oKd a = some 10) : oE d 129 1 [l0] (.inr (.inr (.inl a)) :: S) σ Q = oE d 129 4 [l0] (.inl (σ.1 a 2) :: S) σ Q := pGfI f_129_1 ow_129 fl_10_350 rfl (by decide) hk
theorem f_129_4 : oFet 129 4 = some (.ifCond .ne 6, 3) := by decide +kernel
theorem s_129_4 {d : Nat} {l0 : oV} {x : Int} {S : List oV} {σ : oSg} {Q : Option oV → (Nat → oC) → Prop} : oE d 129 4 [l0] (.inl x :: S) σ Q = if ¬ x = 0 then oE d 129 10 [l0] S σ Q else oE d 129 7 [l0] S σ Q := oIfNe f_129_4 (by decide)
theorem f_129_7 : oFet 129 7 = some (.bipush (-3), 2) := by decide +kernel
theorem s_129_7 {d : Nat} {l0 : oV} {S : List oV} {σ : oSg} {Q : Option oV → (Nat → oC) → Prop} : oE d 129 7 [l0] S σ Q = oE d 129 9 [l0] (.inl (-3) :: S) σ Q := pBip f_129_7 (by decide)
theorem f_129_9 : oFet 129 9 = some (.ireturn, 1) := by decide +kernel
theorem s_129_9 {d : Nat} {l0 : oV} {x : Int} {σ : oSg} {Q : Option oV → (Nat → oC) → Prop} : oE d 129 9 [l0] [.inl x] σ Q = Q (some (.inl x)) (oBld σ) := oIret f_129_9 rt_129
theorem f_129_10 : oFet 129 10 = some (.aload_n 0, 1) := by decide +kernel
theorem s_129_10 {d : Nat} {a : Nat} {S : List oV} {σ : oSg} {Q : Option oV → (Nat → oC) → Prop} : oE d 129 10 [.inr (.inr (.inl a))] S σ Q = oE d 129 11 [.inr (.inr (.inl a))] (.inr (.inr (.inl a)) :: S) σ Q := pLdN (k := 0) f_129_10 rfl rfl rfl
theorem f_129_11 : oFet 129 11 = some (.getfield 12, 3) := by decide +kernel
theorem s_129_11 {d : Nat} {l0 : oV} {a : Nat} {S : List oV} {σ : oSg} {Q : Option oV → (Nat → oC) → Prop} (hk : oKd a = some 10) : oE d 129 11 [l0] (.inr (.inr (.inl a)) :: S) σ Q = oE d 129 14 [l0] (.inr (.inr (.inl (oRf a 0))) :: S) σ Q := pGfR f_129_11 ow_129 fl_10_12 rfl (by decide) hk
theorem f_129_14 : oFet 129 14 = some (.aload_n 0, 1) := by decide +kernel
theorem s_129_14 {d : Nat} {a : Nat} {S : List oV} {σ : oSg} {Q : Option oV → (Nat → oC) → Prop} : oE d 129 14 [.inr (.inr (.inl a))] S σ Q = oE d 129 15 [.inr (.inr (.inl a))] (.inr (.inr (.inl a)) :: S) σ Q := pLdN (k := 0) f_129_14 rfl rfl rfl
theorem f_129_15 : oFet 129 15 = some (.getfield 18, 3) := by decide +kernel
theorem s_129_15 {d : Nat} {l0 : oV} {a : Nat} {S : List oV} {σ : oSg} {Q : Option oV → (Nat → oC) → Prop} (hk : oKd a = some 10) : oE d 129 15 [l0] (.inr (.inr (.inl a)) :: S) σ Q = oE d 129 18 [l0] (.inr (.inr (.inl (oRf a 1))) :: S) σ Q := pGfR f_129_15 ow_129 fl_10_18 rfl (by decide) hk
theorem f_129_18 : oFet 129 18 = some (.invokevirtual 347, 3) := by decide +kernel
theorem c_129_18 {d : Nat} {l0 : oV} {x0 : oV} {a : Nat} {v : Option oV} {τ : oSg} {S : List oV} {σ : oSg} {Q : Option oV → (Nat → oC) → Prop} (hm : oMi d 127 [.inr (.inr (.inl a)), x0] σ v τ) (hk : oKd a = some 1) (hs : oSmall S = true) : oE d 129 18 [l0] (x0 :: .inr (.inr (.inl a)) :: S) σ Q = oE d 129 21 [l0] (v.toList ++ S) τ Q := pCallV f_129_18 ow_129 lk_10_347 mt_127 rfl rfl rfl hk hs hm
theorem f_129_21 : oFet 129 21 = some (.aload_n 0, 1) := by decide +kernel
theorem s_129_21 {d : Nat} {a : Nat} {S : List oV} {σ : oSg} {Q : Option oV → (Nat → oC) → Prop} : oE d 129 21 [.inr (.inr (.inl a))] S σ Q = oE d 129 22 [.inr (.inr (.inl a))] (.inr (.inr (.inl a)) :: S) σ Q := pLdN (k := 0) f_129_21 rfl rfl rfl
theorem f_129_22 : oFet 129 22 = some (.getfield 12, 3) := by decide +kernel
theorem s_129_22 {d : Nat} {l0 : oV} {a : Nat} {S : List oV} {σ : oSg} {Q : Option oV → (Nat → oC) → Prop} (hk : oKd a = some 10) : oE d 129 22 [l0] (.inr (.inr (.inl a)) :: S) σ Q = oE d 129 25 [l0] (.inr (.inr (.inl (oRf a 0))) :: S) σ Q := pGfR f_129_22 ow_129 fl_10_12 rfl (by decide) hk
theorem f_129_25 : oFet 129 25 = some (.getfield 73, 3) := by decide +kernel
theorem s_129_25 {d : Nat} {l0 : oV} {a : Nat} {S : List oV} {σ : oSg} {Q : Option oV → (Nat → oC) → Prop} (hk : oKd a = some 1) : oE d 129 25 [l0] (.inr (.inr (.inl a)) :: S) σ Q = oE d 129 28 [l0] (.inr (.inr (.inl (oRf a 0))) :: S) σ Q := pGfR f_129_25 ow_129 fl_10_73 rfl (by decide) hk
theorem f_129_28 : oFet 129 28 = some (.getfield 76, 3) := by decide +kernel
theorem s_129_28 {d : Nat} {l0 : oV} {a : Nat} {S : List oV} {σ : oSg} {Q : Option oV → (Nat → oC) → Prop} (hk : oKd a = some 4) : oE d 129 28 [l0] (.inr (.inr (.inl a)) :: S) σ Q = oE d 129 31 [l0] (.inl (σ.1 a 0) :: S) σ Q := pGfI f_129_28 ow_129 fl_10_76 rfl (by decide) hk
theorem f_129_31 : oFet 129 31 = some (.ireturn, 1) := by decide +kernel
theorem s_129_31 {d : Nat} {l0 : oV} {x : Int} {σ : oSg} {Q : Option oV → (Nat → oC) → Prop} : oE d 129 31 [l0] [.inl x] σ Q = Q (some (.inl x)) (oBld σ) := oIret f_129_31 rt_129
theorem ow_130 : (oMt 130).2.2.2.2.1 = 10 := by decide +kernel
theorem rt_130 : (oMt 130).2.2.2.1 = some .int := by decide +kernel
theorem nl_130 : (oMt 130).2.2.1 = 2 := by decide +kernel
theorem f_130_0 : oFet 130 0 = some (.iload_n 1, 1) := by decide +kernel
theorem s_130_0 {d : Nat} {l0 : oV} {x : Int} {S : List oV} {σ : oSg} {Q : Option oV → (Nat → oC) → Prop} : oE d 130 0 [l0, .inl x] S σ Q = oE d 130 1 [l0, .inl x] (.inl x :: S) σ Q := pLdN (k := 1) f_130_0 rfl rfl rfl
theorem f_130_1 : oFet 130 1 = some (.tableswitch 87 0 4 #[35, 46, 57, 68, 79], 35) := by decide +kernel
theorem s_130_1_0 {d : Nat} {l0 l1 : oV} {S : List oV} {σ : oSg} {Q : Option oV → (Nat → oC) → Prop} : oE d 130 1 [l0, l1] (.inl (0) :: S) σ Q = oE d 130 36 [l0, l1] S σ Q := oTabIn f_130_1 (by decide) rfl (by decide)
theorem s_130_1_1 {d : Nat} {l0 l1 : oV} {S : List oV} {σ : oSg} {Q : Option oV → (Nat → oC) → Prop} : oE d 130 1 [l0, l1] (.inl (1) :: S) σ Q = oE d 130 47 [l0, l1] S σ Q := oTabIn f_130_1 (by decide) rfl (by decide)
theorem s_130_1_2 {d : Nat} {l0 l1 : oV} {S : List oV} {σ : oSg} {Q : Option oV → (Nat → oC) → Prop} : oE d 130 1 [l0, l1] (.inl (2) :: S) σ Q = oE d 130 58 [l0, l1] S σ Q := oTabIn f_130_1 (by decide) rfl (by decide)
theorem s_130_1_3 {d : Nat} {l0 l1 : oV} {S : List oV} {σ : oSg} {Q : Option oV → (Nat → oC) → Prop} : oE d 130 1 [l0, l1] (.inl (3) :: S) σ Q = oE d 130 69 [l0, l1] S σ Q := oTabIn f_130_1 (by decide) rfl (by decide)
theorem s_130_1_4 {d : Nat} {l0 l1 : oV} {S : List oV} {σ : oSg} {Q : Option oV → (Nat → oC) → Prop} : oE d 130 1 [l0, l1] (.inl (4) :: S) σ Q = oE d 130 80 [l0, l1] S σ Q := oTabIn f_130_1 (by decide) rfl (by decide)
theorem s_130_1_d {d : Nat} {l0 l1 : oV} {x : Int} {S : List oV} {σ : oSg} {Q : Option oV → (Nat → oC) → Prop} (hx : x < 0 ∨ 4 < x) : oE d 130 1 [l0, l1] (.inl x :: S) σ Q = oE d 130 88 [l0, l1] S σ Q := oTabOut f_130_1 hx (by decide)
theorem f_130_36 : oFet 130 36 = some (.aload_n 0, 1) := by decide +kernel
theorem s_130_36 {d : Nat} {l1 : oV} {a : Nat} {S : List oV} {σ : oSg} {Q : Option oV → (Nat → oC) → Prop} : oE d 130 36 [.inr (.inr (.inl a)), l1] S σ Q = oE d 130 37 [.inr (.inr (.inl a)), l1] (.inr (.inr (.inl a)) :: S) σ Q := pLdN (k := 0) f_130_36 rfl rfl rfl
theorem f_130_37 : oFet 130 37 = some (.getfield 12, 3) := by decide +kernel
theorem s_130_37 {d : Nat} {l0 l1 : oV} {a : Nat} {S : List oV} {σ : oSg} {Q : Option oV → (Nat → oC) → Prop} (hk : oKd a = some 10) : oE d 130 37 [l0, l1] (.inr (.inr (.inl a)) :: S) σ Q = oE d 130 40 [l0, l1] (.inr (.inr (.inl (oRf a 0))) :: S) σ Q := pGfR f_130_37 ow_130 fl_10_12 rfl (by decide) hk
theorem f_130_40 : oFet 130 40 = some (.getfield 265, 3) := by decide +kernel
theorem s_130_40 {d : Nat} {l0 l1 : oV} {a : Nat} {S : List oV} {σ : oSg} {Q : Option oV → (Nat → oC) → Prop} (hk : oKd a = some 1) : oE d 130 40 [l0, l1] (.inr (.inr (.inl a)) :: S) σ Q = oE d 130 43 [l0, l1] (.inr (.inr (.inl (oRf a 3))) :: S) σ Q := pGfR f_130_40 ow_130 fl_10_265 rfl (by decide) hk
theorem f_130_43 : oFet 130 43 = some (.getfield 316, 3) := by decide +kernel
theorem s_130_43 {d : Nat} {l0 l1 : oV} {a : Nat} {S : List oV} {σ : oSg} {Q : Option oV → (Nat → oC) → Prop} (hk : oKd a = some 7) : oE d 130 43 [l0, l1] (.inr (.inr (.inl a)) :: S) σ Q = oE d 130 46 [l0, l1] (.inl (σ.1 a 0) :: S) σ Q := pGfI f_130_43 ow_130 fl_10_316 rfl (by decide) hk
theorem f_130_46 : oFet 130 46 = some (.ireturn, 1) := by decide +kernel
theorem s_130_46 {d : Nat} {l0 l1 : oV} {x : Int} {σ : oSg} {Q : Option oV → (Nat → oC) → Prop} : oE d 130 46 [l0, l1] [.inl x] σ Q = Q (some (.inl x)) (oBld σ) := oIret f_130_46 rt_130
theorem f_130_47 : oFet 130 47 = some (.aload_n 0, 1) := by decide +kernel
theorem s_130_47 {d : Nat} {l1 : oV} {a : Nat} {S : List oV} {σ : oSg} {Q : Option oV → (Nat → oC) → Prop} : oE d 130 47 [.inr (.inr (.inl a)), l1] S σ Q = oE d 130 48 [.inr (.inr (.inl a)), l1] (.inr (.inr (.inl a)) :: S) σ Q := pLdN (k := 0) f_130_47 rfl rfl rfl
theorem f_130_48 : oFet 130 48 = some (.getfield 12, 3) := by decide +kernel
theorem s_130_48 {d : Nat} {l0 l1 : oV} {a : Nat} {S : List oV} {σ : oSg} {Q : Option oV → (Nat → oC) → Prop} (hk : oKd a = some 10) : oE d 130 48 [l0, l1] (.inr (.inr (.inl a)) :: S) σ Q = oE d 130 51 [l0, l1] (.inr (.inr (.inl (oRf a 0))) :: S) σ Q := pGfR f_130_48 ow_130 fl_10_12 rfl (by decide) hk
theorem f_130_51 : oFet 130 51 = some (.getfield 293, 3) := by decide +kernel
theorem s_130_51 {d : Nat} {l0 l1 : oV} {a : Nat} {S : List oV} {σ : oSg} {Q : Option oV → (Nat → oC) → Prop} (hk : oKd a = some 1) : oE d 130 51 [l0, l1] (.inr (.inr (.inl a)) :: S) σ Q = oE d 130 54 [l0, l1] (.inr (.inr (.inl (oRf a 4))) :: S) σ Q := pGfR f_130_51 ow_130 fl_10_293 rfl (by decide) hk
theorem f_130_54 : oFet 130 54 = some (.getfield 316, 3) := by decide +kernel
theorem s_130_54 {d : Nat} {l0 l1 : oV} {a : Nat} {S : List oV} {σ : oSg} {Q : Option oV → (Nat → oC) → Prop} (hk : oKd a = some 7) : oE d 130 54 [l0, l1] (.inr (.inr (.inl a)) :: S) σ Q = oE d 130 57 [l0, l1] (.inl (σ.1 a 0) :: S) σ Q := pGfI f_130_54 ow_130 fl_10_316 rfl (by decide) hk
theorem f_130_57 : oFet 130 57 = some (.ireturn, 1) := by decide +kernel
theorem s_130_57 {d : Nat} {l0 l1 : oV} {x : Int} {σ : oSg} {Q : Option oV → (Nat → oC) → Prop} : oE d 130 57 [l0, l1] [.inl x] σ Q = Q (some (.inl x)) (oBld σ) := oIret f_130_57 rt_130
theorem f_130_58 : oFet 130 58 = some (.aload_n 0, 1) := by decide +kernel
theorem s_130_58 {d : Nat} {l1 : oV} {a : Nat} {S : List oV} {σ : oSg} {Q : Option oV → (Nat → oC) → Prop} : oE d 130 58 [.inr (.inr (.inl a)), l1] S σ Q = oE d 130 59 [.inr (.inr (.inl a)), l1] (.inr (.inr (.inl a)) :: S) σ Q := pLdN (k := 0) f_130_58 rfl rfl rfl
theorem f_130_59 : oFet 130 59 = some (.getfield 12, 3) := by decide +kernel
theorem s_130_59 {d : Nat} {l0 l1 : oV} {a : Nat} {S : List oV} {σ : oSg} {Q : Option oV → (Nat → oC) → Prop} (hk : oKd a = some 10) : oE d 130 59 [l0, l1] (.inr (.inr (.inl a)) :: S) σ Q = oE d 130 62 [l0, l1] (.inr (.inr (.inl (oRf a 0))) :: S) σ Q := pGfR f_130_59 ow_130 fl_10_12 rfl (by decide) hk
theorem f_130_62 : oFet 130 62 = some (.getfield 313, 3) := by decide +kernel
theorem s_130_62 {d : Nat} {l0 l1 : oV} {a : Nat} {S : List oV} {σ : oSg} {Q : Option oV → (Nat → oC) → Prop} (hk : oKd a = some 1) : oE d 130 62 [l0, l1] (.inr (.inr (.inl a)) :: S) σ Q = oE d 130 65 [l0, l1] (.inr (.inr (.inl (oRf a 5))) :: S) σ Q := pGfR f_130_62 ow_130 fl_10_313 rfl (by decide) hk
theorem f_130_65 : oFet 130 65 = some (.getfield 316, 3) := by decide +kernel
theorem s_130_65 {d : Nat} {l0 l1 : oV} {a : Nat} {S : List oV} {σ : oSg} {Q : Option oV → (Nat → oC) → Prop} (hk : oKd a = some 7) : oE d 130 65 [l0, l1] (.inr (.inr (.inl a)) :: S) σ Q = oE d 130 68 [l0, l1] (.inl (σ.1 a 0) :: S) σ Q := pGfI f_130_65 ow_130 fl_10_316 rfl (by decide) hk
theorem f_130_68 : oFet 130 68 = some (.ireturn, 1) := by decide +kernel
theorem s_130_68 {d : Nat} {l0 l1 : oV} {x : Int} {σ : oSg} {Q : Option oV → (Nat → oC) → Prop} : oE d 130 68 [l0, l1] [.inl x] σ Q = Q (some (.inl x)) (oBld σ) := oIret f_130_68 rt_130
theorem f_130_69 : oFet 130 69 = some (.aload_n 0, 1) := by decide +kernel
theorem s_130_69 {d : Nat} {l1 : oV} {a : Nat} {S : List oV} {σ : oSg} {Q : Option oV → (Nat → oC) → Prop} : oE d 130 69 [.inr (.inr (.inl a)), l1] S σ Q = oE d 130 70 [.inr (.inr (.inl a)), l1] (.inr (.inr (.inl a)) :: S) σ Q := pLdN (k := 0) f_130_69 rfl rfl rfl
theorem f_130_70 : oFet 130 70 = some (.getfield 12, 3) := by decide +kernel
theorem s_130_70 {d : Nat} {l0 l1 : oV} {a : Nat} {S : List oV} {σ : oSg} {Q : Option oV → (Nat → oC) → Prop} (hk : oKd a = some 10) : oE d 130 70 [l0, l1] (.inr (.inr (.inl a)) :: S) σ Q = oE d 130 73 [l0, l1] (.inr (.inr (.inl (oRf a 0))) :: S) σ Q := pGfR f_130_70 ow_130 fl_10_12 rfl (by decide) hk
theorem f_130_73 : oFet 130 73 = some (.getfield 330, 3) := by decide +kernel
theorem s_130_73 {d : Nat} {l0 l1 : oV} {a : Nat} {S : List oV} {σ : oSg} {Q : Option oV → (Nat → oC) → Prop} (hk : oKd a = some 1) : oE d 130 73 [l0, l1] (.inr (.inr (.inl a)) :: S) σ Q = oE d 130 76 [l0, l1] (.inr (.inr (.inl (oRf a 6))) :: S) σ Q := pGfR f_130_73 ow_130 fl_10_330 rfl (by decide) hk
theorem f_130_76 : oFet 130 76 = some (.getfield 316, 3) := by decide +kernel
theorem s_130_76 {d : Nat} {l0 l1 : oV} {a : Nat} {S : List oV} {σ : oSg} {Q : Option oV → (Nat → oC) → Prop} (hk : oKd a = some 7) : oE d 130 76 [l0, l1] (.inr (.inr (.inl a)) :: S) σ Q = oE d 130 79 [l0, l1] (.inl (σ.1 a 0) :: S) σ Q := pGfI f_130_76 ow_130 fl_10_316 rfl (by decide) hk
theorem f_130_79 : oFet 130 79 = some (.ireturn, 1) := by decide +kernel
theorem s_130_79 {d : Nat} {l0 l1 : oV} {x : Int} {σ : oSg} {Q : Option oV → (Nat → oC) → Prop} : oE d 130 79 [l0, l1] [.inl x] σ Q = Q (some (.inl x)) (oBld σ) := oIret f_130_79 rt_130
theorem f_130_80 : oFet 130 80 = some (.aload_n 0, 1) := by decide +kernel
theorem s_130_80 {d : Nat} {l1 : oV} {a : Nat} {S : List oV} {σ : oSg} {Q : Option oV → (Nat → oC) → Prop} : oE d 130 80 [.inr (.inr (.inl a)), l1] S σ Q = oE d 130 81 [.inr (.inr (.inl a)), l1] (.inr (.inr (.inl a)) :: S) σ Q := pLdN (k := 0) f_130_80 rfl rfl rfl
theorem f_130_81 : oFet 130 81 = some (.getfield 24, 3) := by decide +kernel
theorem s_130_81 {d : Nat} {l0 l1 : oV} {a : Nat} {S : List oV} {σ : oSg} {Q : Option oV → (Nat → oC) → Prop} (hk : oKd a = some 10) : oE d 130 81 [l0, l1] (.inr (.inr (.inl a)) :: S) σ Q = oE d 130 84 [l0, l1] (.inr (.inr (.inl (oRf a 3))) :: S) σ Q := pGfR f_130_81 ow_130 fl_10_24 rfl (by decide) hk
theorem f_130_84 : oFet 130 84 = some (.getfield 145, 3) := by decide +kernel
theorem s_130_84 {d : Nat} {l0 l1 : oV} {a : Nat} {S : List oV} {σ : oSg} {Q : Option oV → (Nat → oC) → Prop} (hk : oKd a = some 9) : oE d 130 84 [l0, l1] (.inr (.inr (.inl a)) :: S) σ Q = oE d 130 87 [l0, l1] (.inl (σ.1 a 0) :: S) σ Q := pGfI f_130_84 ow_130 fl_10_145 rfl (by decide) hk
theorem f_130_87 : oFet 130 87 = some (.ireturn, 1) := by decide +kernel
theorem s_130_87 {d : Nat} {l0 l1 : oV} {x : Int} {σ : oSg} {Q : Option oV → (Nat → oC) → Prop} : oE d 130 87 [l0, l1] [.inl x] σ Q = Q (some (.inl x)) (oBld σ) := oIret f_130_87 rt_130
theorem f_130_88 : oFet 130 88 = some (.bipush (-2), 2) := by decide +kernel
theorem s_130_88 {d : Nat} {l0 l1 : oV} {S : List oV} {σ : oSg} {Q : Option oV → (Nat → oC) → Prop} : oE d 130 88 [l0, l1] S σ Q = oE d 130 90 [l0, l1] (.inl (-2) :: S) σ Q := pBip f_130_88 (by decide)
theorem f_130_90 : oFet 130 90 = some (.ireturn, 1) := by decide +kernel
theorem s_130_90 {d : Nat} {l0 l1 : oV} {x : Int} {σ : oSg} {Q : Option oV → (Nat → oC) → Prop} : oE d 130 90 [l0, l1] [.inl x] σ Q = Q (some (.inl x)) (oBld σ) := oIret f_130_90 rt_130
theorem ow_131 : (oMt 131).2.2.2.2.1 = 10 := by decide +kernel
theorem rt_131 : (oMt 131).2.2.2.1 = some .int := by decide +kernel
theorem nl_131 : (oMt 131).2.2.1 = 4 := by decide +kernel
theorem f_131_0 : oFet 131 0 = some (.aload_n 0, 1) := by decide +kernel
theorem s_131_0 {d : Nat} {l1 l2 l3 : oV} {a : Nat} {S : List oV} {σ : oSg} {Q : Option oV → (Nat → oC) → Prop} : oE d 131 0 [.inr (.inr (.inl a)), l1, l2, l3] S σ Q = oE d 131 1 [.inr (.inr (.inl a)), l1, l2, l3] (.inr (.inr (.inl a)) :: S) σ Q := pLdN (k := 0) f_131_0 rfl rfl rfl
theorem f_131_1 : oFet 131 1 = some (.getfield 31, 3) := by decide +kernel
theorem s_131_1 {d : Nat} {l0 l1 l2 l3 : oV} {a : Nat} {S : List oV} {σ : oSg} {Q : Option oV → (Nat → oC) → Prop} (hk : oKd a = some 10) : oE d 131 1 [l0, l1, l2, l3] (.inr (.inr (.inl a)) :: S) σ Q = oE d 131 4 [l0, l1, l2, l3] (.inr (.inr (.inl (oRf a 4))) :: S) σ Q := pGfR f_131_1 ow_131 fl_10_31 rfl (by decide) hk
theorem f_131_4 : oFet 131 4 = some (.iload_n 1, 1) := by decide +kernel
theorem s_131_4 {d : Nat} {l0 l2 l3 : oV} {x : Int} {S : List oV} {σ : oSg} {Q : Option oV → (Nat → oC) → Prop} : oE d 131 4 [l0, .inl x, l2, l3] S σ Q = oE d 131 5 [l0, .inl x, l2, l3] (.inl x :: S) σ Q := pLdN (k := 1) f_131_4 rfl rfl rfl
theorem f_131_5 : oFet 131 5 = some (.invokevirtual 333, 3) := by decide +kernel
theorem c_131_5 {d : Nat} {l0 l1 l2 l3 : oV} {x0 : oV} {a : Nat} {v : Option oV} {τ : oSg} {S : List oV} {σ : oSg} {Q : Option oV → (Nat → oC) → Prop} (hm : oMi d 120 [.inr (.inr (.inl a)), x0] σ v τ) (hk : oKd a = some 8) (hs : oSmall S = true) : oE d 131 5 [l0, l1, l2, l3] (x0 :: .inr (.inr (.inl a)) :: S) σ Q = oE d 131 8 [l0, l1, l2, l3] (v.toList ++ S) τ Q := pCallV f_131_5 ow_131 lk_10_333 mt_120 rfl rfl rfl hk hs hm
theorem f_131_8 : oFet 131 8 = some (.ifCond .ne 5, 3) := by decide +kernel
theorem s_131_8 {d : Nat} {l0 l1 l2 l3 : oV} {x : Int} {S : List oV} {σ : oSg} {Q : Option oV → (Nat → oC) → Prop} : oE d 131 8 [l0, l1, l2, l3] (.inl x :: S) σ Q = if ¬ x = 0 then oE d 131 13 [l0, l1, l2, l3] S σ Q else oE d 131 11 [l0, l1, l2, l3] S σ Q := oIfNe f_131_8 (by decide)
theorem f_131_11 : oFet 131 11 = some (.iconst (-1), 1) := by decide +kernel
theorem s_131_11 {d : Nat} {l0 l1 l2 l3 : oV} {S : List oV} {σ : oSg} {Q : Option oV → (Nat → oC) → Prop} : oE d 131 11 [l0, l1, l2, l3] S σ Q = oE d 131 12 [l0, l1, l2, l3] (.inl (-1) :: S) σ Q := pKst f_131_11 (by decide)
theorem f_131_12 : oFet 131 12 = some (.ireturn, 1) := by decide +kernel
theorem s_131_12 {d : Nat} {l0 l1 l2 l3 : oV} {x : Int} {σ : oSg} {Q : Option oV → (Nat → oC) → Prop} : oE d 131 12 [l0, l1, l2, l3] [.inl x] σ Q = Q (some (.inl x)) (oBld σ) := oIret f_131_12 rt_131
theorem f_131_13 : oFet 131 13 = some (.iload_n 2, 1) := by decide +kernel
theorem s_131_13 {d : Nat} {l0 l1 l3 : oV} {x : Int} {S : List oV} {σ : oSg} {Q : Option oV → (Nat → oC) → Prop} : oE d 131 13 [l0, l1, .inl x, l3] S σ Q = oE d 131 14 [l0, l1, .inl x, l3] (.inl x :: S) σ Q := pLdN (k := 2) f_131_13 rfl rfl rfl
theorem f_131_14 : oFet 131 14 = some (.iconst (-1), 1) := by decide +kernel
theorem s_131_14 {d : Nat} {l0 l1 l2 l3 : oV} {S : List oV} {σ : oSg} {Q : Option oV → (Nat → oC) → Prop} : oE d 131 14 [l0, l1, l2, l3] S σ Q = oE d 131 15 [l0, l1, l2, l3] (.inl (-1) :: S) σ Q := pKst f_131_14 (by decide)
theorem f_131_15 : oFet 131 15 = some (.if_icmp .lt 8, 3) := by decide +kernel
theorem s_131_15 {d : Nat} {l0 l1 l2 l3 : oV} {x y : Int} {S : List oV} {σ : oSg} {Q : Option oV → (Nat → oC) → Prop} : oE d 131 15 [l0, l1, l2, l3] (.inl y :: .inl x :: S) σ Q = if x < y then oE d 131 23 [l0, l1, l2, l3] S σ Q else oE d 131 18 [l0, l1, l2, l3] S σ Q := oCmpLt f_131_15 (by decide)
theorem f_131_18 : oFet 131 18 = some (.iload_n 2, 1) := by decide +kernel
theorem s_131_18 {d : Nat} {l0 l1 l3 : oV} {x : Int} {S : List oV} {σ : oSg} {Q : Option oV → (Nat → oC) → Prop} : oE d 131 18 [l0, l1, .inl x, l3] S σ Q = oE d 131 19 [l0, l1, .inl x, l3] (.inl x :: S) σ Q := pLdN (k := 2) f_131_18 rfl rfl rfl
theorem f_131_19 : oFet 131 19 = some (.iconst 4, 1) := by decide +kernel
theorem s_131_19 {d : Nat} {l0 l1 l2 l3 : oV} {S : List oV} {σ : oSg} {Q : Option oV → (Nat → oC) → Prop} : oE d 131 19 [l0, l1, l2, l3] S σ Q = oE d 131 20 [l0, l1, l2, l3] (.inl (4) :: S) σ Q := pKst f_131_19 (by decide)
theorem f_131_20 : oFet 131 20 = some (.if_icmp .le 6, 3) := by decide +kernel
theorem s_131_20 {d : Nat} {l0 l1 l2 l3 : oV} {x y : Int} {S : List oV} {σ : oSg} {Q : Option oV → (Nat → oC) → Prop} : oE d 131 20 [l0, l1, l2, l3] (.inl y :: .inl x :: S) σ Q = if x ≤ y then oE d 131 26 [l0, l1, l2, l3] S σ Q else oE d 131 23 [l0, l1, l2, l3] S σ Q := oCmpLe f_131_20 (by decide)
theorem f_131_23 : oFet 131 23 = some (.bipush (-2), 2) := by decide +kernel
theorem s_131_23 {d : Nat} {l0 l1 l2 l3 : oV} {S : List oV} {σ : oSg} {Q : Option oV → (Nat → oC) → Prop} : oE d 131 23 [l0, l1, l2, l3] S σ Q = oE d 131 25 [l0, l1, l2, l3] (.inl (-2) :: S) σ Q := pBip f_131_23 (by decide)
theorem f_131_25 : oFet 131 25 = some (.ireturn, 1) := by decide +kernel
theorem s_131_25 {d : Nat} {l0 l1 l2 l3 : oV} {x : Int} {σ : oSg} {Q : Option oV → (Nat → oC) → Prop} : oE d 131 25 [l0, l1, l2, l3] [.inl x] σ Q = Q (some (.inl x)) (oBld σ) := oIret f_131_25 rt_131
theorem f_131_26 : oFet 131 26 = some (.iload_n 2, 1) := by decide +kernel
theorem s_131_26 {d : Nat} {l0 l1 l3 : oV} {x : Int} {S : List oV} {σ : oSg} {Q : Option oV → (Nat → oC) → Prop} : oE d 131 26 [l0, l1, .inl x, l3] S σ Q = oE d 131 27 [l0, l1, .inl x, l3] (.inl x :: S) σ Q := pLdN (k := 2) f_131_26 rfl rfl rfl
theorem f_131_27 : oFet 131 27 = some (.iconst (-1), 1) := by decide +kernel
theorem s_131_27 {d : Nat} {l0 l1 l2 l3 : oV} {S : List oV} {σ : oSg} {Q : Option oV → (Nat → oC) → Prop} : oE d 131 27 [l0, l1, l2, l3] S σ Q = oE d 131 28 [l0, l1, l2, l3] (.inl (-1) :: S) σ Q := pKst f_131_27 (by decide)
theorem f_131_28 : oFet 131 28 = some (.if_icmp .ne 15, 3) := by decide +kernel
theorem s_131_28 {d : Nat} {l0 l1 l2 l3 : oV} {x y : Int} {S : List oV} {σ : oSg} {Q : Option oV → (Nat → oC) → Prop} : oE d 131 28 [l0, l1, l2, l3] (.inl y :: .inl x :: S) σ Q = if ¬ x = y then oE d 131 43 [l0, l1, l2, l3] S σ Q else oE d 131 31 [l0, l1, l2, l3] S σ Q := oCmpNe f_131_28 (by decide)
theorem f_131_31 : oFet 131 31 = some (.aload_n 0, 1) := by decide +kernel
theorem s_131_31 {d : Nat} {l1 l2 l3 : oV} {a : Nat} {S : List oV} {σ : oSg} {Q : Option oV → (Nat → oC) → Prop} : oE d 131 31 [.inr (.inr (.inl a)), l1, l2, l3] S σ Q = oE d 131 32 [.inr (.inr (.inl a)), l1, l2, l3] (.inr (.inr (.inl a)) :: S) σ Q := pLdN (k := 0) f_131_31 rfl rfl rfl
theorem f_131_32 : oFet 131 32 = some (.getfield 31, 3) := by decide +kernel
theorem s_131_32 {d : Nat} {l0 l1 l2 l3 : oV} {a : Nat} {S : List oV} {σ : oSg} {Q : Option oV → (Nat → oC) → Prop} (hk : oKd a = some 10) : oE d 131 32 [l0, l1, l2, l3] (.inr (.inr (.inl a)) :: S) σ Q = oE d 131 35 [l0, l1, l2, l3] (.inr (.inr (.inl (oRf a 4))) :: S) σ Q := pGfR f_131_32 ow_131 fl_10_31 rfl (by decide) hk
theorem f_131_35 : oFet 131 35 = some (.iload_n 1, 1) := by decide +kernel
theorem s_131_35 {d : Nat} {l0 l2 l3 : oV} {x : Int} {S : List oV} {σ : oSg} {Q : Option oV → (Nat → oC) → Prop} : oE d 131 35 [l0, .inl x, l2, l3] S σ Q = oE d 131 36 [l0, .inl x, l2, l3] (.inl x :: S) σ Q := pLdN (k := 1) f_131_35 rfl rfl rfl
theorem f_131_36 : oFet 131 36 = some (.iconst (-1), 1) := by decide +kernel
theorem s_131_36 {d : Nat} {l0 l1 l2 l3 : oV} {S : List oV} {σ : oSg} {Q : Option oV → (Nat → oC) → Prop} : oE d 131 36 [l0, l1, l2, l3] S σ Q = oE d 131 37 [l0, l1, l2, l3] (.inl (-1) :: S) σ Q := pKst f_131_36 (by decide)
theorem f_131_37 : oFet 131 37 = some (.iconst 0, 1) := by decide +kernel
theorem s_131_37 {d : Nat} {l0 l1 l2 l3 : oV} {S : List oV} {σ : oSg} {Q : Option oV → (Nat → oC) → Prop} : oE d 131 37 [l0, l1, l2, l3] S σ Q = oE d 131 38 [l0, l1, l2, l3] (.inl (0) :: S) σ Q := pKst f_131_37 (by decide)
theorem f_131_38 : oFet 131 38 = some (.invokevirtual 354, 3) := by decide +kernel
theorem c_131_38 {d : Nat} {l0 l1 l2 l3 : oV} {x0 x1 x2 : oV} {a : Nat} {v : Option oV} {τ : oSg} {S : List oV} {σ : oSg} {Q : Option oV → (Nat → oC) → Prop} (hm : oMi d 132 [.inr (.inr (.inl a)), x0, x1, x2] σ v τ) (hk : oKd a = some 8) (hs : oSmall S = true) : oE d 131 38 [l0, l1, l2, l3] (x2 :: x1 :: x0 :: .inr (.inr (.inl a)) :: S) σ Q = oE d 131 41 [l0, l1, l2, l3] (v.toList ++ S) τ Q := pCallV f_131_38 ow_131 lk_10_354 mt_132 rfl rfl rfl hk hs hm
theorem f_131_41 : oFet 131 41 = some (.iconst 1, 1) := by decide +kernel
theorem s_131_41 {d : Nat} {l0 l1 l2 l3 : oV} {S : List oV} {σ : oSg} {Q : Option oV → (Nat → oC) → Prop} : oE d 131 41 [l0, l1, l2, l3] S σ Q = oE d 131 42 [l0, l1, l2, l3] (.inl (1) :: S) σ Q := pKst f_131_41 (by decide)
theorem f_131_42 : oFet 131 42 = some (.ireturn, 1) := by decide +kernel
theorem s_131_42 {d : Nat} {l0 l1 l2 l3 : oV} {x : Int} {σ : oSg} {Q : Option oV → (Nat → oC) → Prop} : oE d 131 42 [l0, l1, l2, l3] [.inl x] σ Q = Q (some (.inl x)) (oBld σ) := oIret f_131_42 rt_131
theorem f_131_43 : oFet 131 43 = some (.iload_n 3, 1) := by decide +kernel
theorem s_131_43 {d : Nat} {l0 l1 l2 : oV} {x : Int} {S : List oV} {σ : oSg} {Q : Option oV → (Nat → oC) → Prop} : oE d 131 43 [l0, l1, l2, .inl x] S σ Q = oE d 131 44 [l0, l1, l2, .inl x] (.inl x :: S) σ Q := pLdN (k := 3) f_131_43 rfl rfl rfl
theorem f_131_44 : oFet 131 44 = some (.bipush 60, 2) := by decide +kernel
theorem s_131_44 {d : Nat} {l0 l1 l2 l3 : oV} {S : List oV} {σ : oSg} {Q : Option oV → (Nat → oC) → Prop} : oE d 131 44 [l0, l1, l2, l3] S σ Q = oE d 131 46 [l0, l1, l2, l3] (.inl (60) :: S) σ Q := pBip f_131_44 (by decide)
theorem f_131_46 : oFet 131 46 = some (.if_icmp .le 6, 3) := by decide +kernel
theorem s_131_46 {d : Nat} {l0 l1 l2 l3 : oV} {x y : Int} {S : List oV} {σ : oSg} {Q : Option oV → (Nat → oC) → Prop} : oE d 131 46 [l0, l1, l2, l3] (.inl y :: .inl x :: S) σ Q = if x ≤ y then oE d 131 52 [l0, l1, l2, l3] S σ Q else oE d 131 49 [l0, l1, l2, l3] S σ Q := oCmpLe f_131_46 (by decide)
theorem f_131_49 : oFet 131 49 = some (.bipush (-2), 2) := by decide +kernel
theorem s_131_49 {d : Nat} {l0 l1 l2 l3 : oV} {S : List oV} {σ : oSg} {Q : Option oV → (Nat → oC) → Prop} : oE d 131 49 [l0, l1, l2, l3] S σ Q = oE d 131 51 [l0, l1, l2, l3] (.inl (-2) :: S) σ Q := pBip f_131_49 (by decide)
theorem f_131_51 : oFet 131 51 = some (.ireturn, 1) := by decide +kernel
theorem s_131_51 {d : Nat} {l0 l1 l2 l3 : oV} {x : Int} {σ : oSg} {Q : Option oV → (Nat → oC) → Prop} : oE d 131 51 [l0, l1, l2, l3] [.inl x] σ Q = Q (some (.inl x)) (oBld σ) := oIret f_131_51 rt_131
theorem f_131_52 : oFet 131 52 = some (.iload_n 3, 1) := by decide +kernel
theorem s_131_52 {d : Nat} {l0 l1 l2 : oV} {x : Int} {S : List oV} {σ : oSg} {Q : Option oV → (Nat → oC) → Prop} : oE d 131 52 [l0, l1, l2, .inl x] S σ Q = oE d 131 53 [l0, l1, l2, .inl x] (.inl x :: S) σ Q := pLdN (k := 3) f_131_52 rfl rfl rfl
theorem f_131_53 : oFet 131 53 = some (.ifCond .ge 6, 3) := by decide +kernel
theorem s_131_53 {d : Nat} {l0 l1 l2 l3 : oV} {x : Int} {S : List oV} {σ : oSg} {Q : Option oV → (Nat → oC) → Prop} : oE d 131 53 [l0, l1, l2, l3] (.inl x :: S) σ Q = if 0 ≤ x then oE d 131 59 [l0, l1, l2, l3] S σ Q else oE d 131 56 [l0, l1, l2, l3] S σ Q := oIfGe f_131_53 (by decide)
theorem f_131_56 : oFet 131 56 = some (.bipush (-14), 2) := by decide +kernel
theorem s_131_56 {d : Nat} {l0 l1 l2 l3 : oV} {S : List oV} {σ : oSg} {Q : Option oV → (Nat → oC) → Prop} : oE d 131 56 [l0, l1, l2, l3] S σ Q = oE d 131 58 [l0, l1, l2, l3] (.inl (-14) :: S) σ Q := pBip f_131_56 (by decide)
theorem f_131_58 : oFet 131 58 = some (.ireturn, 1) := by decide +kernel
theorem s_131_58 {d : Nat} {l0 l1 l2 l3 : oV} {x : Int} {σ : oSg} {Q : Option oV → (Nat → oC) → Prop} : oE d 131 58 [l0, l1, l2, l3] [.inl x] σ Q = Q (some (.inl x)) (oBld σ) := oIret f_131_58 rt_131
theorem f_131_59 : oFet 131 59 = some (.aload_n 0, 1) := by decide +kernel
theorem s_131_59 {d : Nat} {l1 l2 l3 : oV} {a : Nat} {S : List oV} {σ : oSg} {Q : Option oV → (Nat → oC) → Prop} : oE d 131 59 [.inr (.inr (.inl a)), l1, l2, l3] S σ Q = oE d 131 60 [.inr (.inr (.inl a)), l1, l2, l3] (.inr (.inr (.inl a)) :: S) σ Q := pLdN (k := 0) f_131_59 rfl rfl rfl
theorem f_131_60 : oFet 131 60 = some (.getfield 31, 3) := by decide +kernel
theorem s_131_60 {d : Nat} {l0 l1 l2 l3 : oV} {a : Nat} {S : List oV} {σ : oSg} {Q : Option oV → (Nat → oC) → Prop} (hk : oKd a = some 10) : oE d 131 60 [l0, l1, l2, l3] (.inr (.inr (.inl a)) :: S) σ Q = oE d 131 63 [l0, l1, l2, l3] (.inr (.inr (.inl (oRf a 4))) :: S) σ Q := pGfR f_131_60 ow_131 fl_10_31 rfl (by decide) hk
theorem f_131_63 : oFet 131 63 = some (.iload_n 1, 1) := by decide +kernel
theorem s_131_63 {d : Nat} {l0 l2 l3 : oV} {x : Int} {S : List oV} {σ : oSg} {Q : Option oV → (Nat → oC) → Prop} : oE d 131 63 [l0, .inl x, l2, l3] S σ Q = oE d 131 64 [l0, .inl x, l2, l3] (.inl x :: S) σ Q := pLdN (k := 1) f_131_63 rfl rfl rfl
theorem f_131_64 : oFet 131 64 = some (.iload_n 2, 1) := by decide +kernel
theorem s_131_64 {d : Nat} {l0 l1 l3 : oV} {x : Int} {S : List oV} {σ : oSg} {Q : Option oV → (Nat → oC) → Prop} : oE d 131 64 [l0, l1, .inl x, l3] S σ Q = oE d 131 65 [l0, l1, .inl x, l3] (.inl x :: S) σ Q := pLdN (k := 2) f_131_64 rfl rfl rfl
theorem f_131_65 : oFet 131 65 = some (.iload_n 3, 1) := by decide +kernel
theorem s_131_65 {d : Nat} {l0 l1 l2 : oV} {x : Int} {S : List oV} {σ : oSg} {Q : Option oV → (Nat → oC) → Prop} : oE d 131 65 [l0, l1, l2, .inl x] S σ Q = oE d 131 66 [l0, l1, l2, .inl x] (.inl x :: S) σ Q := pLdN (k := 3) f_131_65 rfl rfl rfl
theorem f_131_66 : oFet 131 66 = some (.invokevirtual 354, 3) := by decide +kernel
theorem c_131_66 {d : Nat} {l0 l1 l2 l3 : oV} {x0 x1 x2 : oV} {a : Nat} {v : Option oV} {τ : oSg} {S : List oV} {σ : oSg} {Q : Option oV → (Nat → oC) → Prop} (hm : oMi d 132 [.inr (.inr (.inl a)), x0, x1, x2] σ v τ) (hk : oKd a = some 8) (hs : oSmall S = true) : oE d 131 66 [l0, l1, l2, l3] (x2 :: x1 :: x0 :: .inr (.inr (.inl a)) :: S) σ Q = oE d 131 69 [l0, l1, l2, l3] (v.toList ++ S) τ Q := pCallV f_131_66 ow_131 lk_10_354 mt_132 rfl rfl rfl hk hs hm
theorem f_131_69 : oFet 131 69 = some (.iconst 1, 1) := by decide +kernel
theorem s_131_69 {d : Nat} {l0 l1 l2 l3 : oV} {S : List oV} {σ : oSg} {Q : Option oV → (Nat → oC) → Prop} : oE d 131 69 [l0, l1, l2, l3] S σ Q = oE d 131 70 [l0, l1, l2, l3] (.inl (1) :: S) σ Q := pKst f_131_69 (by decide)
theorem f_131_70 : oFet 131 70 = some (.ireturn, 1) := by decide +kernel
theorem s_131_70 {d : Nat} {l0 l1 l2 l3 : oV} {x : Int} {σ : oSg} {Q : Option oV → (Nat → oC) → Prop} : oE d 131 70 [l0, l1, l2, l3] [.inl x] σ Q = Q (some (.inl x)) (oBld σ) := oIret f_131_70 rt_131
theorem ow_132 : (oMt 132).2.2.2.2.1 = 8 := by decide +kernel
theorem rt_132 : (oMt 132).2.2.2.1 = none := by decide +kernel
theorem nl_132 : (oMt 132).2.2.1 = 4 := by decide +kernel
theorem f_132_0 : oFet 132 0 = some (.aload_n 0, 1) := by decide +kernel
theorem s_132_0 {d : Nat} {l1 l2 l3 : oV} {a : Nat} {S : List oV} {σ : oSg} {Q : Option oV → (Nat → oC) → Prop} : oE d 132 0 [.inr (.inr (.inl a)), l1, l2, l3] S σ Q = oE d 132 1 [.inr (.inr (.inl a)), l1, l2, l3] (.inr (.inr (.inl a)) :: S) σ Q := pLdN (k := 0) f_132_0 rfl rfl rfl
theorem f_132_1 : oFet 132 1 = some (.iload_n 1, 1) := by decide +kernel
theorem s_132_1 {d : Nat} {l0 l2 l3 : oV} {x : Int} {S : List oV} {σ : oSg} {Q : Option oV → (Nat → oC) → Prop} : oE d 132 1 [l0, .inl x, l2, l3] S σ Q = oE d 132 2 [l0, .inl x, l2, l3] (.inl x :: S) σ Q := pLdN (k := 1) f_132_1 rfl rfl rfl
theorem f_132_2 : oFet 132 2 = some (.invokevirtual 26, 3) := by decide +kernel
theorem c_132_2 {d : Nat} {l0 l1 l2 l3 : oV} {x0 : oV} {a : Nat} {v : Option oV} {τ : oSg} {S : List oV} {σ : oSg} {Q : Option oV → (Nat → oC) → Prop} (hm : oMi d 120 [.inr (.inr (.inl a)), x0] σ v τ) (hk : oKd a = some 8) (hs : oSmall S = true) : oE d 132 2 [l0, l1, l2, l3] (x0 :: .inr (.inr (.inl a)) :: S) σ Q = oE d 132 5 [l0, l1, l2, l3] (v.toList ++ S) τ Q := pCallV f_132_2 ow_132 lk_8_26 mt_120 rfl rfl rfl hk hs hm
theorem f_132_5 : oFet 132 5 = some (.ifCond .eq 45, 3) := by decide +kernel
theorem s_132_5 {d : Nat} {l0 l1 l2 l3 : oV} {x : Int} {S : List oV} {σ : oSg} {Q : Option oV → (Nat → oC) → Prop} : oE d 132 5 [l0, l1, l2, l3] (.inl x :: S) σ Q = if x = 0 then oE d 132 50 [l0, l1, l2, l3] S σ Q else oE d 132 8 [l0, l1, l2, l3] S σ Q := oIfEq f_132_5 (by decide)
theorem f_132_8 : oFet 132 8 = some (.iload_n 3, 1) := by decide +kernel
theorem s_132_8 {d : Nat} {l0 l1 l2 : oV} {x : Int} {S : List oV} {σ : oSg} {Q : Option oV → (Nat → oC) → Prop} : oE d 132 8 [l0, l1, l2, .inl x] S σ Q = oE d 132 9 [l0, l1, l2, .inl x] (.inl x :: S) σ Q := pLdN (k := 3) f_132_8 rfl rfl rfl
theorem f_132_9 : oFet 132 9 = some (.ifCond .lt 41, 3) := by decide +kernel
theorem s_132_9 {d : Nat} {l0 l1 l2 l3 : oV} {x : Int} {S : List oV} {σ : oSg} {Q : Option oV → (Nat → oC) → Prop} : oE d 132 9 [l0, l1, l2, l3] (.inl x :: S) σ Q = if x < 0 then oE d 132 50 [l0, l1, l2, l3] S σ Q else oE d 132 12 [l0, l1, l2, l3] S σ Q := oIfLt f_132_9 (by decide)
theorem f_132_12 : oFet 132 12 = some (.iload_n 3, 1) := by decide +kernel
theorem s_132_12 {d : Nat} {l0 l1 l2 : oV} {x : Int} {S : List oV} {σ : oSg} {Q : Option oV → (Nat → oC) → Prop} : oE d 132 12 [l0, l1, l2, .inl x] S σ Q = oE d 132 13 [l0, l1, l2, .inl x] (.inl x :: S) σ Q := pLdN (k := 3) f_132_12 rfl rfl rfl
theorem f_132_13 : oFet 132 13 = some (.bipush 60, 2) := by decide +kernel
theorem s_132_13 {d : Nat} {l0 l1 l2 l3 : oV} {S : List oV} {σ : oSg} {Q : Option oV → (Nat → oC) → Prop} : oE d 132 13 [l0, l1, l2, l3] S σ Q = oE d 132 15 [l0, l1, l2, l3] (.inl (60) :: S) σ Q := pBip f_132_13 (by decide)
theorem f_132_15 : oFet 132 15 = some (.if_icmp .gt 35, 3) := by decide +kernel
theorem s_132_15 {d : Nat} {l0 l1 l2 l3 : oV} {x y : Int} {S : List oV} {σ : oSg} {Q : Option oV → (Nat → oC) → Prop} : oE d 132 15 [l0, l1, l2, l3] (.inl y :: .inl x :: S) σ Q = if y < x then oE d 132 50 [l0, l1, l2, l3] S σ Q else oE d 132 18 [l0, l1, l2, l3] S σ Q := oCmpGt f_132_15 (by decide)
theorem f_132_18 : oFet 132 18 = some (.aload_n 0, 1) := by decide +kernel
theorem s_132_18 {d : Nat} {l1 l2 l3 : oV} {a : Nat} {S : List oV} {σ : oSg} {Q : Option oV → (Nat → oC) → Prop} : oE d 132 18 [.inr (.inr (.inl a)), l1, l2, l3] S σ Q = oE d 132 19 [.inr (.inr (.inl a)), l1, l2, l3] (.inr (.inr (.inl a)) :: S) σ Q := pLdN (k := 0) f_132_18 rfl rfl rfl
theorem f_132_19 : oFet 132 19 = some (.getfield 9, 3) := by decide +kernel
theorem s_132_19 {d : Nat} {l0 l1 l2 l3 : oV} {a : Nat} {S : List oV} {σ : oSg} {Q : Option oV → (Nat → oC) → Prop} (hk : oKd a = some 8) : oE d 132 19 [l0, l1, l2, l3] (.inr (.inr (.inl a)) :: S) σ Q = oE d 132 22 [l0, l1, l2, l3] (.inr (.inr (.inl (oRf a 0))) :: S) σ Q := pGfR f_132_19 ow_132 fl_8_9 rfl (by decide) hk
theorem f_132_22 : oFet 132 22 = some (.iload_n 1, 1) := by decide +kernel
theorem s_132_22 {d : Nat} {l0 l2 l3 : oV} {x : Int} {S : List oV} {σ : oSg} {Q : Option oV → (Nat → oC) → Prop} : oE d 132 22 [l0, .inl x, l2, l3] S σ Q = oE d 132 23 [l0, .inl x, l2, l3] (.inl x :: S) σ Q := pLdN (k := 1) f_132_22 rfl rfl rfl
theorem f_132_23 : oFet 132 23 = some (.iload_n 2, 1) := by decide +kernel
theorem s_132_23 {d : Nat} {l0 l1 l3 : oV} {x : Int} {S : List oV} {σ : oSg} {Q : Option oV → (Nat → oC) → Prop} : oE d 132 23 [l0, l1, .inl x, l3] S σ Q = oE d 132 24 [l0, l1, .inl x, l3] (.inl x :: S) σ Q := pLdN (k := 2) f_132_23 rfl rfl rfl
theorem f_132_24 : oFet 132 24 = some (.iastore, 1) := by decide +kernel
theorem s_132_24 {d : Nat} {l0 l1 l2 l3 : oV} {a : Nat} {i v : Int} {S : List oV} {σ : oSg} {Q : Option oV → (Nat → oC) → Prop} (hk : oAk a = some 0) (h0 : 0 ≤ i) (h1 : i < (oLn a : Int)) : oE d 132 24 [l0, l1, l2, l3] (.inl v :: .inl i :: .inr (.inr (.inl a)) :: S) σ Q = oE d 132 25 [l0, l1, l2, l3] S (oSA σ a i.toNat v) Q := oIas f_132_24 hk h0 h1
theorem f_132_25 : oFet 132 25 = some (.aload_n 0, 1) := by decide +kernel
theorem s_132_25 {d : Nat} {l1 l2 l3 : oV} {a : Nat} {S : List oV} {σ : oSg} {Q : Option oV → (Nat → oC) → Prop} : oE d 132 25 [.inr (.inr (.inl a)), l1, l2, l3] S σ Q = oE d 132 26 [.inr (.inr (.inl a)), l1, l2, l3] (.inr (.inr (.inl a)) :: S) σ Q := pLdN (k := 0) f_132_25 rfl rfl rfl
theorem f_132_26 : oFet 132 26 = some (.getfield 13, 3) := by decide +kernel
theorem s_132_26 {d : Nat} {l0 l1 l2 l3 : oV} {a : Nat} {S : List oV} {σ : oSg} {Q : Option oV → (Nat → oC) → Prop} (hk : oKd a = some 8) : oE d 132 26 [l0, l1, l2, l3] (.inr (.inr (.inl a)) :: S) σ Q = oE d 132 29 [l0, l1, l2, l3] (.inr (.inr (.inl (oRf a 1))) :: S) σ Q := pGfR f_132_26 ow_132 fl_8_13 rfl (by decide) hk
theorem f_132_29 : oFet 132 29 = some (.iload_n 1, 1) := by decide +kernel
theorem s_132_29 {d : Nat} {l0 l2 l3 : oV} {x : Int} {S : List oV} {σ : oSg} {Q : Option oV → (Nat → oC) → Prop} : oE d 132 29 [l0, .inl x, l2, l3] S σ Q = oE d 132 30 [l0, .inl x, l2, l3] (.inl x :: S) σ Q := pLdN (k := 1) f_132_29 rfl rfl rfl
theorem f_132_30 : oFet 132 30 = some (.iload_n 3, 1) := by decide +kernel
theorem s_132_30 {d : Nat} {l0 l1 l2 : oV} {x : Int} {S : List oV} {σ : oSg} {Q : Option oV → (Nat → oC) → Prop} : oE d 132 30 [l0, l1, l2, .inl x] S σ Q = oE d 132 31 [l0, l1, l2, .inl x] (.inl x :: S) σ Q := pLdN (k := 3) f_132_30 rfl rfl rfl
theorem f_132_31 : oFet 132 31 = some (.iastore, 1) := by decide +kernel
theorem s_132_31 {d : Nat} {l0 l1 l2 l3 : oV} {a : Nat} {i v : Int} {S : List oV} {σ : oSg} {Q : Option oV → (Nat → oC) → Prop} (hk : oAk a = some 0) (h0 : 0 ≤ i) (h1 : i < (oLn a : Int)) : oE d 132 31 [l0, l1, l2, l3] (.inl v :: .inl i :: .inr (.inr (.inl a)) :: S) σ Q = oE d 132 32 [l0, l1, l2, l3] S (oSA σ a i.toNat v) Q := oIas f_132_31 hk h0 h1
theorem f_132_32 : oFet 132 32 = some (.aload_n 0, 1) := by decide +kernel
theorem s_132_32 {d : Nat} {l1 l2 l3 : oV} {a : Nat} {S : List oV} {σ : oSg} {Q : Option oV → (Nat → oC) → Prop} : oE d 132 32 [.inr (.inr (.inl a)), l1, l2, l3] S σ Q = oE d 132 33 [.inr (.inr (.inl a)), l1, l2, l3] (.inr (.inr (.inl a)) :: S) σ Q := pLdN (k := 0) f_132_32 rfl rfl rfl
theorem f_132_33 : oFet 132 33 = some (.getfield 16, 3) := by decide +kernel
theorem s_132_33 {d : Nat} {l0 l1 l2 l3 : oV} {a : Nat} {S : List oV} {σ : oSg} {Q : Option oV → (Nat → oC) → Prop} (hk : oKd a = some 8) : oE d 132 33 [l0, l1, l2, l3] (.inr (.inr (.inl a)) :: S) σ Q = oE d 132 36 [l0, l1, l2, l3] (.inr (.inr (.inl (oRf a 2))) :: S) σ Q := pGfR f_132_33 ow_132 fl_8_16 rfl (by decide) hk
theorem f_132_36 : oFet 132 36 = some (.iload_n 1, 1) := by decide +kernel
theorem s_132_36 {d : Nat} {l0 l2 l3 : oV} {x : Int} {S : List oV} {σ : oSg} {Q : Option oV → (Nat → oC) → Prop} : oE d 132 36 [l0, .inl x, l2, l3] S σ Q = oE d 132 37 [l0, .inl x, l2, l3] (.inl x :: S) σ Q := pLdN (k := 1) f_132_36 rfl rfl rfl
theorem f_132_37 : oFet 132 37 = some (.bipush 60, 2) := by decide +kernel
theorem s_132_37 {d : Nat} {l0 l1 l2 l3 : oV} {S : List oV} {σ : oSg} {Q : Option oV → (Nat → oC) → Prop} : oE d 132 37 [l0, l1, l2, l3] S σ Q = oE d 132 39 [l0, l1, l2, l3] (.inl (60) :: S) σ Q := pBip f_132_37 (by decide)
theorem f_132_39 : oFet 132 39 = some (.imul, 1) := by decide +kernel
theorem s_132_39 {d : Nat} {l0 l1 l2 l3 : oV} {x y : Int} {S : List oV} {σ : oSg} {Q : Option oV → (Nat → oC) → Prop} : oE d 132 39 [l0, l1, l2, l3] (.inl y :: .inl x :: S) σ Q = oE d 132 40 [l0, l1, l2, l3] (.inl (oMul x y) :: S) σ Q := oS3 f_132_39 rfl rfl rfl
theorem f_132_40 : oFet 132 40 = some (.iload_n 1, 1) := by decide +kernel
theorem s_132_40 {d : Nat} {l0 l2 l3 : oV} {x : Int} {S : List oV} {σ : oSg} {Q : Option oV → (Nat → oC) → Prop} : oE d 132 40 [l0, .inl x, l2, l3] S σ Q = oE d 132 41 [l0, .inl x, l2, l3] (.inl x :: S) σ Q := pLdN (k := 1) f_132_40 rfl rfl rfl
theorem f_132_41 : oFet 132 41 = some (.bipush 60, 2) := by decide +kernel
theorem s_132_41 {d : Nat} {l0 l1 l2 l3 : oV} {S : List oV} {σ : oSg} {Q : Option oV → (Nat → oC) → Prop} : oE d 132 41 [l0, l1, l2, l3] S σ Q = oE d 132 43 [l0, l1, l2, l3] (.inl (60) :: S) σ Q := pBip f_132_41 (by decide)
theorem f_132_43 : oFet 132 43 = some (.imul, 1) := by decide +kernel
theorem s_132_43 {d : Nat} {l0 l1 l2 l3 : oV} {x y : Int} {S : List oV} {σ : oSg} {Q : Option oV → (Nat → oC) → Prop} : oE d 132 43 [l0, l1, l2, l3] (.inl y :: .inl x :: S) σ Q = oE d 132 44 [l0, l1, l2, l3] (.inl (oMul x y) :: S) σ Q := oS3 f_132_43 rfl rfl rfl
theorem f_132_44 : oFet 132 44 = some (.iload_n 3, 1) := by decide +kernel
theorem s_132_44 {d : Nat} {l0 l1 l2 : oV} {x : Int} {S : List oV} {σ : oSg} {Q : Option oV → (Nat → oC) → Prop} : oE d 132 44 [l0, l1, l2, .inl x] S σ Q = oE d 132 45 [l0, l1, l2, .inl x] (.inl x :: S) σ Q := pLdN (k := 3) f_132_44 rfl rfl rfl
theorem f_132_45 : oFet 132 45 = some (.iadd, 1) := by decide +kernel
theorem s_132_45 {d : Nat} {l0 l1 l2 l3 : oV} {x y : Int} {S : List oV} {σ : oSg} {Q : Option oV → (Nat → oC) → Prop} : oE d 132 45 [l0, l1, l2, l3] (.inl y :: .inl x :: S) σ Q = oE d 132 46 [l0, l1, l2, l3] (.inl (oAdd x y) :: S) σ Q := oS3 f_132_45 rfl rfl rfl
theorem f_132_46 : oFet 132 46 = some (.lconst 0, 1) := by decide +kernel
theorem s_132_46 {d : Nat} {l0 l1 l2 l3 : oV} {S : List oV} {σ : oSg} {Q : Option oV → (Nat → oC) → Prop} : oE d 132 46 [l0, l1, l2, l3] S σ Q = oE d 132 47 [l0, l1, l2, l3] (.inr (.inl 0) :: S) σ Q := pLcs f_132_46
theorem f_132_47 : oFet 132 47 = some (.invokestatic 37, 3) := by decide +kernel
theorem c_132_47 {d : Nat} {l0 l1 l2 l3 : oV} {x0 x1 x2 x3 : oV} {v : Option oV} {τ : oSg} {S : List oV} {σ : oSg} {Q : Option oV → (Nat → oC) → Prop} (hm : oMi d 133 [x0, x1, x2, x3] σ v τ) (hs : oSmall S = true) : oE d 132 47 [l0, l1, l2, l3] (x3 :: x2 :: x1 :: x0 :: S) σ Q = oE d 132 50 [l0, l1, l2, l3] (v.toList ++ S) τ Q := pCallS f_132_47 ow_132 lk_8_37 mt_133 rfl rfl rfl hs hm
theorem f_132_50 : oFet 132 50 = some (.return_, 1) := by decide +kernel
theorem s_132_50 {d : Nat} {l0 l1 l2 l3 : oV} {σ : oSg} {Q : Option oV → (Nat → oC) → Prop} : oE d 132 50 [l0, l1, l2, l3] [] σ Q = Q none (oBld σ) := oVret f_132_50 rt_132
theorem ow_133 : (oMt 133).2.2.2.2.1 = 15 := by decide +kernel
theorem rt_133 : (oMt 133).2.2.2.1 = none := by decide +kernel
theorem nl_133 : (oMt 133).2.2.1 = 6 := by decide +kernel
theorem f_133_0 : oFet 133 0 = some (.aload_n 0, 1) := by decide +kernel
theorem s_133_0 {d : Nat} {l1 l2 l3 l4 l5 : oV} {a : Nat} {S : List oV} {σ : oSg} {Q : Option oV → (Nat → oC) → Prop} : oE d 133 0 [.inr (.inr (.inl a)), l1, l2, l3, l4, l5] S σ Q = oE d 133 1 [.inr (.inr (.inl a)), l1, l2, l3, l4, l5] (.inr (.inr (.inl a)) :: S) σ Q := pLdN (k := 0) f_133_0 rfl rfl rfl
theorem f_133_1 : oFet 133 1 = some (.arraylength, 1) := by decide +kernel
theorem s_133_1 {d : Nat} {l0 l1 l2 l3 l4 l5 : oV} {a : Nat} {S : List oV} {σ : oSg} {Q : Option oV → (Nat → oC) → Prop} (hk : oAk a = some 1) : oE d 133 1 [l0, l1, l2, l3, l4, l5] (.inr (.inr (.inl a)) :: S) σ Q = oE d 133 2 [l0, l1, l2, l3, l4, l5] (.inl (oLn a : Int) :: S) σ Q := oAln f_133_1 hk (by decide)
theorem f_133_2 : oFet 133 2 = some (.iload_n 1, 1) := by decide +kernel
theorem s_133_2 {d : Nat} {l0 l2 l3 l4 l5 : oV} {x : Int} {S : List oV} {σ : oSg} {Q : Option oV → (Nat → oC) → Prop} : oE d 133 2 [l0, .inl x, l2, l3, l4, l5] S σ Q = oE d 133 3 [l0, .inl x, l2, l3, l4, l5] (.inl x :: S) σ Q := pLdN (k := 1) f_133_2 rfl rfl rfl
theorem f_133_3 : oFet 133 3 = some (.iload_n 2, 1) := by decide +kernel
theorem s_133_3 {d : Nat} {l0 l1 l3 l4 l5 : oV} {x : Int} {S : List oV} {σ : oSg} {Q : Option oV → (Nat → oC) → Prop} : oE d 133 3 [l0, l1, .inl x, l3, l4, l5] S σ Q = oE d 133 4 [l0, l1, .inl x, l3, l4, l5] (.inl x :: S) σ Q := pLdN (k := 2) f_133_3 rfl rfl rfl
theorem f_133_4 : oFet 133 4 = some (.invokestatic 13, 3) := by decide +kernel
theorem c_133_4 {d : Nat} {l0 l1 l2 l3 l4 l5 : oV} {x0 x1 x2 : oV} {v : Option oV} {τ : oSg} {S : List oV} {σ : oSg} {Q : Option oV → (Nat → oC) → Prop} (hm : oMi d 134 [x0, x1, x2] σ v τ) (hs : oSmall S = true) : oE d 133 4 [l0, l1, l2, l3, l4, l5] (x2 :: x1 :: x0 :: S) σ Q = oE d 133 7 [l0, l1, l2, l3, l4, l5] (v.toList ++ S) τ Q := pCallS f_133_4 ow_133 lk_15_13 mt_134 rfl rfl rfl hs hm
theorem f_133_7 : oFet 133 7 = some (.iload_n 1, 1) := by decide +kernel
theorem s_133_7 {d : Nat} {l0 l2 l3 l4 l5 : oV} {x : Int} {S : List oV} {σ : oSg} {Q : Option oV → (Nat → oC) → Prop} : oE d 133 7 [l0, .inl x, l2, l3, l4, l5] S σ Q = oE d 133 8 [l0, .inl x, l2, l3, l4, l5] (.inl x :: S) σ Q := pLdN (k := 1) f_133_7 rfl rfl rfl
theorem f_133_8 : oFet 133 8 = some (.istore 5, 2) := by decide +kernel
theorem s_133_8 {d : Nat} {l0 l1 l2 l3 l4 l5 : oV} {x : Int} {S : List oV} {σ : oSg} {Q : Option oV → (Nat → oC) → Prop} (c5 : oCat l5 = 1) (c4 : oCat l4 = 1)  : oE d 133 8 [l0, l1, l2, l3, l4, l5] (.inl x :: S) σ Q = oE d 133 10 [l0, l1, l2, l3, l4, .inl x] S σ Q := pSt (i := 5) f_133_8 rfl rfl (show (5 : Nat) < 6 by decide) (oC1n c4) (oC1n c5) rfl
theorem f_133_10 : oFet 133 10 = some (.iload 5, 2) := by decide +kernel
theorem s_133_10 {d : Nat} {l0 l1 l2 l3 l4 : oV} {x : Int} {S : List oV} {σ : oSg} {Q : Option oV → (Nat → oC) → Prop} : oE d 133 10 [l0, l1, l2, l3, l4, .inl x] S σ Q = oE d 133 12 [l0, l1, l2, l3, l4, .inl x] (.inl x :: S) σ Q := pLd (i := 5) f_133_10 rfl rfl rfl
theorem f_133_12 : oFet 133 12 = some (.iload_n 2, 1) := by decide +kernel
theorem s_133_12 {d : Nat} {l0 l1 l3 l4 l5 : oV} {x : Int} {S : List oV} {σ : oSg} {Q : Option oV → (Nat → oC) → Prop} : oE d 133 12 [l0, l1, .inl x, l3, l4, l5] S σ Q = oE d 133 13 [l0, l1, .inl x, l3, l4, l5] (.inl x :: S) σ Q := pLdN (k := 2) f_133_12 rfl rfl rfl
theorem f_133_13 : oFet 133 13 = some (.if_icmp .ge 14, 3) := by decide +kernel
theorem s_133_13 {d : Nat} {l0 l1 l2 l3 l4 l5 : oV} {x y : Int} {S : List oV} {σ : oSg} {Q : Option oV → (Nat → oC) → Prop} : oE d 133 13 [l0, l1, l2, l3, l4, l5] (.inl y :: .inl x :: S) σ Q = if y ≤ x then oE d 133 27 [l0, l1, l2, l3, l4, l5] S σ Q else oE d 133 16 [l0, l1, l2, l3, l4, l5] S σ Q := oCmpGe f_133_13 (by decide)
theorem f_133_16 : oFet 133 16 = some (.aload_n 0, 1) := by decide +kernel
theorem s_133_16 {d : Nat} {l1 l2 l3 l4 l5 : oV} {a : Nat} {S : List oV} {σ : oSg} {Q : Option oV → (Nat → oC) → Prop} : oE d 133 16 [.inr (.inr (.inl a)), l1, l2, l3, l4, l5] S σ Q = oE d 133 17 [.inr (.inr (.inl a)), l1, l2, l3, l4, l5] (.inr (.inr (.inl a)) :: S) σ Q := pLdN (k := 0) f_133_16 rfl rfl rfl
theorem f_133_17 : oFet 133 17 = some (.iload 5, 2) := by decide +kernel
theorem s_133_17 {d : Nat} {l0 l1 l2 l3 l4 : oV} {x : Int} {S : List oV} {σ : oSg} {Q : Option oV → (Nat → oC) → Prop} : oE d 133 17 [l0, l1, l2, l3, l4, .inl x] S σ Q = oE d 133 19 [l0, l1, l2, l3, l4, .inl x] (.inl x :: S) σ Q := pLd (i := 5) f_133_17 rfl rfl rfl
theorem f_133_19 : oFet 133 19 = some (.lload_n 3, 1) := by decide +kernel
theorem s_133_19 {d : Nat} {l0 l1 l2 l4 l5 : oV} {x : Int} {S : List oV} {σ : oSg} {Q : Option oV → (Nat → oC) → Prop} : oE d 133 19 [l0, l1, l2, .inr (.inl x), l4, l5] S σ Q = oE d 133 20 [l0, l1, l2, .inr (.inl x), l4, l5] (.inr (.inl x) :: S) σ Q := pLdN (k := 3) f_133_19 rfl rfl rfl
theorem f_133_20 : oFet 133 20 = some (.lastore, 1) := by decide +kernel
theorem s_133_20 {d : Nat} {l0 l1 l2 l3 l4 l5 : oV} {a : Nat} {i v : Int} {S : List oV} {σ : oSg} {Q : Option oV → (Nat → oC) → Prop} (hk : oAk a = some 1) (h0 : 0 ≤ i) (h1 : i < (oLn a : Int)) : oE d 133 20 [l0, l1, l2, l3, l4, l5] (.inr (.inl v) :: .inl i :: .inr (.inr (.inl a)) :: S) σ Q = oE d 133 21 [l0, l1, l2, l3, l4, l5] S (oSA σ a i.toNat v) Q := oLas f_133_20 hk h0 h1
theorem f_133_21 : oFet 133 21 = some (.iinc 5 1, 3) := by decide +kernel
theorem s_133_21 {d : Nat} {l0 l1 l2 l3 l4 : oV} {x : Int} {S : List oV} {σ : oSg} {Q : Option oV → (Nat → oC) → Prop} (c4 : oCat l4 = 1)  : oE d 133 21 [l0, l1, l2, l3, l4, .inl x] S σ Q = oE d 133 24 [l0, l1, l2, l3, l4, .inl (oAdd x (1))] S σ Q := pInc f_133_21 rfl (show (5 : Nat) < 6 by decide) (oC1n c4) (oC1n (v := .inl x) rfl) rfl
theorem f_133_24 : oFet 133 24 = some (.goto (-14), 3) := by decide +kernel
theorem s_133_24 {d : Nat} {l0 l1 l2 l3 l4 l5 : oV} {S : List oV} {σ : oSg} {Q : Option oV → (Nat → oC) → Prop} : oE d 133 24 [l0, l1, l2, l3, l4, l5] S σ Q = oE d 133 10 [l0, l1, l2, l3, l4, l5] S σ Q := pGoto f_133_24 (by decide)
theorem f_133_27 : oFet 133 27 = some (.return_, 1) := by decide +kernel
theorem s_133_27 {d : Nat} {l0 l1 l2 l3 l4 l5 : oV} {σ : oSg} {Q : Option oV → (Nat → oC) → Prop} : oE d 133 27 [l0, l1, l2, l3, l4, l5] [] σ Q = Q none (oBld σ) := oVret f_133_27 rt_133
theorem ow_134 : (oMt 134).2.2.2.2.1 = 15 := by decide +kernel
theorem rt_134 : (oMt 134).2.2.2.1 = none := by decide +kernel
theorem nl_134 : (oMt 134).2.2.1 = 3 := by decide +kernel
theorem f_134_0 : oFet 134 0 = some (.iload_n 1, 1) := by decide +kernel
theorem s_134_0 {d : Nat} {l0 l2 : oV} {x : Int} {S : List oV} {σ : oSg} {Q : Option oV → (Nat → oC) → Prop} : oE d 134 0 [l0, .inl x, l2] S σ Q = oE d 134 1 [l0, .inl x, l2] (.inl x :: S) σ Q := pLdN (k := 1) f_134_0 rfl rfl rfl
theorem f_134_1 : oFet 134 1 = some (.iload_n 2, 1) := by decide +kernel
theorem s_134_1 {d : Nat} {l0 l1 : oV} {x : Int} {S : List oV} {σ : oSg} {Q : Option oV → (Nat → oC) → Prop} : oE d 134 1 [l0, l1, .inl x] S σ Q = oE d 134 2 [l0, l1, .inl x] (.inl x :: S) σ Q := pLdN (k := 2) f_134_1 rfl rfl rfl
theorem f_134_2 : oFet 134 2 = some (.if_icmp .le 44, 3) := by decide +kernel
theorem s_134_2 {d : Nat} {l0 l1 l2 : oV} {x y : Int} {S : List oV} {σ : oSg} {Q : Option oV → (Nat → oC) → Prop} : oE d 134 2 [l0, l1, l2] (.inl y :: .inl x :: S) σ Q = if x ≤ y then oE d 134 46 [l0, l1, l2] S σ Q else oE d 134 5 [l0, l1, l2] S σ Q := oCmpLe f_134_2 (by decide)
theorem f_134_5 : oFet 134 5 = some (.new 43, 3) := by decide +kernel
theorem f_134_8 : oFet 134 8 = some (.dup, 1) := by decide +kernel
theorem s_134_8 {d : Nat} {l0 l1 l2 : oV} {a : Nat} {S : List oV} {σ : oSg} {Q : Option oV → (Nat → oC) → Prop} : oE d 134 8 [l0, l1, l2] (.inr (.inr (.inl a)) :: S) σ Q = oE d 134 9 [l0, l1, l2] (.inr (.inr (.inl a)) :: .inr (.inr (.inl a)) :: S) σ Q := pDupR f_134_8
theorem s_134_8_i {d : Nat} {l0 l1 l2 : oV} {x : Int} {S : List oV} {σ : oSg} {Q : Option oV → (Nat → oC) → Prop} : oE d 134 8 [l0, l1, l2] (.inl x :: S) σ Q = oE d 134 9 [l0, l1, l2] (.inl x :: .inl x :: S) σ Q := pDupI f_134_8
theorem f_134_9 : oFet 134 9 = some (.new 45, 3) := by decide +kernel
theorem f_134_12 : oFet 134 12 = some (.dup, 1) := by decide +kernel
theorem s_134_12 {d : Nat} {l0 l1 l2 : oV} {a : Nat} {S : List oV} {σ : oSg} {Q : Option oV → (Nat → oC) → Prop} : oE d 134 12 [l0, l1, l2] (.inr (.inr (.inl a)) :: S) σ Q = oE d 134 13 [l0, l1, l2] (.inr (.inr (.inl a)) :: .inr (.inr (.inl a)) :: S) σ Q := pDupR f_134_12
theorem s_134_12_i {d : Nat} {l0 l1 l2 : oV} {x : Int} {S : List oV} {σ : oSg} {Q : Option oV → (Nat → oC) → Prop} : oE d 134 12 [l0, l1, l2] (.inl x :: S) σ Q = oE d 134 13 [l0, l1, l2] (.inl x :: .inl x :: S) σ Q := pDupI f_134_12
theorem f_134_13 : oFet 134 13 = some (.invokespecial 47, 3) := by decide +kernel
theorem f_134_16 : oFet 134 16 = some (.ldc 48, 2) := by decide +kernel
theorem f_134_18 : oFet 134 18 = some (.invokevirtual 50, 3) := by decide +kernel
theorem f_134_21 : oFet 134 21 = some (.iload_n 1, 1) := by decide +kernel
theorem s_134_21 {d : Nat} {l0 l2 : oV} {x : Int} {S : List oV} {σ : oSg} {Q : Option oV → (Nat → oC) → Prop} : oE d 134 21 [l0, .inl x, l2] S σ Q = oE d 134 22 [l0, .inl x, l2] (.inl x :: S) σ Q := pLdN (k := 1) f_134_21 rfl rfl rfl
theorem f_134_22 : oFet 134 22 = some (.invokevirtual 54, 3) := by decide +kernel
theorem f_134_25 : oFet 134 25 = some (.ldc 57, 2) := by decide +kernel
theorem f_134_27 : oFet 134 27 = some (.invokevirtual 50, 3) := by decide +kernel
theorem f_134_30 : oFet 134 30 = some (.iload_n 2, 1) := by decide +kernel
theorem s_134_30 {d : Nat} {l0 l1 : oV} {x : Int} {S : List oV} {σ : oSg} {Q : Option oV → (Nat → oC) → Prop} : oE d 134 30 [l0, l1, .inl x] S σ Q = oE d 134 31 [l0, l1, .inl x] (.inl x :: S) σ Q := pLdN (k := 2) f_134_30 rfl rfl rfl
theorem f_134_31 : oFet 134 31 = some (.invokevirtual 54, 3) := by decide +kernel
theorem f_134_34 : oFet 134 34 = some (.ldc 59, 2) := by decide +kernel
theorem f_134_36 : oFet 134 36 = some (.invokevirtual 50, 3) := by decide +kernel
theorem f_134_39 : oFet 134 39 = some (.invokevirtual 61, 3) := by decide +kernel
theorem f_134_42 : oFet 134 42 = some (.invokespecial 65, 3) := by decide +kernel
theorem f_134_45 : oFet 134 45 = some (.athrow, 1) := by decide +kernel
theorem f_134_46 : oFet 134 46 = some (.iload_n 1, 1) := by decide +kernel
theorem s_134_46 {d : Nat} {l0 l2 : oV} {x : Int} {S : List oV} {σ : oSg} {Q : Option oV → (Nat → oC) → Prop} : oE d 134 46 [l0, .inl x, l2] S σ Q = oE d 134 47 [l0, .inl x, l2] (.inl x :: S) σ Q := pLdN (k := 1) f_134_46 rfl rfl rfl
theorem f_134_47 : oFet 134 47 = some (.ifCond .ge 12, 3) := by decide +kernel
theorem s_134_47 {d : Nat} {l0 l1 l2 : oV} {x : Int} {S : List oV} {σ : oSg} {Q : Option oV → (Nat → oC) → Prop} : oE d 134 47 [l0, l1, l2] (.inl x :: S) σ Q = if 0 ≤ x then oE d 134 59 [l0, l1, l2] S σ Q else oE d 134 50 [l0, l1, l2] S σ Q := oIfGe f_134_47 (by decide)
theorem f_134_50 : oFet 134 50 = some (.new 68, 3) := by decide +kernel
theorem f_134_53 : oFet 134 53 = some (.dup, 1) := by decide +kernel
theorem s_134_53 {d : Nat} {l0 l1 l2 : oV} {a : Nat} {S : List oV} {σ : oSg} {Q : Option oV → (Nat → oC) → Prop} : oE d 134 53 [l0, l1, l2] (.inr (.inr (.inl a)) :: S) σ Q = oE d 134 54 [l0, l1, l2] (.inr (.inr (.inl a)) :: .inr (.inr (.inl a)) :: S) σ Q := pDupR f_134_53
theorem s_134_53_i {d : Nat} {l0 l1 l2 : oV} {x : Int} {S : List oV} {σ : oSg} {Q : Option oV → (Nat → oC) → Prop} : oE d 134 53 [l0, l1, l2] (.inl x :: S) σ Q = oE d 134 54 [l0, l1, l2] (.inl x :: .inl x :: S) σ Q := pDupI f_134_53
theorem f_134_54 : oFet 134 54 = some (.iload_n 1, 1) := by decide +kernel
theorem s_134_54 {d : Nat} {l0 l2 : oV} {x : Int} {S : List oV} {σ : oSg} {Q : Option oV → (Nat → oC) → Prop} : oE d 134 54 [l0, .inl x, l2] S σ Q = oE d 134 55 [l0, .inl x, l2] (.inl x :: S) σ Q := pLdN (k := 1) f_134_54 rfl rfl rfl
theorem f_134_55 : oFet 134 55 = some (.invokespecial 70, 3) := by decide +kernel
theorem f_134_58 : oFet 134 58 = some (.athrow, 1) := by decide +kernel
theorem f_134_59 : oFet 134 59 = some (.iload_n 2, 1) := by decide +kernel
theorem s_134_59 {d : Nat} {l0 l1 : oV} {x : Int} {S : List oV} {σ : oSg} {Q : Option oV → (Nat → oC) → Prop} : oE d 134 59 [l0, l1, .inl x] S σ Q = oE d 134 60 [l0, l1, .inl x] (.inl x :: S) σ Q := pLdN (k := 2) f_134_59 rfl rfl rfl
theorem f_134_60 : oFet 134 60 = some (.iload_n 0, 1) := by decide +kernel
theorem s_134_60 {d : Nat} {l1 l2 : oV} {x : Int} {S : List oV} {σ : oSg} {Q : Option oV → (Nat → oC) → Prop} : oE d 134 60 [.inl x, l1, l2] S σ Q = oE d 134 61 [.inl x, l1, l2] (.inl x :: S) σ Q := pLdN (k := 0) f_134_60 rfl rfl rfl
theorem f_134_61 : oFet 134 61 = some (.if_icmp .le 12, 3) := by decide +kernel
theorem s_134_61 {d : Nat} {l0 l1 l2 : oV} {x y : Int} {S : List oV} {σ : oSg} {Q : Option oV → (Nat → oC) → Prop} : oE d 134 61 [l0, l1, l2] (.inl y :: .inl x :: S) σ Q = if x ≤ y then oE d 134 73 [l0, l1, l2] S σ Q else oE d 134 64 [l0, l1, l2] S σ Q := oCmpLe f_134_61 (by decide)
theorem f_134_64 : oFet 134 64 = some (.new 68, 3) := by decide +kernel
theorem f_134_67 : oFet 134 67 = some (.dup, 1) := by decide +kernel
theorem s_134_67 {d : Nat} {l0 l1 l2 : oV} {a : Nat} {S : List oV} {σ : oSg} {Q : Option oV → (Nat → oC) → Prop} : oE d 134 67 [l0, l1, l2] (.inr (.inr (.inl a)) :: S) σ Q = oE d 134 68 [l0, l1, l2] (.inr (.inr (.inl a)) :: .inr (.inr (.inl a)) :: S) σ Q := pDupR f_134_67
theorem s_134_67_i {d : Nat} {l0 l1 l2 : oV} {x : Int} {S : List oV} {σ : oSg} {Q : Option oV → (Nat → oC) → Prop} : oE d 134 67 [l0, l1, l2] (.inl x :: S) σ Q = oE d 134 68 [l0, l1, l2] (.inl x :: .inl x :: S) σ Q := pDupI f_134_67
theorem f_134_68 : oFet 134 68 = some (.iload_n 2, 1) := by decide +kernel
theorem s_134_68 {d : Nat} {l0 l1 : oV} {x : Int} {S : List oV} {σ : oSg} {Q : Option oV → (Nat → oC) → Prop} : oE d 134 68 [l0, l1, .inl x] S σ Q = oE d 134 69 [l0, l1, .inl x] (.inl x :: S) σ Q := pLdN (k := 2) f_134_68 rfl rfl rfl
theorem f_134_69 : oFet 134 69 = some (.invokespecial 70, 3) := by decide +kernel
theorem f_134_72 : oFet 134 72 = some (.athrow, 1) := by decide +kernel
theorem f_134_73 : oFet 134 73 = some (.return_, 1) := by decide +kernel
theorem s_134_73 {d : Nat} {l0 l1 l2 : oV} {σ : oSg} {Q : Option oV → (Nat → oC) → Prop} : oE d 134 73 [l0, l1, l2] [] σ Q = Q none (oBld σ) := oVret f_134_73 rt_134
theorem ow_135 : (oMt 135).2.2.2.2.1 = 10 := by decide +kernel
theorem rt_135 : (oMt 135).2.2.2.1 = some .int := by decide +kernel
theorem nl_135 : (oMt 135).2.2.1 = 5 := by decide +kernel
theorem f_135_0 : oFet 135 0 = some (.aload_n 0, 1) := by decide +kernel
theorem s_135_0 {d : Nat} {l1 l2 l3 l4 : oV} {a : Nat} {S : List oV} {σ : oSg} {Q : Option oV → (Nat → oC) → Prop} : oE d 135 0 [.inr (.inr (.inl a)), l1, l2, l3, l4] S σ Q = oE d 135 1 [.inr (.inr (.inl a)), l1, l2, l3, l4] (.inr (.inr (.inl a)) :: S) σ Q := pLdN (k := 0) f_135_0 rfl rfl rfl
theorem f_135_1 : oFet 135 1 = some (.getfield 31, 3) := by decide +kernel
theorem s_135_1 {d : Nat} {l0 l1 l2 l3 l4 : oV} {a : Nat} {S : List oV} {σ : oSg} {Q : Option oV → (Nat → oC) → Prop} (hk : oKd a = some 10) : oE d 135 1 [l0, l1, l2, l3, l4] (.inr (.inr (.inl a)) :: S) σ Q = oE d 135 4 [l0, l1, l2, l3, l4] (.inr (.inr (.inl (oRf a 4))) :: S) σ Q := pGfR f_135_1 ow_135 fl_10_31 rfl (by decide) hk
theorem f_135_4 : oFet 135 4 = some (.iload_n 1, 1) := by decide +kernel
theorem s_135_4 {d : Nat} {l0 l2 l3 l4 : oV} {x : Int} {S : List oV} {σ : oSg} {Q : Option oV → (Nat → oC) → Prop} : oE d 135 4 [l0, .inl x, l2, l3, l4] S σ Q = oE d 135 5 [l0, .inl x, l2, l3, l4] (.inl x :: S) σ Q := pLdN (k := 1) f_135_4 rfl rfl rfl
theorem f_135_5 : oFet 135 5 = some (.invokevirtual 333, 3) := by decide +kernel
theorem c_135_5 {d : Nat} {l0 l1 l2 l3 l4 : oV} {x0 : oV} {a : Nat} {v : Option oV} {τ : oSg} {S : List oV} {σ : oSg} {Q : Option oV → (Nat → oC) → Prop} (hm : oMi d 120 [.inr (.inr (.inl a)), x0] σ v τ) (hk : oKd a = some 8) (hs : oSmall S = true) : oE d 135 5 [l0, l1, l2, l3, l4] (x0 :: .inr (.inr (.inl a)) :: S) σ Q = oE d 135 8 [l0, l1, l2, l3, l4] (v.toList ++ S) τ Q := pCallV f_135_5 ow_135 lk_10_333 mt_120 rfl rfl rfl hk hs hm
theorem f_135_8 : oFet 135 8 = some (.ifCond .ne 5, 3) := by decide +kernel
theorem s_135_8 {d : Nat} {l0 l1 l2 l3 l4 : oV} {x : Int} {S : List oV} {σ : oSg} {Q : Option oV → (Nat → oC) → Prop} : oE d 135 8 [l0, l1, l2, l3, l4] (.inl x :: S) σ Q = if ¬ x = 0 then oE d 135 13 [l0, l1, l2, l3, l4] S σ Q else oE d 135 11 [l0, l1, l2, l3, l4] S σ Q := oIfNe f_135_8 (by decide)
theorem f_135_11 : oFet 135 11 = some (.iconst (-1), 1) := by decide +kernel
theorem s_135_11 {d : Nat} {l0 l1 l2 l3 l4 : oV} {S : List oV} {σ : oSg} {Q : Option oV → (Nat → oC) → Prop} : oE d 135 11 [l0, l1, l2, l3, l4] S σ Q = oE d 135 12 [l0, l1, l2, l3, l4] (.inl (-1) :: S) σ Q := pKst f_135_11 (by decide)
theorem f_135_12 : oFet 135 12 = some (.ireturn, 1) := by decide +kernel
theorem s_135_12 {d : Nat} {l0 l1 l2 l3 l4 : oV} {x : Int} {σ : oSg} {Q : Option oV → (Nat → oC) → Prop} : oE d 135 12 [l0, l1, l2, l3, l4] [.inl x] σ Q = Q (some (.inl x)) (oBld σ) := oIret f_135_12 rt_135
theorem f_135_13 : oFet 135 13 = some (.aload_n 0, 1) := by decide +kernel
theorem s_135_13 {d : Nat} {l1 l2 l3 l4 : oV} {a : Nat} {S : List oV} {σ : oSg} {Q : Option oV → (Nat → oC) → Prop} : oE d 135 13 [.inr (.inr (.inl a)), l1, l2, l3, l4] S σ Q = oE d 135 14 [.inr (.inr (.inl a)), l1, l2, l3, l4] (.inr (.inr (.inl a)) :: S) σ Q := pLdN (k := 0) f_135_13 rfl rfl rfl
theorem f_135_14 : oFet 135 14 = some (.getfield 31, 3) := by decide +kernel
theorem s_135_14 {d : Nat} {l0 l1 l2 l3 l4 : oV} {a : Nat} {S : List oV} {σ : oSg} {Q : Option oV → (Nat → oC) → Prop} (hk : oKd a = some 10) : oE d 135 14 [l0, l1, l2, l3, l4] (.inr (.inr (.inl a)) :: S) σ Q = oE d 135 17 [l0, l1, l2, l3, l4] (.inr (.inr (.inl (oRf a 4))) :: S) σ Q := pGfR f_135_14 ow_135 fl_10_31 rfl (by decide) hk
theorem f_135_17 : oFet 135 17 = some (.iload_n 1, 1) := by decide +kernel
theorem s_135_17 {d : Nat} {l0 l2 l3 l4 : oV} {x : Int} {S : List oV} {σ : oSg} {Q : Option oV → (Nat → oC) → Prop} : oE d 135 17 [l0, .inl x, l2, l3, l4] S σ Q = oE d 135 18 [l0, .inl x, l2, l3, l4] (.inl x :: S) σ Q := pLdN (k := 1) f_135_17 rfl rfl rfl
theorem f_135_18 : oFet 135 18 = some (.invokevirtual 334, 3) := by decide +kernel
theorem c_135_18 {d : Nat} {l0 l1 l2 l3 l4 : oV} {x0 : oV} {a : Nat} {v : Option oV} {τ : oSg} {S : List oV} {σ : oSg} {Q : Option oV → (Nat → oC) → Prop} (hm : oMi d 121 [.inr (.inr (.inl a)), x0] σ v τ) (hk : oKd a = some 8) (hs : oSmall S = true) : oE d 135 18 [l0, l1, l2, l3, l4] (x0 :: .inr (.inr (.inl a)) :: S) σ Q = oE d 135 21 [l0, l1, l2, l3, l4] (v.toList ++ S) τ Q := pCallV f_135_18 ow_135 lk_10_334 mt_121 rfl rfl rfl hk hs hm
theorem f_135_21 : oFet 135 21 = some (.ifCond .ne 6, 3) := by decide +kernel
theorem s_135_21 {d : Nat} {l0 l1 l2 l3 l4 : oV} {x : Int} {S : List oV} {σ : oSg} {Q : Option oV → (Nat → oC) → Prop} : oE d 135 21 [l0, l1, l2, l3, l4] (.inl x :: S) σ Q = if ¬ x = 0 then oE d 135 27 [l0, l1, l2, l3, l4] S σ Q else oE d 135 24 [l0, l1, l2, l3, l4] S σ Q := oIfNe f_135_21 (by decide)
theorem f_135_24 : oFet 135 24 = some (.bipush (-11), 2) := by decide +kernel
theorem s_135_24 {d : Nat} {l0 l1 l2 l3 l4 : oV} {S : List oV} {σ : oSg} {Q : Option oV → (Nat → oC) → Prop} : oE d 135 24 [l0, l1, l2, l3, l4] S σ Q = oE d 135 26 [l0, l1, l2, l3, l4] (.inl (-11) :: S) σ Q := pBip f_135_24 (by decide)
theorem f_135_26 : oFet 135 26 = some (.ireturn, 1) := by decide +kernel
theorem s_135_26 {d : Nat} {l0 l1 l2 l3 l4 : oV} {x : Int} {σ : oSg} {Q : Option oV → (Nat → oC) → Prop} : oE d 135 26 [l0, l1, l2, l3, l4] [.inl x] σ Q = Q (some (.inl x)) (oBld σ) := oIret f_135_26 rt_135
theorem f_135_27 : oFet 135 27 = some (.iload_n 2, 1) := by decide +kernel
theorem s_135_27 {d : Nat} {l0 l1 l3 l4 : oV} {x : Int} {S : List oV} {σ : oSg} {Q : Option oV → (Nat → oC) → Prop} : oE d 135 27 [l0, l1, .inl x, l3, l4] S σ Q = oE d 135 28 [l0, l1, .inl x, l3, l4] (.inl x :: S) σ Q := pLdN (k := 2) f_135_27 rfl rfl rfl
theorem f_135_28 : oFet 135 28 = some (.ifCond .lt 15, 3) := by decide +kernel
theorem s_135_28 {d : Nat} {l0 l1 l2 l3 l4 : oV} {x : Int} {S : List oV} {σ : oSg} {Q : Option oV → (Nat → oC) → Prop} : oE d 135 28 [l0, l1, l2, l3, l4] (.inl x :: S) σ Q = if x < 0 then oE d 135 43 [l0, l1, l2, l3, l4] S σ Q else oE d 135 31 [l0, l1, l2, l3, l4] S σ Q := oIfLt f_135_28 (by decide)
theorem f_135_31 : oFet 135 31 = some (.iload_n 2, 1) := by decide +kernel
theorem s_135_31 {d : Nat} {l0 l1 l3 l4 : oV} {x : Int} {S : List oV} {σ : oSg} {Q : Option oV → (Nat → oC) → Prop} : oE d 135 31 [l0, l1, .inl x, l3, l4] S σ Q = oE d 135 32 [l0, l1, .inl x, l3, l4] (.inl x :: S) σ Q := pLdN (k := 2) f_135_31 rfl rfl rfl
theorem f_135_32 : oFet 135 32 = some (.aload_n 0, 1) := by decide +kernel
theorem s_135_32 {d : Nat} {l1 l2 l3 l4 : oV} {a : Nat} {S : List oV} {σ : oSg} {Q : Option oV → (Nat → oC) → Prop} : oE d 135 32 [.inr (.inr (.inl a)), l1, l2, l3, l4] S σ Q = oE d 135 33 [.inr (.inr (.inl a)), l1, l2, l3, l4] (.inr (.inr (.inl a)) :: S) σ Q := pLdN (k := 0) f_135_32 rfl rfl rfl
theorem f_135_33 : oFet 135 33 = some (.getfield 31, 3) := by decide +kernel
theorem s_135_33 {d : Nat} {l0 l1 l2 l3 l4 : oV} {a : Nat} {S : List oV} {σ : oSg} {Q : Option oV → (Nat → oC) → Prop} (hk : oKd a = some 10) : oE d 135 33 [l0, l1, l2, l3, l4] (.inr (.inr (.inl a)) :: S) σ Q = oE d 135 36 [l0, l1, l2, l3, l4] (.inr (.inr (.inl (oRf a 4))) :: S) σ Q := pGfR f_135_33 ow_135 fl_10_31 rfl (by decide) hk
theorem f_135_36 : oFet 135 36 = some (.iload_n 1, 1) := by decide +kernel
theorem s_135_36 {d : Nat} {l0 l2 l3 l4 : oV} {x : Int} {S : List oV} {σ : oSg} {Q : Option oV → (Nat → oC) → Prop} : oE d 135 36 [l0, .inl x, l2, l3, l4] S σ Q = oE d 135 37 [l0, .inl x, l2, l3, l4] (.inl x :: S) σ Q := pLdN (k := 1) f_135_36 rfl rfl rfl
theorem f_135_37 : oFet 135 37 = some (.invokevirtual 340, 3) := by decide +kernel
theorem c_135_37 {d : Nat} {l0 l1 l2 l3 l4 : oV} {x0 : oV} {a : Nat} {v : Option oV} {τ : oSg} {S : List oV} {σ : oSg} {Q : Option oV → (Nat → oC) → Prop} (hm : oMi d 123 [.inr (.inr (.inl a)), x0] σ v τ) (hk : oKd a = some 8) (hs : oSmall S = true) : oE d 135 37 [l0, l1, l2, l3, l4] (x0 :: .inr (.inr (.inl a)) :: S) σ Q = oE d 135 40 [l0, l1, l2, l3, l4] (v.toList ++ S) τ Q := pCallV f_135_37 ow_135 lk_10_340 mt_123 rfl rfl rfl hk hs hm
theorem f_135_40 : oFet 135 40 = some (.if_icmp .lt 6, 3) := by decide +kernel
theorem s_135_40 {d : Nat} {l0 l1 l2 l3 l4 : oV} {x y : Int} {S : List oV} {σ : oSg} {Q : Option oV → (Nat → oC) → Prop} : oE d 135 40 [l0, l1, l2, l3, l4] (.inl y :: .inl x :: S) σ Q = if x < y then oE d 135 46 [l0, l1, l2, l3, l4] S σ Q else oE d 135 43 [l0, l1, l2, l3, l4] S σ Q := oCmpLt f_135_40 (by decide)
theorem f_135_43 : oFet 135 43 = some (.bipush (-13), 2) := by decide +kernel
theorem s_135_43 {d : Nat} {l0 l1 l2 l3 l4 : oV} {S : List oV} {σ : oSg} {Q : Option oV → (Nat → oC) → Prop} : oE d 135 43 [l0, l1, l2, l3, l4] S σ Q = oE d 135 45 [l0, l1, l2, l3, l4] (.inl (-13) :: S) σ Q := pBip f_135_43 (by decide)
theorem f_135_45 : oFet 135 45 = some (.ireturn, 1) := by decide +kernel
theorem s_135_45 {d : Nat} {l0 l1 l2 l3 l4 : oV} {x : Int} {σ : oSg} {Q : Option oV → (Nat → oC) → Prop} : oE d 135 45 [l0, l1, l2, l3, l4] [.inl x] σ Q = Q (some (.inl x)) (oBld σ) := oIret f_135_45 rt_135
theorem f_135_46 : oFet 135 46 = some (.aload_n 0, 1) := by decide +kernel
theorem s_135_46 {d : Nat} {l1 l2 l3 l4 : oV} {a : Nat} {S : List oV} {σ : oSg} {Q : Option oV → (Nat → oC) → Prop} : oE d 135 46 [.inr (.inr (.inl a)), l1, l2, l3, l4] S σ Q = oE d 135 47 [.inr (.inr (.inl a)), l1, l2, l3, l4] (.inr (.inr (.inl a)) :: S) σ Q := pLdN (k := 0) f_135_46 rfl rfl rfl
theorem f_135_47 : oFet 135 47 = some (.getfield 31, 3) := by decide +kernel
theorem s_135_47 {d : Nat} {l0 l1 l2 l3 l4 : oV} {a : Nat} {S : List oV} {σ : oSg} {Q : Option oV → (Nat → oC) → Prop} (hk : oKd a = some 10) : oE d 135 47 [l0, l1, l2, l3, l4] (.inr (.inr (.inl a)) :: S) σ Q = oE d 135 50 [l0, l1, l2, l3, l4] (.inr (.inr (.inl (oRf a 4))) :: S) σ Q := pGfR f_135_47 ow_135 fl_10_31 rfl (by decide) hk
theorem f_135_50 : oFet 135 50 = some (.iload_n 1, 1) := by decide +kernel
theorem s_135_50 {d : Nat} {l0 l2 l3 l4 : oV} {x : Int} {S : List oV} {σ : oSg} {Q : Option oV → (Nat → oC) → Prop} : oE d 135 50 [l0, .inl x, l2, l3, l4] S σ Q = oE d 135 51 [l0, .inl x, l2, l3, l4] (.inl x :: S) σ Q := pLdN (k := 1) f_135_50 rfl rfl rfl
theorem f_135_51 : oFet 135 51 = some (.iload_n 2, 1) := by decide +kernel
theorem s_135_51 {d : Nat} {l0 l1 l3 l4 : oV} {x : Int} {S : List oV} {σ : oSg} {Q : Option oV → (Nat → oC) → Prop} : oE d 135 51 [l0, l1, .inl x, l3, l4] S σ Q = oE d 135 52 [l0, l1, .inl x, l3, l4] (.inl x :: S) σ Q := pLdN (k := 2) f_135_51 rfl rfl rfl
theorem f_135_52 : oFet 135 52 = some (.lload_n 3, 1) := by decide +kernel
theorem s_135_52 {d : Nat} {l0 l1 l2 l4 : oV} {x : Int} {S : List oV} {σ : oSg} {Q : Option oV → (Nat → oC) → Prop} : oE d 135 52 [l0, l1, l2, .inr (.inl x), l4] S σ Q = oE d 135 53 [l0, l1, l2, .inr (.inl x), l4] (.inr (.inl x) :: S) σ Q := pLdN (k := 3) f_135_52 rfl rfl rfl
theorem f_135_53 : oFet 135 53 = some (.invokevirtual 357, 3) := by decide +kernel
theorem c_135_53 {d : Nat} {l0 l1 l2 l3 l4 : oV} {x0 x1 x2 : oV} {a : Nat} {v : Option oV} {τ : oSg} {S : List oV} {σ : oSg} {Q : Option oV → (Nat → oC) → Prop} (hm : oMi d 136 [.inr (.inr (.inl a)), x0, x1, x2] σ v τ) (hk : oKd a = some 8) (hs : oSmall S = true) : oE d 135 53 [l0, l1, l2, l3, l4] (x2 :: x1 :: x0 :: .inr (.inr (.inl a)) :: S) σ Q = oE d 135 56 [l0, l1, l2, l3, l4] (v.toList ++ S) τ Q := pCallV f_135_53 ow_135 lk_10_357 mt_136 rfl rfl rfl hk hs hm
theorem f_135_56 : oFet 135 56 = some (.iconst 1, 1) := by decide +kernel
theorem s_135_56 {d : Nat} {l0 l1 l2 l3 l4 : oV} {S : List oV} {σ : oSg} {Q : Option oV → (Nat → oC) → Prop} : oE d 135 56 [l0, l1, l2, l3, l4] S σ Q = oE d 135 57 [l0, l1, l2, l3, l4] (.inl (1) :: S) σ Q := pKst f_135_56 (by decide)
theorem f_135_57 : oFet 135 57 = some (.ireturn, 1) := by decide +kernel
theorem s_135_57 {d : Nat} {l0 l1 l2 l3 l4 : oV} {x : Int} {σ : oSg} {Q : Option oV → (Nat → oC) → Prop} : oE d 135 57 [l0, l1, l2, l3, l4] [.inl x] σ Q = Q (some (.inl x)) (oBld σ) := oIret f_135_57 rt_135
theorem ow_136 : (oMt 136).2.2.2.2.1 = 8 := by decide +kernel
theorem rt_136 : (oMt 136).2.2.2.1 = none := by decide +kernel
theorem nl_136 : (oMt 136).2.2.1 = 5 := by decide +kernel
theorem f_136_0 : oFet 136 0 = some (.aload_n 0, 1) := by decide +kernel
theorem s_136_0 {d : Nat} {l1 l2 l3 l4 : oV} {a : Nat} {S : List oV} {σ : oSg} {Q : Option oV → (Nat → oC) → Prop} : oE d 136 0 [.inr (.inr (.inl a)), l1, l2, l3, l4] S σ Q = oE d 136 1 [.inr (.inr (.inl a)), l1, l2, l3, l4] (.inr (.inr (.inl a)) :: S) σ Q := pLdN (k := 0) f_136_0 rfl rfl rfl
theorem f_136_1 : oFet 136 1 = some (.iload_n 1, 1) := by decide +kernel
theorem s_136_1 {d : Nat} {l0 l2 l3 l4 : oV} {x : Int} {S : List oV} {σ : oSg} {Q : Option oV → (Nat → oC) → Prop} : oE d 136 1 [l0, .inl x, l2, l3, l4] S σ Q = oE d 136 2 [l0, .inl x, l2, l3, l4] (.inl x :: S) σ Q := pLdN (k := 1) f_136_1 rfl rfl rfl
theorem f_136_2 : oFet 136 2 = some (.iload_n 2, 1) := by decide +kernel
theorem s_136_2 {d : Nat} {l0 l1 l3 l4 : oV} {x : Int} {S : List oV} {σ : oSg} {Q : Option oV → (Nat → oC) → Prop} : oE d 136 2 [l0, l1, .inl x, l3, l4] S σ Q = oE d 136 3 [l0, l1, .inl x, l3, l4] (.inl x :: S) σ Q := pLdN (k := 2) f_136_2 rfl rfl rfl
theorem f_136_3 : oFet 136 3 = some (.iconst 1, 1) := by decide +kernel
theorem s_136_3 {d : Nat} {l0 l1 l2 l3 l4 : oV} {S : List oV} {σ : oSg} {Q : Option oV → (Nat → oC) → Prop} : oE d 136 3 [l0, l1, l2, l3, l4] S σ Q = oE d 136 4 [l0, l1, l2, l3, l4] (.inl (1) :: S) σ Q := pKst f_136_3 (by decide)
theorem f_136_4 : oFet 136 4 = some (.invokevirtual 40, 3) := by decide +kernel
theorem c_136_4 {d : Nat} {l0 l1 l2 l3 l4 : oV} {x0 x1 x2 : oV} {a : Nat} {v : Option oV} {τ : oSg} {S : List oV} {σ : oSg} {Q : Option oV → (Nat → oC) → Prop} (hm : oMi d 125 [.inr (.inr (.inl a)), x0, x1, x2] σ v τ) (hk : oKd a = some 8) (hs : oSmall S = true) : oE d 136 4 [l0, l1, l2, l3, l4] (x2 :: x1 :: x0 :: .inr (.inr (.inl a)) :: S) σ Q = oE d 136 7 [l0, l1, l2, l3, l4] (v.toList ++ S) τ Q := pCallV f_136_4 ow_136 lk_8_40 mt_125 rfl rfl rfl hk hs hm
theorem f_136_7 : oFet 136 7 = some (.ifCond .eq 23, 3) := by decide +kernel
theorem s_136_7 {d : Nat} {l0 l1 l2 l3 l4 : oV} {x : Int} {S : List oV} {σ : oSg} {Q : Option oV → (Nat → oC) → Prop} : oE d 136 7 [l0, l1, l2, l3, l4] (.inl x :: S) σ Q = if x = 0 then oE d 136 30 [l0, l1, l2, l3, l4] S σ Q else oE d 136 10 [l0, l1, l2, l3, l4] S σ Q := oIfEq f_136_7 (by decide)
theorem f_136_10 : oFet 136 10 = some (.aload_n 0, 1) := by decide +kernel
theorem s_136_10 {d : Nat} {l1 l2 l3 l4 : oV} {a : Nat} {S : List oV} {σ : oSg} {Q : Option oV → (Nat → oC) → Prop} : oE d 136 10 [.inr (.inr (.inl a)), l1, l2, l3, l4] S σ Q = oE d 136 11 [.inr (.inr (.inl a)), l1, l2, l3, l4] (.inr (.inr (.inl a)) :: S) σ Q := pLdN (k := 0) f_136_10 rfl rfl rfl
theorem f_136_11 : oFet 136 11 = some (.getfield 16, 3) := by decide +kernel
theorem s_136_11 {d : Nat} {l0 l1 l2 l3 l4 : oV} {a : Nat} {S : List oV} {σ : oSg} {Q : Option oV → (Nat → oC) → Prop} (hk : oKd a = some 8) : oE d 136 11 [l0, l1, l2, l3, l4] (.inr (.inr (.inl a)) :: S) σ Q = oE d 136 14 [l0, l1, l2, l3, l4] (.inr (.inr (.inl (oRf a 2))) :: S) σ Q := pGfR f_136_11 ow_136 fl_8_16 rfl (by decide) hk
theorem f_136_14 : oFet 136 14 = some (.iload_n 1, 1) := by decide +kernel
theorem s_136_14 {d : Nat} {l0 l2 l3 l4 : oV} {x : Int} {S : List oV} {σ : oSg} {Q : Option oV → (Nat → oC) → Prop} : oE d 136 14 [l0, .inl x, l2, l3, l4] S σ Q = oE d 136 15 [l0, .inl x, l2, l3, l4] (.inl x :: S) σ Q := pLdN (k := 1) f_136_14 rfl rfl rfl
theorem f_136_15 : oFet 136 15 = some (.bipush 60, 2) := by decide +kernel
theorem s_136_15 {d : Nat} {l0 l1 l2 l3 l4 : oV} {S : List oV} {σ : oSg} {Q : Option oV → (Nat → oC) → Prop} : oE d 136 15 [l0, l1, l2, l3, l4] S σ Q = oE d 136 17 [l0, l1, l2, l3, l4] (.inl (60) :: S) σ Q := pBip f_136_15 (by decide)
theorem f_136_17 : oFet 136 17 = some (.imul, 1) := by decide +kernel
theorem s_136_17 {d : Nat} {l0 l1 l2 l3 l4 : oV} {x y : Int} {S : List oV} {σ : oSg} {Q : Option oV → (Nat → oC) → Prop} : oE d 136 17 [l0, l1, l2, l3, l4] (.inl y :: .inl x :: S) σ Q = oE d 136 18 [l0, l1, l2, l3, l4] (.inl (oMul x y) :: S) σ Q := oS3 f_136_17 rfl rfl rfl
theorem f_136_18 : oFet 136 18 = some (.iload_n 2, 1) := by decide +kernel
theorem s_136_18 {d : Nat} {l0 l1 l3 l4 : oV} {x : Int} {S : List oV} {σ : oSg} {Q : Option oV → (Nat → oC) → Prop} : oE d 136 18 [l0, l1, .inl x, l3, l4] S σ Q = oE d 136 19 [l0, l1, .inl x, l3, l4] (.inl x :: S) σ Q := pLdN (k := 2) f_136_18 rfl rfl rfl
theorem f_136_19 : oFet 136 19 = some (.iadd, 1) := by decide +kernel
theorem s_136_19 {d : Nat} {l0 l1 l2 l3 l4 : oV} {x y : Int} {S : List oV} {σ : oSg} {Q : Option oV → (Nat → oC) → Prop} : oE d 136 19 [l0, l1, l2, l3, l4] (.inl y :: .inl x :: S) σ Q = oE d 136 20 [l0, l1, l2, l3, l4] (.inl (oAdd x y) :: S) σ Q := oS3 f_136_19 rfl rfl rfl
theorem f_136_20 : oFet 136 20 = some (.aload_n 0, 1) := by decide +kernel
theorem s_136_20 {d : Nat} {l1 l2 l3 l4 : oV} {a : Nat} {S : List oV} {σ : oSg} {Q : Option oV → (Nat → oC) → Prop} : oE d 136 20 [.inr (.inr (.inl a)), l1, l2, l3, l4] S σ Q = oE d 136 21 [.inr (.inr (.inl a)), l1, l2, l3, l4] (.inr (.inr (.inl a)) :: S) σ Q := pLdN (k := 0) f_136_20 rfl rfl rfl
theorem f_136_21 : oFet 136 21 = some (.iload_n 1, 1) := by decide +kernel
theorem s_136_21 {d : Nat} {l0 l2 l3 l4 : oV} {x : Int} {S : List oV} {σ : oSg} {Q : Option oV → (Nat → oC) → Prop} : oE d 136 21 [l0, .inl x, l2, l3, l4] S σ Q = oE d 136 22 [l0, .inl x, l2, l3, l4] (.inl x :: S) σ Q := pLdN (k := 1) f_136_21 rfl rfl rfl
theorem f_136_22 : oFet 136 22 = some (.invokevirtual 30, 3) := by decide +kernel
theorem c_136_22 {d : Nat} {l0 l1 l2 l3 l4 : oV} {x0 : oV} {a : Nat} {v : Option oV} {τ : oSg} {S : List oV} {σ : oSg} {Q : Option oV → (Nat → oC) → Prop} (hm : oMi d 122 [.inr (.inr (.inl a)), x0] σ v τ) (hk : oKd a = some 8) (hs : oSmall S = true) : oE d 136 22 [l0, l1, l2, l3, l4] (x0 :: .inr (.inr (.inl a)) :: S) σ Q = oE d 136 25 [l0, l1, l2, l3, l4] (v.toList ++ S) τ Q := pCallV f_136_22 ow_136 lk_8_30 mt_122 rfl rfl rfl hk hs hm
theorem f_136_25 : oFet 136 25 = some (.lload_n 3, 1) := by decide +kernel
theorem s_136_25 {d : Nat} {l0 l1 l2 l4 : oV} {x : Int} {S : List oV} {σ : oSg} {Q : Option oV → (Nat → oC) → Prop} : oE d 136 25 [l0, l1, l2, .inr (.inl x), l4] S σ Q = oE d 136 26 [l0, l1, l2, .inr (.inl x), l4] (.inr (.inl x) :: S) σ Q := pLdN (k := 3) f_136_25 rfl rfl rfl
theorem f_136_26 : oFet 136 26 = some (.invokestatic 44, 3) := by decide +kernel
theorem c_136_26 {d : Nat} {l0 l1 l2 l3 l4 : oV} {x0 x1 : oV} {v : Option oV} {τ : oSg} {S : List oV} {σ : oSg} {Q : Option oV → (Nat → oC) → Prop} (hm : oMi d 137 [x0, x1] σ v τ) (hs : oSmall S = true) : oE d 136 26 [l0, l1, l2, l3, l4] (x1 :: x0 :: S) σ Q = oE d 136 29 [l0, l1, l2, l3, l4] (v.toList ++ S) τ Q := pCallS f_136_26 ow_136 lk_8_44 mt_137 rfl rfl rfl hs hm
theorem f_136_29 : oFet 136 29 = some (.lastore, 1) := by decide +kernel
theorem s_136_29 {d : Nat} {l0 l1 l2 l3 l4 : oV} {a : Nat} {i v : Int} {S : List oV} {σ : oSg} {Q : Option oV → (Nat → oC) → Prop} (hk : oAk a = some 1) (h0 : 0 ≤ i) (h1 : i < (oLn a : Int)) : oE d 136 29 [l0, l1, l2, l3, l4] (.inr (.inl v) :: .inl i :: .inr (.inr (.inl a)) :: S) σ Q = oE d 136 30 [l0, l1, l2, l3, l4] S (oSA σ a i.toNat v) Q := oLas f_136_29 hk h0 h1
theorem f_136_30 : oFet 136 30 = some (.return_, 1) := by decide +kernel
theorem s_136_30 {d : Nat} {l0 l1 l2 l3 l4 : oV} {σ : oSg} {Q : Option oV → (Nat → oC) → Prop} : oE d 136 30 [l0, l1, l2, l3, l4] [] σ Q = Q none (oBld σ) := oVret f_136_30 rt_136
theorem ow_137 : (oMt 137).2.2.2.2.1 = 8 := by decide +kernel
theorem rt_137 : (oMt 137).2.2.2.1 = some .long := by decide +kernel
theorem nl_137 : (oMt 137).2.2.1 = 3 := by decide +kernel
theorem f_137_0 : oFet 137 0 = some (.iload_n 0, 1) := by decide +kernel
theorem s_137_0 {d : Nat} {l1 l2 : oV} {x : Int} {S : List oV} {σ : oSg} {Q : Option oV → (Nat → oC) → Prop} : oE d 137 0 [.inl x, l1, l2] S σ Q = oE d 137 1 [.inl x, l1, l2] (.inl x :: S) σ Q := pLdN (k := 0) f_137_0 rfl rfl rfl
theorem f_137_1 : oFet 137 1 = some (.tableswitch 61 0 4 #[35, 40, 45, 61, 49], 35) := by decide +kernel
theorem s_137_1_0 {d : Nat} {l0 l1 l2 : oV} {S : List oV} {σ : oSg} {Q : Option oV → (Nat → oC) → Prop} : oE d 137 1 [l0, l1, l2] (.inl (0) :: S) σ Q = oE d 137 36 [l0, l1, l2] S σ Q := oTabIn f_137_1 (by decide) rfl (by decide)
theorem s_137_1_1 {d : Nat} {l0 l1 l2 : oV} {S : List oV} {σ : oSg} {Q : Option oV → (Nat → oC) → Prop} : oE d 137 1 [l0, l1, l2] (.inl (1) :: S) σ Q = oE d 137 41 [l0, l1, l2] S σ Q := oTabIn f_137_1 (by decide) rfl (by decide)
theorem s_137_1_2 {d : Nat} {l0 l1 l2 : oV} {S : List oV} {σ : oSg} {Q : Option oV → (Nat → oC) → Prop} : oE d 137 1 [l0, l1, l2] (.inl (2) :: S) σ Q = oE d 137 46 [l0, l1, l2] S σ Q := oTabIn f_137_1 (by decide) rfl (by decide)
theorem s_137_1_3 {d : Nat} {l0 l1 l2 : oV} {S : List oV} {σ : oSg} {Q : Option oV → (Nat → oC) → Prop} : oE d 137 1 [l0, l1, l2] (.inl (3) :: S) σ Q = oE d 137 62 [l0, l1, l2] S σ Q := oTabIn f_137_1 (by decide) rfl (by decide)
theorem s_137_1_4 {d : Nat} {l0 l1 l2 : oV} {S : List oV} {σ : oSg} {Q : Option oV → (Nat → oC) → Prop} : oE d 137 1 [l0, l1, l2] (.inl (4) :: S) σ Q = oE d 137 50 [l0, l1, l2] S σ Q := oTabIn f_137_1 (by decide) rfl (by decide)
theorem s_137_1_d {d : Nat} {l0 l1 l2 : oV} {x : Int} {S : List oV} {σ : oSg} {Q : Option oV → (Nat → oC) → Prop} (hx : x < 0 ∨ 4 < x) : oE d 137 1 [l0, l1, l2] (.inl x :: S) σ Q = oE d 137 62 [l0, l1, l2] S σ Q := oTabOut f_137_1 hx (by decide)
theorem f_137_36 : oFet 137 36 = some (.lload_n 1, 1) := by decide +kernel
theorem s_137_36 {d : Nat} {l0 l2 : oV} {x : Int} {S : List oV} {σ : oSg} {Q : Option oV → (Nat → oC) → Prop} : oE d 137 36 [l0, .inr (.inl x), l2] S σ Q = oE d 137 37 [l0, .inr (.inl x), l2] (.inr (.inl x) :: S) σ Q := pLdN (k := 1) f_137_36 rfl rfl rfl
theorem f_137_37 : oFet 137 37 = some (.l2i, 1) := by decide +kernel
theorem s_137_37 {d : Nat} {l0 l1 l2 : oV} {x : Int} {S : List oV} {σ : oSg} {Q : Option oV → (Nat → oC) → Prop} : oE d 137 37 [l0, l1, l2] (.inr (.inl x) :: S) σ Q = oE d 137 38 [l0, l1, l2] (.inl (oL2i x) :: S) σ Q := oS4 f_137_37 rfl rfl rfl rfl
theorem f_137_38 : oFet 137 38 = some (.i2b, 1) := by decide +kernel
theorem s_137_38 {d : Nat} {l0 l1 l2 : oV} {x : Int} {S : List oV} {σ : oSg} {Q : Option oV → (Nat → oC) → Prop} : oE d 137 38 [l0, l1, l2] (.inl x :: S) σ Q = oE d 137 39 [l0, l1, l2] (.inl (oI2b x) :: S) σ Q := oS4 f_137_38 rfl rfl rfl rfl
theorem f_137_39 : oFet 137 39 = some (.i2l, 1) := by decide +kernel
theorem s_137_39 {d : Nat} {l0 l1 l2 : oV} {x : Int} {S : List oV} {σ : oSg} {Q : Option oV → (Nat → oC) → Prop} : oE d 137 39 [l0, l1, l2] (.inl x :: S) σ Q = oE d 137 40 [l0, l1, l2] (.inr (.inl x) :: S) σ Q := oS4 f_137_39 rfl rfl rfl rfl
theorem f_137_40 : oFet 137 40 = some (.lreturn, 1) := by decide +kernel
theorem s_137_40 {d : Nat} {l0 l1 l2 : oV} {x : Int} {σ : oSg} {Q : Option oV → (Nat → oC) → Prop} : oE d 137 40 [l0, l1, l2] [.inr (.inl x)] σ Q = Q (some (.inr (.inl x))) (oBld σ) := oLret f_137_40 rt_137
theorem f_137_41 : oFet 137 41 = some (.lload_n 1, 1) := by decide +kernel
theorem s_137_41 {d : Nat} {l0 l2 : oV} {x : Int} {S : List oV} {σ : oSg} {Q : Option oV → (Nat → oC) → Prop} : oE d 137 41 [l0, .inr (.inl x), l2] S σ Q = oE d 137 42 [l0, .inr (.inl x), l2] (.inr (.inl x) :: S) σ Q := pLdN (k := 1) f_137_41 rfl rfl rfl
theorem f_137_42 : oFet 137 42 = some (.l2i, 1) := by decide +kernel
theorem s_137_42 {d : Nat} {l0 l1 l2 : oV} {x : Int} {S : List oV} {σ : oSg} {Q : Option oV → (Nat → oC) → Prop} : oE d 137 42 [l0, l1, l2] (.inr (.inl x) :: S) σ Q = oE d 137 43 [l0, l1, l2] (.inl (oL2i x) :: S) σ Q := oS4 f_137_42 rfl rfl rfl rfl
theorem f_137_43 : oFet 137 43 = some (.i2s, 1) := by decide +kernel
theorem s_137_43 {d : Nat} {l0 l1 l2 : oV} {x : Int} {S : List oV} {σ : oSg} {Q : Option oV → (Nat → oC) → Prop} : oE d 137 43 [l0, l1, l2] (.inl x :: S) σ Q = oE d 137 44 [l0, l1, l2] (.inl (oI2s x) :: S) σ Q := oS4 f_137_43 rfl rfl rfl rfl
theorem f_137_44 : oFet 137 44 = some (.i2l, 1) := by decide +kernel
theorem s_137_44 {d : Nat} {l0 l1 l2 : oV} {x : Int} {S : List oV} {σ : oSg} {Q : Option oV → (Nat → oC) → Prop} : oE d 137 44 [l0, l1, l2] (.inl x :: S) σ Q = oE d 137 45 [l0, l1, l2] (.inr (.inl x) :: S) σ Q := oS4 f_137_44 rfl rfl rfl rfl
theorem f_137_45 : oFet 137 45 = some (.lreturn, 1) := by decide +kernel
theorem s_137_45 {d : Nat} {l0 l1 l2 : oV} {x : Int} {σ : oSg} {Q : Option oV → (Nat → oC) → Prop} : oE d 137 45 [l0, l1, l2] [.inr (.inl x)] σ Q = Q (some (.inr (.inl x))) (oBld σ) := oLret f_137_45 rt_137
theorem f_137_46 : oFet 137 46 = some (.lload_n 1, 1) := by decide +kernel
theorem s_137_46 {d : Nat} {l0 l2 : oV} {x : Int} {S : List oV} {σ : oSg} {Q : Option oV → (Nat → oC) → Prop} : oE d 137 46 [l0, .inr (.inl x), l2] S σ Q = oE d 137 47 [l0, .inr (.inl x), l2] (.inr (.inl x) :: S) σ Q := pLdN (k := 1) f_137_46 rfl rfl rfl
theorem f_137_47 : oFet 137 47 = some (.l2i, 1) := by decide +kernel
theorem s_137_47 {d : Nat} {l0 l1 l2 : oV} {x : Int} {S : List oV} {σ : oSg} {Q : Option oV → (Nat → oC) → Prop} : oE d 137 47 [l0, l1, l2] (.inr (.inl x) :: S) σ Q = oE d 137 48 [l0, l1, l2] (.inl (oL2i x) :: S) σ Q := oS4 f_137_47 rfl rfl rfl rfl
theorem f_137_48 : oFet 137 48 = some (.i2l, 1) := by decide +kernel
theorem s_137_48 {d : Nat} {l0 l1 l2 : oV} {x : Int} {S : List oV} {σ : oSg} {Q : Option oV → (Nat → oC) → Prop} : oE d 137 48 [l0, l1, l2] (.inl x :: S) σ Q = oE d 137 49 [l0, l1, l2] (.inr (.inl x) :: S) σ Q := oS4 f_137_48 rfl rfl rfl rfl
theorem f_137_49 : oFet 137 49 = some (.lreturn, 1) := by decide +kernel
theorem s_137_49 {d : Nat} {l0 l1 l2 : oV} {x : Int} {σ : oSg} {Q : Option oV → (Nat → oC) → Prop} : oE d 137 49 [l0, l1, l2] [.inr (.inl x)] σ Q = Q (some (.inr (.inl x))) (oBld σ) := oLret f_137_49 rt_137
theorem f_137_50 : oFet 137 50 = some (.lload_n 1, 1) := by decide +kernel
theorem s_137_50 {d : Nat} {l0 l2 : oV} {x : Int} {S : List oV} {σ : oSg} {Q : Option oV → (Nat → oC) → Prop} : oE d 137 50 [l0, .inr (.inl x), l2] S σ Q = oE d 137 51 [l0, .inr (.inl x), l2] (.inr (.inl x) :: S) σ Q := pLdN (k := 1) f_137_50 rfl rfl rfl
theorem f_137_51 : oFet 137 51 = some (.lconst 0, 1) := by decide +kernel
theorem s_137_51 {d : Nat} {l0 l1 l2 : oV} {S : List oV} {σ : oSg} {Q : Option oV → (Nat → oC) → Prop} : oE d 137 51 [l0, l1, l2] S σ Q = oE d 137 52 [l0, l1, l2] (.inr (.inl 0) :: S) σ Q := pLcs f_137_51
theorem f_137_52 : oFet 137 52 = some (.lcmp, 1) := by decide +kernel
theorem s_137_52 {d : Nat} {l0 l1 l2 : oV} {x y : Int} {S : List oV} {σ : oSg} {Q : Option oV → (Nat → oC) → Prop} : oE d 137 52 [l0, l1, l2] (.inr (.inl y) :: .inr (.inl x) :: S) σ Q = oE d 137 53 [l0, l1, l2] (.inl (oLcmp x y) :: S) σ Q := oS4 f_137_52 rfl rfl rfl rfl
theorem f_137_53 : oFet 137 53 = some (.ifCond .ne 7, 3) := by decide +kernel
theorem s_137_53 {d : Nat} {l0 l1 l2 : oV} {x : Int} {S : List oV} {σ : oSg} {Q : Option oV → (Nat → oC) → Prop} : oE d 137 53 [l0, l1, l2] (.inl x :: S) σ Q = if ¬ x = 0 then oE d 137 60 [l0, l1, l2] S σ Q else oE d 137 56 [l0, l1, l2] S σ Q := oIfNe f_137_53 (by decide)
theorem f_137_56 : oFet 137 56 = some (.lconst 0, 1) := by decide +kernel
theorem s_137_56 {d : Nat} {l0 l1 l2 : oV} {S : List oV} {σ : oSg} {Q : Option oV → (Nat → oC) → Prop} : oE d 137 56 [l0, l1, l2] S σ Q = oE d 137 57 [l0, l1, l2] (.inr (.inl 0) :: S) σ Q := pLcs f_137_56
theorem f_137_57 : oFet 137 57 = some (.goto 4, 3) := by decide +kernel
theorem s_137_57 {d : Nat} {l0 l1 l2 : oV} {S : List oV} {σ : oSg} {Q : Option oV → (Nat → oC) → Prop} : oE d 137 57 [l0, l1, l2] S σ Q = oE d 137 61 [l0, l1, l2] S σ Q := pGoto f_137_57 (by decide)
theorem f_137_60 : oFet 137 60 = some (.lconst 1, 1) := by decide +kernel
theorem s_137_60 {d : Nat} {l0 l1 l2 : oV} {S : List oV} {σ : oSg} {Q : Option oV → (Nat → oC) → Prop} : oE d 137 60 [l0, l1, l2] S σ Q = oE d 137 61 [l0, l1, l2] (.inr (.inl 1) :: S) σ Q := pLcs f_137_60
theorem f_137_61 : oFet 137 61 = some (.lreturn, 1) := by decide +kernel
theorem s_137_61 {d : Nat} {l0 l1 l2 : oV} {x : Int} {σ : oSg} {Q : Option oV → (Nat → oC) → Prop} : oE d 137 61 [l0, l1, l2] [.inr (.inl x)] σ Q = Q (some (.inr (.inl x))) (oBld σ) := oLret f_137_61 rt_137
theorem f_137_62 : oFet 137 62 = some (.lload_n 1, 1) := by decide +kernel
theorem s_137_62 {d : Nat} {l0 l2 : oV} {x : Int} {S : List oV} {σ : oSg} {Q : Option oV → (Nat → oC) → Prop} : oE d 137 62 [l0, .inr (.inl x), l2] S σ Q = oE d 137 63 [l0, .inr (.inl x), l2] (.inr (.inl x) :: S) σ Q := pLdN (k := 1) f_137_62 rfl rfl rfl
theorem f_137_63 : oFet 137 63 = some (.lreturn, 1) := by decide +kernel
theorem s_137_63 {d : Nat} {l0 l1 l2 : oV} {x : Int} {σ : oSg} {Q : Option oV → (Nat → oC) → Prop} : oE d 137 63 [l0, l1, l2] [.inr (.inl x)] σ Q = Q (some (.inr (.inl x))) (oBld σ) := oLret f_137_63 rt_137
theorem ow_138 : (oMt 138).2.2.2.2.1 = 10 := by decide +kernel
theorem rt_138 : (oMt 138).2.2.2.1 = some .long := by decide +kernel
theorem nl_138 : (oMt 138).2.2.1 = 3 := by decide +kernel
theorem f_138_0 : oFet 138 0 = some (.iload_n 2, 1) := by decide +kernel
theorem s_138_0 {d : Nat} {l0 l1 : oV} {x : Int} {S : List oV} {σ : oSg} {Q : Option oV → (Nat → oC) → Prop} : oE d 138 0 [l0, l1, .inl x] S σ Q = oE d 138 1 [l0, l1, .inl x] (.inl x :: S) σ Q := pLdN (k := 2) f_138_0 rfl rfl rfl
theorem f_138_1 : oFet 138 1 = some (.ifCond .lt 15, 3) := by decide +kernel
theorem s_138_1 {d : Nat} {l0 l1 l2 : oV} {x : Int} {S : List oV} {σ : oSg} {Q : Option oV → (Nat → oC) → Prop} : oE d 138 1 [l0, l1, l2] (.inl x :: S) σ Q = if x < 0 then oE d 138 16 [l0, l1, l2] S σ Q else oE d 138 4 [l0, l1, l2] S σ Q := oIfLt f_138_1 (by decide)
theorem f_138_4 : oFet 138 4 = some (.iload_n 2, 1) := by decide +kernel
theorem s_138_4 {d : Nat} {l0 l1 : oV} {x : Int} {S : List oV} {σ : oSg} {Q : Option oV → (Nat → oC) → Prop} : oE d 138 4 [l0, l1, .inl x] S σ Q = oE d 138 5 [l0, l1, .inl x] (.inl x :: S) σ Q := pLdN (k := 2) f_138_4 rfl rfl rfl
theorem f_138_5 : oFet 138 5 = some (.aload_n 0, 1) := by decide +kernel
theorem s_138_5 {d : Nat} {l1 l2 : oV} {a : Nat} {S : List oV} {σ : oSg} {Q : Option oV → (Nat → oC) → Prop} : oE d 138 5 [.inr (.inr (.inl a)), l1, l2] S σ Q = oE d 138 6 [.inr (.inr (.inl a)), l1, l2] (.inr (.inr (.inl a)) :: S) σ Q := pLdN (k := 0) f_138_5 rfl rfl rfl
theorem f_138_6 : oFet 138 6 = some (.getfield 31, 3) := by decide +kernel
theorem s_138_6 {d : Nat} {l0 l1 l2 : oV} {a : Nat} {S : List oV} {σ : oSg} {Q : Option oV → (Nat → oC) → Prop} (hk : oKd a = some 10) : oE d 138 6 [l0, l1, l2] (.inr (.inr (.inl a)) :: S) σ Q = oE d 138 9 [l0, l1, l2] (.inr (.inr (.inl (oRf a 4))) :: S) σ Q := pGfR f_138_6 ow_138 fl_10_31 rfl (by decide) hk
theorem f_138_9 : oFet 138 9 = some (.iload_n 1, 1) := by decide +kernel
theorem s_138_9 {d : Nat} {l0 l2 : oV} {x : Int} {S : List oV} {σ : oSg} {Q : Option oV → (Nat → oC) → Prop} : oE d 138 9 [l0, .inl x, l2] S σ Q = oE d 138 10 [l0, .inl x, l2] (.inl x :: S) σ Q := pLdN (k := 1) f_138_9 rfl rfl rfl
theorem f_138_10 : oFet 138 10 = some (.invokevirtual 340, 3) := by decide +kernel
theorem c_138_10 {d : Nat} {l0 l1 l2 : oV} {x0 : oV} {a : Nat} {v : Option oV} {τ : oSg} {S : List oV} {σ : oSg} {Q : Option oV → (Nat → oC) → Prop} (hm : oMi d 123 [.inr (.inr (.inl a)), x0] σ v τ) (hk : oKd a = some 8) (hs : oSmall S = true) : oE d 138 10 [l0, l1, l2] (x0 :: .inr (.inr (.inl a)) :: S) σ Q = oE d 138 13 [l0, l1, l2] (v.toList ++ S) τ Q := pCallV f_138_10 ow_138 lk_10_340 mt_123 rfl rfl rfl hk hs hm
theorem f_138_13 : oFet 138 13 = some (.if_icmp .lt 7, 3) := by decide +kernel
theorem s_138_13 {d : Nat} {l0 l1 l2 : oV} {x y : Int} {S : List oV} {σ : oSg} {Q : Option oV → (Nat → oC) → Prop} : oE d 138 13 [l0, l1, l2] (.inl y :: .inl x :: S) σ Q = if x < y then oE d 138 20 [l0, l1, l2] S σ Q else oE d 138 16 [l0, l1, l2] S σ Q := oCmpLt f_138_13 (by decide)
theorem f_138_16 : oFet 138 16 = some (.ldc2_w 304, 3) := by decide +kernel
theorem s_138_16 {d : Nat} {l0 l1 l2 : oV} {S : List oV} {σ : oSg} {Q : Option oV → (Nat → oC) → Prop} : oE d 138 16 [l0, l1, l2] S σ Q = oE d 138 19 [l0, l1, l2] (.inr (.inl (-9223372036854775808)) :: S) σ Q := pLdc2 f_138_16 ow_138 (by decide +kernel)
theorem f_138_19 : oFet 138 19 = some (.lreturn, 1) := by decide +kernel
theorem s_138_19 {d : Nat} {l0 l1 l2 : oV} {x : Int} {σ : oSg} {Q : Option oV → (Nat → oC) → Prop} : oE d 138 19 [l0, l1, l2] [.inr (.inl x)] σ Q = Q (some (.inr (.inl x))) (oBld σ) := oLret f_138_19 rt_138
theorem f_138_20 : oFet 138 20 = some (.aload_n 0, 1) := by decide +kernel
theorem s_138_20 {d : Nat} {l1 l2 : oV} {a : Nat} {S : List oV} {σ : oSg} {Q : Option oV → (Nat → oC) → Prop} : oE d 138 20 [.inr (.inr (.inl a)), l1, l2] S σ Q = oE d 138 21 [.inr (.inr (.inl a)), l1, l2] (.inr (.inr (.inl a)) :: S) σ Q := pLdN (k := 0) f_138_20 rfl rfl rfl
theorem f_138_21 : oFet 138 21 = some (.getfield 31, 3) := by decide +kernel
theorem s_138_21 {d : Nat} {l0 l1 l2 : oV} {a : Nat} {S : List oV} {σ : oSg} {Q : Option oV → (Nat → oC) → Prop} (hk : oKd a = some 10) : oE d 138 21 [l0, l1, l2] (.inr (.inr (.inl a)) :: S) σ Q = oE d 138 24 [l0, l1, l2] (.inr (.inr (.inl (oRf a 4))) :: S) σ Q := pGfR f_138_21 ow_138 fl_10_31 rfl (by decide) hk
theorem f_138_24 : oFet 138 24 = some (.iload_n 1, 1) := by decide +kernel
theorem s_138_24 {d : Nat} {l0 l2 : oV} {x : Int} {S : List oV} {σ : oSg} {Q : Option oV → (Nat → oC) → Prop} : oE d 138 24 [l0, .inl x, l2] S σ Q = oE d 138 25 [l0, .inl x, l2] (.inl x :: S) σ Q := pLdN (k := 1) f_138_24 rfl rfl rfl
theorem f_138_25 : oFet 138 25 = some (.iload_n 2, 1) := by decide +kernel
theorem s_138_25 {d : Nat} {l0 l1 : oV} {x : Int} {S : List oV} {σ : oSg} {Q : Option oV → (Nat → oC) → Prop} : oE d 138 25 [l0, l1, .inl x] S σ Q = oE d 138 26 [l0, l1, .inl x] (.inl x :: S) σ Q := pLdN (k := 2) f_138_25 rfl rfl rfl
theorem f_138_26 : oFet 138 26 = some (.invokevirtual 343, 3) := by decide +kernel
theorem c_138_26 {d : Nat} {l0 l1 l2 : oV} {x0 x1 : oV} {a : Nat} {v : Option oV} {τ : oSg} {S : List oV} {σ : oSg} {Q : Option oV → (Nat → oC) → Prop} (hm : oMi d 124 [.inr (.inr (.inl a)), x0, x1] σ v τ) (hk : oKd a = some 8) (hs : oSmall S = true) : oE d 138 26 [l0, l1, l2] (x1 :: x0 :: .inr (.inr (.inl a)) :: S) σ Q = oE d 138 29 [l0, l1, l2] (v.toList ++ S) τ Q := pCallV f_138_26 ow_138 lk_10_343 mt_124 rfl rfl rfl hk hs hm
theorem f_138_29 : oFet 138 29 = some (.lreturn, 1) := by decide +kernel
theorem s_138_29 {d : Nat} {l0 l1 l2 : oV} {x : Int} {σ : oSg} {Q : Option oV → (Nat → oC) → Prop} : oE d 138 29 [l0, l1, l2] [.inr (.inl x)] σ Q = Q (some (.inr (.inl x))) (oBld σ) := oLret f_138_29 rt_138
theorem ow_139 : (oMt 139).2.2.2.2.1 = 10 := by decide +kernel
theorem rt_139 : (oMt 139).2.2.2.1 = some .int := by decide +kernel
theorem nl_139 : (oMt 139).2.2.1 = 6 := by decide +kernel
theorem f_139_0 : oFet 139 0 = some (.aload_n 0, 1) := by decide +kernel
theorem s_139_0 {d : Nat} {l1 l2 l3 l4 l5 : oV} {a : Nat} {S : List oV} {σ : oSg} {Q : Option oV → (Nat → oC) → Prop} : oE d 139 0 [.inr (.inr (.inl a)), l1, l2, l3, l4, l5] S σ Q = oE d 139 1 [.inr (.inr (.inl a)), l1, l2, l3, l4, l5] (.inr (.inr (.inl a)) :: S) σ Q := pLdN (k := 0) f_139_0 rfl rfl rfl
theorem f_139_1 : oFet 139 1 = some (.getfield 31, 3) := by decide +kernel
theorem s_139_1 {d : Nat} {l0 l1 l2 l3 l4 l5 : oV} {a : Nat} {S : List oV} {σ : oSg} {Q : Option oV → (Nat → oC) → Prop} (hk : oKd a = some 10) : oE d 139 1 [l0, l1, l2, l3, l4, l5] (.inr (.inr (.inl a)) :: S) σ Q = oE d 139 4 [l0, l1, l2, l3, l4, l5] (.inr (.inr (.inl (oRf a 4))) :: S) σ Q := pGfR f_139_1 ow_139 fl_10_31 rfl (by decide) hk
theorem f_139_4 : oFet 139 4 = some (.iload_n 1, 1) := by decide +kernel
theorem s_139_4 {d : Nat} {l0 l2 l3 l4 l5 : oV} {x : Int} {S : List oV} {σ : oSg} {Q : Option oV → (Nat → oC) → Prop} : oE d 139 4 [l0, .inl x, l2, l3, l4, l5] S σ Q = oE d 139 5 [l0, .inl x, l2, l3, l4, l5] (.inl x :: S) σ Q := pLdN (k := 1) f_139_4 rfl rfl rfl
theorem f_139_5 : oFet 139 5 = some (.invokevirtual 333, 3) := by decide +kernel
theorem c_139_5 {d : Nat} {l0 l1 l2 l3 l4 l5 : oV} {x0 : oV} {a : Nat} {v : Option oV} {τ : oSg} {S : List oV} {σ : oSg} {Q : Option oV → (Nat → oC) → Prop} (hm : oMi d 120 [.inr (.inr (.inl a)), x0] σ v τ) (hk : oKd a = some 8) (hs : oSmall S = true) : oE d 139 5 [l0, l1, l2, l3, l4, l5] (x0 :: .inr (.inr (.inl a)) :: S) σ Q = oE d 139 8 [l0, l1, l2, l3, l4, l5] (v.toList ++ S) τ Q := pCallV f_139_5 ow_139 lk_10_333 mt_120 rfl rfl rfl hk hs hm
theorem f_139_8 : oFet 139 8 = some (.ifCond .eq 14, 3) := by decide +kernel
theorem s_139_8 {d : Nat} {l0 l1 l2 l3 l4 l5 : oV} {x : Int} {S : List oV} {σ : oSg} {Q : Option oV → (Nat → oC) → Prop} : oE d 139 8 [l0, l1, l2, l3, l4, l5] (.inl x :: S) σ Q = if x = 0 then oE d 139 22 [l0, l1, l2, l3, l4, l5] S σ Q else oE d 139 11 [l0, l1, l2, l3, l4, l5] S σ Q := oIfEq f_139_8 (by decide)
theorem f_139_11 : oFet 139 11 = some (.aload_n 0, 1) := by decide +kernel
theorem s_139_11 {d : Nat} {l1 l2 l3 l4 l5 : oV} {a : Nat} {S : List oV} {σ : oSg} {Q : Option oV → (Nat → oC) → Prop} : oE d 139 11 [.inr (.inr (.inl a)), l1, l2, l3, l4, l5] S σ Q = oE d 139 12 [.inr (.inr (.inl a)), l1, l2, l3, l4, l5] (.inr (.inr (.inl a)) :: S) σ Q := pLdN (k := 0) f_139_11 rfl rfl rfl
theorem f_139_12 : oFet 139 12 = some (.getfield 31, 3) := by decide +kernel
theorem s_139_12 {d : Nat} {l0 l1 l2 l3 l4 l5 : oV} {a : Nat} {S : List oV} {σ : oSg} {Q : Option oV → (Nat → oC) → Prop} (hk : oKd a = some 10) : oE d 139 12 [l0, l1, l2, l3, l4, l5] (.inr (.inr (.inl a)) :: S) σ Q = oE d 139 15 [l0, l1, l2, l3, l4, l5] (.inr (.inr (.inl (oRf a 4))) :: S) σ Q := pGfR f_139_12 ow_139 fl_10_31 rfl (by decide) hk
theorem f_139_15 : oFet 139 15 = some (.iload_n 3, 1) := by decide +kernel
theorem s_139_15 {d : Nat} {l0 l1 l2 l4 l5 : oV} {x : Int} {S : List oV} {σ : oSg} {Q : Option oV → (Nat → oC) → Prop} : oE d 139 15 [l0, l1, l2, .inl x, l4, l5] S σ Q = oE d 139 16 [l0, l1, l2, .inl x, l4, l5] (.inl x :: S) σ Q := pLdN (k := 3) f_139_15 rfl rfl rfl
theorem f_139_16 : oFet 139 16 = some (.invokevirtual 333, 3) := by decide +kernel
theorem c_139_16 {d : Nat} {l0 l1 l2 l3 l4 l5 : oV} {x0 : oV} {a : Nat} {v : Option oV} {τ : oSg} {S : List oV} {σ : oSg} {Q : Option oV → (Nat → oC) → Prop} (hm : oMi d 120 [.inr (.inr (.inl a)), x0] σ v τ) (hk : oKd a = some 8) (hs : oSmall S = true) : oE d 139 16 [l0, l1, l2, l3, l4, l5] (x0 :: .inr (.inr (.inl a)) :: S) σ Q = oE d 139 19 [l0, l1, l2, l3, l4, l5] (v.toList ++ S) τ Q := pCallV f_139_16 ow_139 lk_10_333 mt_120 rfl rfl rfl hk hs hm
theorem f_139_19 : oFet 139 19 = some (.ifCond .ne 5, 3) := by decide +kernel
theorem s_139_19 {d : Nat} {l0 l1 l2 l3 l4 l5 : oV} {x : Int} {S : List oV} {σ : oSg} {Q : Option oV → (Nat → oC) → Prop} : oE d 139 19 [l0, l1, l2, l3, l4, l5] (.inl x :: S) σ Q = if ¬ x = 0 then oE d 139 24 [l0, l1, l2, l3, l4, l5] S σ Q else oE d 139 22 [l0, l1, l2, l3, l4, l5] S σ Q := oIfNe f_139_19 (by decide)
theorem f_139_22 : oFet 139 22 = some (.iconst (-1), 1) := by decide +kernel
theorem s_139_22 {d : Nat} {l0 l1 l2 l3 l4 l5 : oV} {S : List oV} {σ : oSg} {Q : Option oV → (Nat → oC) → Prop} : oE d 139 22 [l0, l1, l2, l3, l4, l5] S σ Q = oE d 139 23 [l0, l1, l2, l3, l4, l5] (.inl (-1) :: S) σ Q := pKst f_139_22 (by decide)
theorem f_139_23 : oFet 139 23 = some (.ireturn, 1) := by decide +kernel
theorem s_139_23 {d : Nat} {l0 l1 l2 l3 l4 l5 : oV} {x : Int} {σ : oSg} {Q : Option oV → (Nat → oC) → Prop} : oE d 139 23 [l0, l1, l2, l3, l4, l5] [.inl x] σ Q = Q (some (.inl x)) (oBld σ) := oIret f_139_23 rt_139
theorem f_139_24 : oFet 139 24 = some (.aload_n 0, 1) := by decide +kernel
theorem s_139_24 {d : Nat} {l1 l2 l3 l4 l5 : oV} {a : Nat} {S : List oV} {σ : oSg} {Q : Option oV → (Nat → oC) → Prop} : oE d 139 24 [.inr (.inr (.inl a)), l1, l2, l3, l4, l5] S σ Q = oE d 139 25 [.inr (.inr (.inl a)), l1, l2, l3, l4, l5] (.inr (.inr (.inl a)) :: S) σ Q := pLdN (k := 0) f_139_24 rfl rfl rfl
theorem f_139_25 : oFet 139 25 = some (.getfield 31, 3) := by decide +kernel
theorem s_139_25 {d : Nat} {l0 l1 l2 l3 l4 l5 : oV} {a : Nat} {S : List oV} {σ : oSg} {Q : Option oV → (Nat → oC) → Prop} (hk : oKd a = some 10) : oE d 139 25 [l0, l1, l2, l3, l4, l5] (.inr (.inr (.inl a)) :: S) σ Q = oE d 139 28 [l0, l1, l2, l3, l4, l5] (.inr (.inr (.inl (oRf a 4))) :: S) σ Q := pGfR f_139_25 ow_139 fl_10_31 rfl (by decide) hk
theorem f_139_28 : oFet 139 28 = some (.iload_n 1, 1) := by decide +kernel
theorem s_139_28 {d : Nat} {l0 l2 l3 l4 l5 : oV} {x : Int} {S : List oV} {σ : oSg} {Q : Option oV → (Nat → oC) → Prop} : oE d 139 28 [l0, .inl x, l2, l3, l4, l5] S σ Q = oE d 139 29 [l0, .inl x, l2, l3, l4, l5] (.inl x :: S) σ Q := pLdN (k := 1) f_139_28 rfl rfl rfl
theorem f_139_29 : oFet 139 29 = some (.invokevirtual 334, 3) := by decide +kernel
theorem c_139_29 {d : Nat} {l0 l1 l2 l3 l4 l5 : oV} {x0 : oV} {a : Nat} {v : Option oV} {τ : oSg} {S : List oV} {σ : oSg} {Q : Option oV → (Nat → oC) → Prop} (hm : oMi d 121 [.inr (.inr (.inl a)), x0] σ v τ) (hk : oKd a = some 8) (hs : oSmall S = true) : oE d 139 29 [l0, l1, l2, l3, l4, l5] (x0 :: .inr (.inr (.inl a)) :: S) σ Q = oE d 139 32 [l0, l1, l2, l3, l4, l5] (v.toList ++ S) τ Q := pCallV f_139_29 ow_139 lk_10_334 mt_121 rfl rfl rfl hk hs hm
theorem f_139_32 : oFet 139 32 = some (.ifCond .eq 14, 3) := by decide +kernel
theorem s_139_32 {d : Nat} {l0 l1 l2 l3 l4 l5 : oV} {x : Int} {S : List oV} {σ : oSg} {Q : Option oV → (Nat → oC) → Prop} : oE d 139 32 [l0, l1, l2, l3, l4, l5] (.inl x :: S) σ Q = if x = 0 then oE d 139 46 [l0, l1, l2, l3, l4, l5] S σ Q else oE d 139 35 [l0, l1, l2, l3, l4, l5] S σ Q := oIfEq f_139_32 (by decide)
theorem f_139_35 : oFet 139 35 = some (.aload_n 0, 1) := by decide +kernel
theorem s_139_35 {d : Nat} {l1 l2 l3 l4 l5 : oV} {a : Nat} {S : List oV} {σ : oSg} {Q : Option oV → (Nat → oC) → Prop} : oE d 139 35 [.inr (.inr (.inl a)), l1, l2, l3, l4, l5] S σ Q = oE d 139 36 [.inr (.inr (.inl a)), l1, l2, l3, l4, l5] (.inr (.inr (.inl a)) :: S) σ Q := pLdN (k := 0) f_139_35 rfl rfl rfl
theorem f_139_36 : oFet 139 36 = some (.getfield 31, 3) := by decide +kernel
theorem s_139_36 {d : Nat} {l0 l1 l2 l3 l4 l5 : oV} {a : Nat} {S : List oV} {σ : oSg} {Q : Option oV → (Nat → oC) → Prop} (hk : oKd a = some 10) : oE d 139 36 [l0, l1, l2, l3, l4, l5] (.inr (.inr (.inl a)) :: S) σ Q = oE d 139 39 [l0, l1, l2, l3, l4, l5] (.inr (.inr (.inl (oRf a 4))) :: S) σ Q := pGfR f_139_36 ow_139 fl_10_31 rfl (by decide) hk
theorem f_139_39 : oFet 139 39 = some (.iload_n 3, 1) := by decide +kernel
theorem s_139_39 {d : Nat} {l0 l1 l2 l4 l5 : oV} {x : Int} {S : List oV} {σ : oSg} {Q : Option oV → (Nat → oC) → Prop} : oE d 139 39 [l0, l1, l2, .inl x, l4, l5] S σ Q = oE d 139 40 [l0, l1, l2, .inl x, l4, l5] (.inl x :: S) σ Q := pLdN (k := 3) f_139_39 rfl rfl rfl
theorem f_139_40 : oFet 139 40 = some (.invokevirtual 334, 3) := by decide +kernel
theorem c_139_40 {d : Nat} {l0 l1 l2 l3 l4 l5 : oV} {x0 : oV} {a : Nat} {v : Option oV} {τ : oSg} {S : List oV} {σ : oSg} {Q : Option oV → (Nat → oC) → Prop} (hm : oMi d 121 [.inr (.inr (.inl a)), x0] σ v τ) (hk : oKd a = some 8) (hs : oSmall S = true) : oE d 139 40 [l0, l1, l2, l3, l4, l5] (x0 :: .inr (.inr (.inl a)) :: S) σ Q = oE d 139 43 [l0, l1, l2, l3, l4, l5] (v.toList ++ S) τ Q := pCallV f_139_40 ow_139 lk_10_334 mt_121 rfl rfl rfl hk hs hm
theorem f_139_43 : oFet 139 43 = some (.ifCond .ne 6, 3) := by decide +kernel
theorem s_139_43 {d : Nat} {l0 l1 l2 l3 l4 l5 : oV} {x : Int} {S : List oV} {σ : oSg} {Q : Option oV → (Nat → oC) → Prop} : oE d 139 43 [l0, l1, l2, l3, l4, l5] (.inl x :: S) σ Q = if ¬ x = 0 then oE d 139 49 [l0, l1, l2, l3, l4, l5] S σ Q else oE d 139 46 [l0, l1, l2, l3, l4, l5] S σ Q := oIfNe f_139_43 (by decide)
theorem f_139_46 : oFet 139 46 = some (.bipush (-11), 2) := by decide +kernel
theorem s_139_46 {d : Nat} {l0 l1 l2 l3 l4 l5 : oV} {S : List oV} {σ : oSg} {Q : Option oV → (Nat → oC) → Prop} : oE d 139 46 [l0, l1, l2, l3, l4, l5] S σ Q = oE d 139 48 [l0, l1, l2, l3, l4, l5] (.inl (-11) :: S) σ Q := pBip f_139_46 (by decide)
theorem f_139_48 : oFet 139 48 = some (.ireturn, 1) := by decide +kernel
theorem s_139_48 {d : Nat} {l0 l1 l2 l3 l4 l5 : oV} {x : Int} {σ : oSg} {Q : Option oV → (Nat → oC) → Prop} : oE d 139 48 [l0, l1, l2, l3, l4, l5] [.inl x] σ Q = Q (some (.inl x)) (oBld σ) := oIret f_139_48 rt_139
theorem f_139_49 : oFet 139 49 = some (.aload_n 0, 1) := by decide +kernel
theorem s_139_49 {d : Nat} {l1 l2 l3 l4 l5 : oV} {a : Nat} {S : List oV} {σ : oSg} {Q : Option oV → (Nat → oC) → Prop} : oE d 139 49 [.inr (.inr (.inl a)), l1, l2, l3, l4, l5] S σ Q = oE d 139 50 [.inr (.inr (.inl a)), l1, l2, l3, l4, l5] (.inr (.inr (.inl a)) :: S) σ Q := pLdN (k := 0) f_139_49 rfl rfl rfl
theorem f_139_50 : oFet 139 50 = some (.getfield 31, 3) := by decide +kernel
theorem s_139_50 {d : Nat} {l0 l1 l2 l3 l4 l5 : oV} {a : Nat} {S : List oV} {σ : oSg} {Q : Option oV → (Nat → oC) → Prop} (hk : oKd a = some 10) : oE d 139 50 [l0, l1, l2, l3, l4, l5] (.inr (.inr (.inl a)) :: S) σ Q = oE d 139 53 [l0, l1, l2, l3, l4, l5] (.inr (.inr (.inl (oRf a 4))) :: S) σ Q := pGfR f_139_50 ow_139 fl_10_31 rfl (by decide) hk
theorem f_139_53 : oFet 139 53 = some (.iload_n 1, 1) := by decide +kernel
theorem s_139_53 {d : Nat} {l0 l2 l3 l4 l5 : oV} {x : Int} {S : List oV} {σ : oSg} {Q : Option oV → (Nat → oC) → Prop} : oE d 139 53 [l0, .inl x, l2, l3, l4, l5] S σ Q = oE d 139 54 [l0, .inl x, l2, l3, l4, l5] (.inl x :: S) σ Q := pLdN (k := 1) f_139_53 rfl rfl rfl
theorem f_139_54 : oFet 139 54 = some (.invokevirtual 337, 3) := by decide +kernel
theorem c_139_54 {d : Nat} {l0 l1 l2 l3 l4 l5 : oV} {x0 : oV} {a : Nat} {v : Option oV} {τ : oSg} {S : List oV} {σ : oSg} {Q : Option oV → (Nat → oC) → Prop} (hm : oMi d 122 [.inr (.inr (.inl a)), x0] σ v τ) (hk : oKd a = some 8) (hs : oSmall S = true) : oE d 139 54 [l0, l1, l2, l3, l4, l5] (x0 :: .inr (.inr (.inl a)) :: S) σ Q = oE d 139 57 [l0, l1, l2, l3, l4, l5] (v.toList ++ S) τ Q := pCallV f_139_54 ow_139 lk_10_337 mt_122 rfl rfl rfl hk hs hm
theorem f_139_57 : oFet 139 57 = some (.aload_n 0, 1) := by decide +kernel
theorem s_139_57 {d : Nat} {l1 l2 l3 l4 l5 : oV} {a : Nat} {S : List oV} {σ : oSg} {Q : Option oV → (Nat → oC) → Prop} : oE d 139 57 [.inr (.inr (.inl a)), l1, l2, l3, l4, l5] S σ Q = oE d 139 58 [.inr (.inr (.inl a)), l1, l2, l3, l4, l5] (.inr (.inr (.inl a)) :: S) σ Q := pLdN (k := 0) f_139_57 rfl rfl rfl
theorem f_139_58 : oFet 139 58 = some (.getfield 31, 3) := by decide +kernel
theorem s_139_58 {d : Nat} {l0 l1 l2 l3 l4 l5 : oV} {a : Nat} {S : List oV} {σ : oSg} {Q : Option oV → (Nat → oC) → Prop} (hk : oKd a = some 10) : oE d 139 58 [l0, l1, l2, l3, l4, l5] (.inr (.inr (.inl a)) :: S) σ Q = oE d 139 61 [l0, l1, l2, l3, l4, l5] (.inr (.inr (.inl (oRf a 4))) :: S) σ Q := pGfR f_139_58 ow_139 fl_10_31 rfl (by decide) hk
theorem f_139_61 : oFet 139 61 = some (.iload_n 3, 1) := by decide +kernel
theorem s_139_61 {d : Nat} {l0 l1 l2 l4 l5 : oV} {x : Int} {S : List oV} {σ : oSg} {Q : Option oV → (Nat → oC) → Prop} : oE d 139 61 [l0, l1, l2, .inl x, l4, l5] S σ Q = oE d 139 62 [l0, l1, l2, .inl x, l4, l5] (.inl x :: S) σ Q := pLdN (k := 3) f_139_61 rfl rfl rfl
theorem f_139_62 : oFet 139 62 = some (.invokevirtual 337, 3) := by decide +kernel
theorem c_139_62 {d : Nat} {l0 l1 l2 l3 l4 l5 : oV} {x0 : oV} {a : Nat} {v : Option oV} {τ : oSg} {S : List oV} {σ : oSg} {Q : Option oV → (Nat → oC) → Prop} (hm : oMi d 122 [.inr (.inr (.inl a)), x0] σ v τ) (hk : oKd a = some 8) (hs : oSmall S = true) : oE d 139 62 [l0, l1, l2, l3, l4, l5] (x0 :: .inr (.inr (.inl a)) :: S) σ Q = oE d 139 65 [l0, l1, l2, l3, l4, l5] (v.toList ++ S) τ Q := pCallV f_139_62 ow_139 lk_10_337 mt_122 rfl rfl rfl hk hs hm
theorem f_139_65 : oFet 139 65 = some (.if_icmp .eq 6, 3) := by decide +kernel
theorem s_139_65 {d : Nat} {l0 l1 l2 l3 l4 l5 : oV} {x y : Int} {S : List oV} {σ : oSg} {Q : Option oV → (Nat → oC) → Prop} : oE d 139 65 [l0, l1, l2, l3, l4, l5] (.inl y :: .inl x :: S) σ Q = if x = y then oE d 139 71 [l0, l1, l2, l3, l4, l5] S σ Q else oE d 139 68 [l0, l1, l2, l3, l4, l5] S σ Q := oCmpEq f_139_65 (by decide)
theorem f_139_68 : oFet 139 68 = some (.bipush (-12), 2) := by decide +kernel
theorem s_139_68 {d : Nat} {l0 l1 l2 l3 l4 l5 : oV} {S : List oV} {σ : oSg} {Q : Option oV → (Nat → oC) → Prop} : oE d 139 68 [l0, l1, l2, l3, l4, l5] S σ Q = oE d 139 70 [l0, l1, l2, l3, l4, l5] (.inl (-12) :: S) σ Q := pBip f_139_68 (by decide)
theorem f_139_70 : oFet 139 70 = some (.ireturn, 1) := by decide +kernel
theorem s_139_70 {d : Nat} {l0 l1 l2 l3 l4 l5 : oV} {x : Int} {σ : oSg} {Q : Option oV → (Nat → oC) → Prop} : oE d 139 70 [l0, l1, l2, l3, l4, l5] [.inl x] σ Q = Q (some (.inl x)) (oBld σ) := oIret f_139_70 rt_139
theorem f_139_71 : oFet 139 71 = some (.aload_n 0, 1) := by decide +kernel
theorem s_139_71 {d : Nat} {l1 l2 l3 l4 l5 : oV} {a : Nat} {S : List oV} {σ : oSg} {Q : Option oV → (Nat → oC) → Prop} : oE d 139 71 [.inr (.inr (.inl a)), l1, l2, l3, l4, l5] S σ Q = oE d 139 72 [.inr (.inr (.inl a)), l1, l2, l3, l4, l5] (.inr (.inr (.inl a)) :: S) σ Q := pLdN (k := 0) f_139_71 rfl rfl rfl
theorem f_139_72 : oFet 139 72 = some (.getfield 31, 3) := by decide +kernel
theorem s_139_72 {d : Nat} {l0 l1 l2 l3 l4 l5 : oV} {a : Nat} {S : List oV} {σ : oSg} {Q : Option oV → (Nat → oC) → Prop} (hk : oKd a = some 10) : oE d 139 72 [l0, l1, l2, l3, l4, l5] (.inr (.inr (.inl a)) :: S) σ Q = oE d 139 75 [l0, l1, l2, l3, l4, l5] (.inr (.inr (.inl (oRf a 4))) :: S) σ Q := pGfR f_139_72 ow_139 fl_10_31 rfl (by decide) hk
theorem f_139_75 : oFet 139 75 = some (.iload_n 1, 1) := by decide +kernel
theorem s_139_75 {d : Nat} {l0 l2 l3 l4 l5 : oV} {x : Int} {S : List oV} {σ : oSg} {Q : Option oV → (Nat → oC) → Prop} : oE d 139 75 [l0, .inl x, l2, l3, l4, l5] S σ Q = oE d 139 76 [l0, .inl x, l2, l3, l4, l5] (.inl x :: S) σ Q := pLdN (k := 1) f_139_75 rfl rfl rfl
theorem f_139_76 : oFet 139 76 = some (.iload_n 2, 1) := by decide +kernel
theorem s_139_76 {d : Nat} {l0 l1 l3 l4 l5 : oV} {x : Int} {S : List oV} {σ : oSg} {Q : Option oV → (Nat → oC) → Prop} : oE d 139 76 [l0, l1, .inl x, l3, l4, l5] S σ Q = oE d 139 77 [l0, l1, .inl x, l3, l4, l5] (.inl x :: S) σ Q := pLdN (k := 2) f_139_76 rfl rfl rfl
theorem f_139_77 : oFet 139 77 = some (.iload 5, 2) := by decide +kernel
theorem s_139_77 {d : Nat} {l0 l1 l2 l3 l4 : oV} {x : Int} {S : List oV} {σ : oSg} {Q : Option oV → (Nat → oC) → Prop} : oE d 139 77 [l0, l1, l2, l3, l4, .inl x] S σ Q = oE d 139 79 [l0, l1, l2, l3, l4, .inl x] (.inl x :: S) σ Q := pLd (i := 5) f_139_77 rfl rfl rfl
theorem f_139_79 : oFet 139 79 = some (.invokevirtual 361, 3) := by decide +kernel
theorem c_139_79 {d : Nat} {l0 l1 l2 l3 l4 l5 : oV} {x0 x1 x2 : oV} {a : Nat} {v : Option oV} {τ : oSg} {S : List oV} {σ : oSg} {Q : Option oV → (Nat → oC) → Prop} (hm : oMi d 125 [.inr (.inr (.inl a)), x0, x1, x2] σ v τ) (hk : oKd a = some 8) (hs : oSmall S = true) : oE d 139 79 [l0, l1, l2, l3, l4, l5] (x2 :: x1 :: x0 :: .inr (.inr (.inl a)) :: S) σ Q = oE d 139 82 [l0, l1, l2, l3, l4, l5] (v.toList ++ S) τ Q := pCallV f_139_79 ow_139 lk_10_361 mt_125 rfl rfl rfl hk hs hm
theorem f_139_82 : oFet 139 82 = some (.ifCond .eq 18, 3) := by decide +kernel
theorem s_139_82 {d : Nat} {l0 l1 l2 l3 l4 l5 : oV} {x : Int} {S : List oV} {σ : oSg} {Q : Option oV → (Nat → oC) → Prop} : oE d 139 82 [l0, l1, l2, l3, l4, l5] (.inl x :: S) σ Q = if x = 0 then oE d 139 100 [l0, l1, l2, l3, l4, l5] S σ Q else oE d 139 85 [l0, l1, l2, l3, l4, l5] S σ Q := oIfEq f_139_82 (by decide)
theorem f_139_85 : oFet 139 85 = some (.aload_n 0, 1) := by decide +kernel
theorem s_139_85 {d : Nat} {l1 l2 l3 l4 l5 : oV} {a : Nat} {S : List oV} {σ : oSg} {Q : Option oV → (Nat → oC) → Prop} : oE d 139 85 [.inr (.inr (.inl a)), l1, l2, l3, l4, l5] S σ Q = oE d 139 86 [.inr (.inr (.inl a)), l1, l2, l3, l4, l5] (.inr (.inr (.inl a)) :: S) σ Q := pLdN (k := 0) f_139_85 rfl rfl rfl
theorem f_139_86 : oFet 139 86 = some (.getfield 31, 3) := by decide +kernel
theorem s_139_86 {d : Nat} {l0 l1 l2 l3 l4 l5 : oV} {a : Nat} {S : List oV} {σ : oSg} {Q : Option oV → (Nat → oC) → Prop} (hk : oKd a = some 10) : oE d 139 86 [l0, l1, l2, l3, l4, l5] (.inr (.inr (.inl a)) :: S) σ Q = oE d 139 89 [l0, l1, l2, l3, l4, l5] (.inr (.inr (.inl (oRf a 4))) :: S) σ Q := pGfR f_139_86 ow_139 fl_10_31 rfl (by decide) hk
theorem f_139_89 : oFet 139 89 = some (.iload_n 3, 1) := by decide +kernel
theorem s_139_89 {d : Nat} {l0 l1 l2 l4 l5 : oV} {x : Int} {S : List oV} {σ : oSg} {Q : Option oV → (Nat → oC) → Prop} : oE d 139 89 [l0, l1, l2, .inl x, l4, l5] S σ Q = oE d 139 90 [l0, l1, l2, .inl x, l4, l5] (.inl x :: S) σ Q := pLdN (k := 3) f_139_89 rfl rfl rfl
theorem f_139_90 : oFet 139 90 = some (.iload 4, 2) := by decide +kernel
theorem s_139_90 {d : Nat} {l0 l1 l2 l3 l5 : oV} {x : Int} {S : List oV} {σ : oSg} {Q : Option oV → (Nat → oC) → Prop} : oE d 139 90 [l0, l1, l2, l3, .inl x, l5] S σ Q = oE d 139 92 [l0, l1, l2, l3, .inl x, l5] (.inl x :: S) σ Q := pLd (i := 4) f_139_90 rfl rfl rfl
theorem f_139_92 : oFet 139 92 = some (.iload 5, 2) := by decide +kernel
theorem s_139_92 {d : Nat} {l0 l1 l2 l3 l4 : oV} {x : Int} {S : List oV} {σ : oSg} {Q : Option oV → (Nat → oC) → Prop} : oE d 139 92 [l0, l1, l2, l3, l4, .inl x] S σ Q = oE d 139 94 [l0, l1, l2, l3, l4, .inl x] (.inl x :: S) σ Q := pLd (i := 5) f_139_92 rfl rfl rfl
theorem f_139_94 : oFet 139 94 = some (.invokevirtual 361, 3) := by decide +kernel
theorem c_139_94 {d : Nat} {l0 l1 l2 l3 l4 l5 : oV} {x0 x1 x2 : oV} {a : Nat} {v : Option oV} {τ : oSg} {S : List oV} {σ : oSg} {Q : Option oV → (Nat → oC) → Prop} (hm : oMi d 125 [.inr (.inr (.inl a)), x0, x1, x2] σ v τ) (hk : oKd a = some 8) (hs : oSmall S = true) : oE d 139 94 [l0, l1, l2, l3, l4, l5] (x2 :: x1 :: x0 :: .inr (.inr (.inl a)) :: S) σ Q = oE d 139 97 [l0, l1, l2, l3, l4, l5] (v.toList ++ S) τ Q := pCallV f_139_94 ow_139 lk_10_361 mt_125 rfl rfl rfl hk hs hm
theorem f_139_97 : oFet 139 97 = some (.ifCond .ne 6, 3) := by decide +kernel
theorem s_139_97 {d : Nat} {l0 l1 l2 l3 l4 l5 : oV} {x : Int} {S : List oV} {σ : oSg} {Q : Option oV → (Nat → oC) → Prop} : oE d 139 97 [l0, l1, l2, l3, l4, l5] (.inl x :: S) σ Q = if ¬ x = 0 then oE d 139 103 [l0, l1, l2, l3, l4, l5] S σ Q else oE d 139 100 [l0, l1, l2, l3, l4, l5] S σ Q := oIfNe f_139_97 (by decide)
theorem f_139_100 : oFet 139 100 = some (.bipush (-13), 2) := by decide +kernel
theorem s_139_100 {d : Nat} {l0 l1 l2 l3 l4 l5 : oV} {S : List oV} {σ : oSg} {Q : Option oV → (Nat → oC) → Prop} : oE d 139 100 [l0, l1, l2, l3, l4, l5] S σ Q = oE d 139 102 [l0, l1, l2, l3, l4, l5] (.inl (-13) :: S) σ Q := pBip f_139_100 (by decide)
theorem f_139_102 : oFet 139 102 = some (.ireturn, 1) := by decide +kernel
theorem s_139_102 {d : Nat} {l0 l1 l2 l3 l4 l5 : oV} {x : Int} {σ : oSg} {Q : Option oV → (Nat → oC) → Prop} : oE d 139 102 [l0, l1, l2, l3, l4, l5] [.inl x] σ Q = Q (some (.inl x)) (oBld σ) := oIret f_139_102 rt_139
theorem f_139_103 : oFet 139 103 = some (.aload_n 0, 1) := by decide +kernel
theorem s_139_103 {d : Nat} {l1 l2 l3 l4 l5 : oV} {a : Nat} {S : List oV} {σ : oSg} {Q : Option oV → (Nat → oC) → Prop} : oE d 139 103 [.inr (.inr (.inl a)), l1, l2, l3, l4, l5] S σ Q = oE d 139 104 [.inr (.inr (.inl a)), l1, l2, l3, l4, l5] (.inr (.inr (.inl a)) :: S) σ Q := pLdN (k := 0) f_139_103 rfl rfl rfl
theorem f_139_104 : oFet 139 104 = some (.getfield 31, 3) := by decide +kernel
theorem s_139_104 {d : Nat} {l0 l1 l2 l3 l4 l5 : oV} {a : Nat} {S : List oV} {σ : oSg} {Q : Option oV → (Nat → oC) → Prop} (hk : oKd a = some 10) : oE d 139 104 [l0, l1, l2, l3, l4, l5] (.inr (.inr (.inl a)) :: S) σ Q = oE d 139 107 [l0, l1, l2, l3, l4, l5] (.inr (.inr (.inl (oRf a 4))) :: S) σ Q := pGfR f_139_104 ow_139 fl_10_31 rfl (by decide) hk
theorem f_139_107 : oFet 139 107 = some (.iload_n 1, 1) := by decide +kernel
theorem s_139_107 {d : Nat} {l0 l2 l3 l4 l5 : oV} {x : Int} {S : List oV} {σ : oSg} {Q : Option oV → (Nat → oC) → Prop} : oE d 139 107 [l0, .inl x, l2, l3, l4, l5] S σ Q = oE d 139 108 [l0, .inl x, l2, l3, l4, l5] (.inl x :: S) σ Q := pLdN (k := 1) f_139_107 rfl rfl rfl
theorem f_139_108 : oFet 139 108 = some (.iload_n 2, 1) := by decide +kernel
theorem s_139_108 {d : Nat} {l0 l1 l3 l4 l5 : oV} {x : Int} {S : List oV} {σ : oSg} {Q : Option oV → (Nat → oC) → Prop} : oE d 139 108 [l0, l1, .inl x, l3, l4, l5] S σ Q = oE d 139 109 [l0, l1, .inl x, l3, l4, l5] (.inl x :: S) σ Q := pLdN (k := 2) f_139_108 rfl rfl rfl
theorem f_139_109 : oFet 139 109 = some (.iload_n 3, 1) := by decide +kernel
theorem s_139_109 {d : Nat} {l0 l1 l2 l4 l5 : oV} {x : Int} {S : List oV} {σ : oSg} {Q : Option oV → (Nat → oC) → Prop} : oE d 139 109 [l0, l1, l2, .inl x, l4, l5] S σ Q = oE d 139 110 [l0, l1, l2, .inl x, l4, l5] (.inl x :: S) σ Q := pLdN (k := 3) f_139_109 rfl rfl rfl
theorem f_139_110 : oFet 139 110 = some (.iload 4, 2) := by decide +kernel
theorem s_139_110 {d : Nat} {l0 l1 l2 l3 l5 : oV} {x : Int} {S : List oV} {σ : oSg} {Q : Option oV → (Nat → oC) → Prop} : oE d 139 110 [l0, l1, l2, l3, .inl x, l5] S σ Q = oE d 139 112 [l0, l1, l2, l3, .inl x, l5] (.inl x :: S) σ Q := pLd (i := 4) f_139_110 rfl rfl rfl
theorem f_139_112 : oFet 139 112 = some (.iload 5, 2) := by decide +kernel
theorem s_139_112 {d : Nat} {l0 l1 l2 l3 l4 : oV} {x : Int} {S : List oV} {σ : oSg} {Q : Option oV → (Nat → oC) → Prop} : oE d 139 112 [l0, l1, l2, l3, l4, .inl x] S σ Q = oE d 139 114 [l0, l1, l2, l3, l4, .inl x] (.inl x :: S) σ Q := pLd (i := 5) f_139_112 rfl rfl rfl
theorem f_139_114 : oFet 139 114 = some (.invokevirtual 365, 3) := by decide +kernel
theorem c_139_114 {d : Nat} {l0 l1 l2 l3 l4 l5 : oV} {x0 x1 x2 x3 x4 : oV} {a : Nat} {v : Option oV} {τ : oSg} {S : List oV} {σ : oSg} {Q : Option oV → (Nat → oC) → Prop} (hm : oMi d 140 [.inr (.inr (.inl a)), x0, x1, x2, x3, x4] σ v τ) (hk : oKd a = some 8) (hs : oSmall S = true) : oE d 139 114 [l0, l1, l2, l3, l4, l5] (x4 :: x3 :: x2 :: x1 :: x0 :: .inr (.inr (.inl a)) :: S) σ Q = oE d 139 117 [l0, l1, l2, l3, l4, l5] (v.toList ++ S) τ Q := pCallV f_139_114 ow_139 lk_10_365 mt_140 rfl rfl rfl hk hs hm
theorem f_139_117 : oFet 139 117 = some (.iload 5, 2) := by decide +kernel
theorem s_139_117 {d : Nat} {l0 l1 l2 l3 l4 : oV} {x : Int} {S : List oV} {σ : oSg} {Q : Option oV → (Nat → oC) → Prop} : oE d 139 117 [l0, l1, l2, l3, l4, .inl x] S σ Q = oE d 139 119 [l0, l1, l2, l3, l4, .inl x] (.inl x :: S) σ Q := pLd (i := 5) f_139_117 rfl rfl rfl
theorem f_139_119 : oFet 139 119 = some (.ireturn, 1) := by decide +kernel
theorem s_139_119 {d : Nat} {l0 l1 l2 l3 l4 l5 : oV} {x : Int} {σ : oSg} {Q : Option oV → (Nat → oC) → Prop} : oE d 139 119 [l0, l1, l2, l3, l4, l5] [.inl x] σ Q = Q (some (.inl x)) (oBld σ) := oIret f_139_119 rt_139
theorem ow_140 : (oMt 140).2.2.2.2.1 = 8 := by decide +kernel
theorem rt_140 : (oMt 140).2.2.2.1 = none := by decide +kernel
theorem nl_140 : (oMt 140).2.2.1 = 6 := by decide +kernel
theorem f_140_0 : oFet 140 0 = some (.aload_n 0, 1) := by decide +kernel
theorem s_140_0 {d : Nat} {l1 l2 l3 l4 l5 : oV} {a : Nat} {S : List oV} {σ : oSg} {Q : Option oV → (Nat → oC) → Prop} : oE d 140 0 [.inr (.inr (.inl a)), l1, l2, l3, l4, l5] S σ Q = oE d 140 1 [.inr (.inr (.inl a)), l1, l2, l3, l4, l5] (.inr (.inr (.inl a)) :: S) σ Q := pLdN (k := 0) f_140_0 rfl rfl rfl
theorem f_140_1 : oFet 140 1 = some (.iload_n 1, 1) := by decide +kernel
theorem s_140_1 {d : Nat} {l0 l2 l3 l4 l5 : oV} {x : Int} {S : List oV} {σ : oSg} {Q : Option oV → (Nat → oC) → Prop} : oE d 140 1 [l0, .inl x, l2, l3, l4, l5] S σ Q = oE d 140 2 [l0, .inl x, l2, l3, l4, l5] (.inl x :: S) σ Q := pLdN (k := 1) f_140_1 rfl rfl rfl
theorem f_140_2 : oFet 140 2 = some (.iload_n 2, 1) := by decide +kernel
theorem s_140_2 {d : Nat} {l0 l1 l3 l4 l5 : oV} {x : Int} {S : List oV} {σ : oSg} {Q : Option oV → (Nat → oC) → Prop} : oE d 140 2 [l0, l1, .inl x, l3, l4, l5] S σ Q = oE d 140 3 [l0, l1, .inl x, l3, l4, l5] (.inl x :: S) σ Q := pLdN (k := 2) f_140_2 rfl rfl rfl
theorem f_140_3 : oFet 140 3 = some (.iload 5, 2) := by decide +kernel
theorem s_140_3 {d : Nat} {l0 l1 l2 l3 l4 : oV} {x : Int} {S : List oV} {σ : oSg} {Q : Option oV → (Nat → oC) → Prop} : oE d 140 3 [l0, l1, l2, l3, l4, .inl x] S σ Q = oE d 140 5 [l0, l1, l2, l3, l4, .inl x] (.inl x :: S) σ Q := pLd (i := 5) f_140_3 rfl rfl rfl
theorem f_140_5 : oFet 140 5 = some (.invokevirtual 40, 3) := by decide +kernel
theorem c_140_5 {d : Nat} {l0 l1 l2 l3 l4 l5 : oV} {x0 x1 x2 : oV} {a : Nat} {v : Option oV} {τ : oSg} {S : List oV} {σ : oSg} {Q : Option oV → (Nat → oC) → Prop} (hm : oMi d 125 [.inr (.inr (.inl a)), x0, x1, x2] σ v τ) (hk : oKd a = some 8) (hs : oSmall S = true) : oE d 140 5 [l0, l1, l2, l3, l4, l5] (x2 :: x1 :: x0 :: .inr (.inr (.inl a)) :: S) σ Q = oE d 140 8 [l0, l1, l2, l3, l4, l5] (v.toList ++ S) τ Q := pCallV f_140_5 ow_140 lk_8_40 mt_125 rfl rfl rfl hk hs hm
theorem f_140_8 : oFet 140 8 = some (.ifCond .eq 41, 3) := by decide +kernel
theorem s_140_8 {d : Nat} {l0 l1 l2 l3 l4 l5 : oV} {x : Int} {S : List oV} {σ : oSg} {Q : Option oV → (Nat → oC) → Prop} : oE d 140 8 [l0, l1, l2, l3, l4, l5] (.inl x :: S) σ Q = if x = 0 then oE d 140 49 [l0, l1, l2, l3, l4, l5] S σ Q else oE d 140 11 [l0, l1, l2, l3, l4, l5] S σ Q := oIfEq f_140_8 (by decide)
theorem f_140_11 : oFet 140 11 = some (.aload_n 0, 1) := by decide +kernel
theorem s_140_11 {d : Nat} {l1 l2 l3 l4 l5 : oV} {a : Nat} {S : List oV} {σ : oSg} {Q : Option oV → (Nat → oC) → Prop} : oE d 140 11 [.inr (.inr (.inl a)), l1, l2, l3, l4, l5] S σ Q = oE d 140 12 [.inr (.inr (.inl a)), l1, l2, l3, l4, l5] (.inr (.inr (.inl a)) :: S) σ Q := pLdN (k := 0) f_140_11 rfl rfl rfl
theorem f_140_12 : oFet 140 12 = some (.iload_n 3, 1) := by decide +kernel
theorem s_140_12 {d : Nat} {l0 l1 l2 l4 l5 : oV} {x : Int} {S : List oV} {σ : oSg} {Q : Option oV → (Nat → oC) → Prop} : oE d 140 12 [l0, l1, l2, .inl x, l4, l5] S σ Q = oE d 140 13 [l0, l1, l2, .inl x, l4, l5] (.inl x :: S) σ Q := pLdN (k := 3) f_140_12 rfl rfl rfl
theorem f_140_13 : oFet 140 13 = some (.iload 4, 2) := by decide +kernel
theorem s_140_13 {d : Nat} {l0 l1 l2 l3 l5 : oV} {x : Int} {S : List oV} {σ : oSg} {Q : Option oV → (Nat → oC) → Prop} : oE d 140 13 [l0, l1, l2, l3, .inl x, l5] S σ Q = oE d 140 15 [l0, l1, l2, l3, .inl x, l5] (.inl x :: S) σ Q := pLd (i := 4) f_140_13 rfl rfl rfl
theorem f_140_15 : oFet 140 15 = some (.iload 5, 2) := by decide +kernel
theorem s_140_15 {d : Nat} {l0 l1 l2 l3 l4 : oV} {x : Int} {S : List oV} {σ : oSg} {Q : Option oV → (Nat → oC) → Prop} : oE d 140 15 [l0, l1, l2, l3, l4, .inl x] S σ Q = oE d 140 17 [l0, l1, l2, l3, l4, .inl x] (.inl x :: S) σ Q := pLd (i := 5) f_140_15 rfl rfl rfl
theorem f_140_17 : oFet 140 17 = some (.invokevirtual 40, 3) := by decide +kernel
theorem c_140_17 {d : Nat} {l0 l1 l2 l3 l4 l5 : oV} {x0 x1 x2 : oV} {a : Nat} {v : Option oV} {τ : oSg} {S : List oV} {σ : oSg} {Q : Option oV → (Nat → oC) → Prop} (hm : oMi d 125 [.inr (.inr (.inl a)), x0, x1, x2] σ v τ) (hk : oKd a = some 8) (hs : oSmall S = true) : oE d 140 17 [l0, l1, l2, l3, l4, l5] (x2 :: x1 :: x0 :: .inr (.inr (.inl a)) :: S) σ Q = oE d 140 20 [l0, l1, l2, l3, l4, l5] (v.toList ++ S) τ Q := pCallV f_140_17 ow_140 lk_8_40 mt_125 rfl rfl rfl hk hs hm
theorem f_140_20 : oFet 140 20 = some (.ifCond .eq 29, 3) := by decide +kernel
theorem s_140_20 {d : Nat} {l0 l1 l2 l3 l4 l5 : oV} {x : Int} {S : List oV} {σ : oSg} {Q : Option oV → (Nat → oC) → Prop} : oE d 140 20 [l0, l1, l2, l3, l4, l5] (.inl x :: S) σ Q = if x = 0 then oE d 140 49 [l0, l1, l2, l3, l4, l5] S σ Q else oE d 140 23 [l0, l1, l2, l3, l4, l5] S σ Q := oIfEq f_140_20 (by decide)
theorem f_140_23 : oFet 140 23 = some (.aload_n 0, 1) := by decide +kernel
theorem s_140_23 {d : Nat} {l1 l2 l3 l4 l5 : oV} {a : Nat} {S : List oV} {σ : oSg} {Q : Option oV → (Nat → oC) → Prop} : oE d 140 23 [.inr (.inr (.inl a)), l1, l2, l3, l4, l5] S σ Q = oE d 140 24 [.inr (.inr (.inl a)), l1, l2, l3, l4, l5] (.inr (.inr (.inl a)) :: S) σ Q := pLdN (k := 0) f_140_23 rfl rfl rfl
theorem f_140_24 : oFet 140 24 = some (.getfield 16, 3) := by decide +kernel
theorem s_140_24 {d : Nat} {l0 l1 l2 l3 l4 l5 : oV} {a : Nat} {S : List oV} {σ : oSg} {Q : Option oV → (Nat → oC) → Prop} (hk : oKd a = some 8) : oE d 140 24 [l0, l1, l2, l3, l4, l5] (.inr (.inr (.inl a)) :: S) σ Q = oE d 140 27 [l0, l1, l2, l3, l4, l5] (.inr (.inr (.inl (oRf a 2))) :: S) σ Q := pGfR f_140_24 ow_140 fl_8_16 rfl (by decide) hk
theorem f_140_27 : oFet 140 27 = some (.iload_n 1, 1) := by decide +kernel
theorem s_140_27 {d : Nat} {l0 l2 l3 l4 l5 : oV} {x : Int} {S : List oV} {σ : oSg} {Q : Option oV → (Nat → oC) → Prop} : oE d 140 27 [l0, .inl x, l2, l3, l4, l5] S σ Q = oE d 140 28 [l0, .inl x, l2, l3, l4, l5] (.inl x :: S) σ Q := pLdN (k := 1) f_140_27 rfl rfl rfl
theorem f_140_28 : oFet 140 28 = some (.bipush 60, 2) := by decide +kernel
theorem s_140_28 {d : Nat} {l0 l1 l2 l3 l4 l5 : oV} {S : List oV} {σ : oSg} {Q : Option oV → (Nat → oC) → Prop} : oE d 140 28 [l0, l1, l2, l3, l4, l5] S σ Q = oE d 140 30 [l0, l1, l2, l3, l4, l5] (.inl (60) :: S) σ Q := pBip f_140_28 (by decide)
theorem f_140_30 : oFet 140 30 = some (.imul, 1) := by decide +kernel
theorem s_140_30 {d : Nat} {l0 l1 l2 l3 l4 l5 : oV} {x y : Int} {S : List oV} {σ : oSg} {Q : Option oV → (Nat → oC) → Prop} : oE d 140 30 [l0, l1, l2, l3, l4, l5] (.inl y :: .inl x :: S) σ Q = oE d 140 31 [l0, l1, l2, l3, l4, l5] (.inl (oMul x y) :: S) σ Q := oS3 f_140_30 rfl rfl rfl
theorem f_140_31 : oFet 140 31 = some (.iload_n 2, 1) := by decide +kernel
theorem s_140_31 {d : Nat} {l0 l1 l3 l4 l5 : oV} {x : Int} {S : List oV} {σ : oSg} {Q : Option oV → (Nat → oC) → Prop} : oE d 140 31 [l0, l1, .inl x, l3, l4, l5] S σ Q = oE d 140 32 [l0, l1, .inl x, l3, l4, l5] (.inl x :: S) σ Q := pLdN (k := 2) f_140_31 rfl rfl rfl
theorem f_140_32 : oFet 140 32 = some (.iadd, 1) := by decide +kernel
theorem s_140_32 {d : Nat} {l0 l1 l2 l3 l4 l5 : oV} {x y : Int} {S : List oV} {σ : oSg} {Q : Option oV → (Nat → oC) → Prop} : oE d 140 32 [l0, l1, l2, l3, l4, l5] (.inl y :: .inl x :: S) σ Q = oE d 140 33 [l0, l1, l2, l3, l4, l5] (.inl (oAdd x y) :: S) σ Q := oS3 f_140_32 rfl rfl rfl
theorem f_140_33 : oFet 140 33 = some (.aload_n 0, 1) := by decide +kernel
theorem s_140_33 {d : Nat} {l1 l2 l3 l4 l5 : oV} {a : Nat} {S : List oV} {σ : oSg} {Q : Option oV → (Nat → oC) → Prop} : oE d 140 33 [.inr (.inr (.inl a)), l1, l2, l3, l4, l5] S σ Q = oE d 140 34 [.inr (.inr (.inl a)), l1, l2, l3, l4, l5] (.inr (.inr (.inl a)) :: S) σ Q := pLdN (k := 0) f_140_33 rfl rfl rfl
theorem f_140_34 : oFet 140 34 = some (.getfield 16, 3) := by decide +kernel
theorem s_140_34 {d : Nat} {l0 l1 l2 l3 l4 l5 : oV} {a : Nat} {S : List oV} {σ : oSg} {Q : Option oV → (Nat → oC) → Prop} (hk : oKd a = some 8) : oE d 140 34 [l0, l1, l2, l3, l4, l5] (.inr (.inr (.inl a)) :: S) σ Q = oE d 140 37 [l0, l1, l2, l3, l4, l5] (.inr (.inr (.inl (oRf a 2))) :: S) σ Q := pGfR f_140_34 ow_140 fl_8_16 rfl (by decide) hk
theorem f_140_37 : oFet 140 37 = some (.iload_n 3, 1) := by decide +kernel
theorem s_140_37 {d : Nat} {l0 l1 l2 l4 l5 : oV} {x : Int} {S : List oV} {σ : oSg} {Q : Option oV → (Nat → oC) → Prop} : oE d 140 37 [l0, l1, l2, .inl x, l4, l5] S σ Q = oE d 140 38 [l0, l1, l2, .inl x, l4, l5] (.inl x :: S) σ Q := pLdN (k := 3) f_140_37 rfl rfl rfl
theorem f_140_38 : oFet 140 38 = some (.bipush 60, 2) := by decide +kernel
theorem s_140_38 {d : Nat} {l0 l1 l2 l3 l4 l5 : oV} {S : List oV} {σ : oSg} {Q : Option oV → (Nat → oC) → Prop} : oE d 140 38 [l0, l1, l2, l3, l4, l5] S σ Q = oE d 140 40 [l0, l1, l2, l3, l4, l5] (.inl (60) :: S) σ Q := pBip f_140_38 (by decide)
theorem f_140_40 : oFet 140 40 = some (.imul, 1) := by decide +kernel
theorem s_140_40 {d : Nat} {l0 l1 l2 l3 l4 l5 : oV} {x y : Int} {S : List oV} {σ : oSg} {Q : Option oV → (Nat → oC) → Prop} : oE d 140 40 [l0, l1, l2, l3, l4, l5] (.inl y :: .inl x :: S) σ Q = oE d 140 41 [l0, l1, l2, l3, l4, l5] (.inl (oMul x y) :: S) σ Q := oS3 f_140_40 rfl rfl rfl
theorem f_140_41 : oFet 140 41 = some (.iload 4, 2) := by decide +kernel
theorem s_140_41 {d : Nat} {l0 l1 l2 l3 l5 : oV} {x : Int} {S : List oV} {σ : oSg} {Q : Option oV → (Nat → oC) → Prop} : oE d 140 41 [l0, l1, l2, l3, .inl x, l5] S σ Q = oE d 140 43 [l0, l1, l2, l3, .inl x, l5] (.inl x :: S) σ Q := pLd (i := 4) f_140_41 rfl rfl rfl
theorem f_140_43 : oFet 140 43 = some (.iadd, 1) := by decide +kernel
theorem s_140_43 {d : Nat} {l0 l1 l2 l3 l4 l5 : oV} {x y : Int} {S : List oV} {σ : oSg} {Q : Option oV → (Nat → oC) → Prop} : oE d 140 43 [l0, l1, l2, l3, l4, l5] (.inl y :: .inl x :: S) σ Q = oE d 140 44 [l0, l1, l2, l3, l4, l5] (.inl (oAdd x y) :: S) σ Q := oS3 f_140_43 rfl rfl rfl
theorem f_140_44 : oFet 140 44 = some (.iload 5, 2) := by decide +kernel
theorem s_140_44 {d : Nat} {l0 l1 l2 l3 l4 : oV} {x : Int} {S : List oV} {σ : oSg} {Q : Option oV → (Nat → oC) → Prop} : oE d 140 44 [l0, l1, l2, l3, l4, .inl x] S σ Q = oE d 140 46 [l0, l1, l2, l3, l4, .inl x] (.inl x :: S) σ Q := pLd (i := 5) f_140_44 rfl rfl rfl
theorem f_140_46 : oFet 140 46 = some (.invokestatic 48, 3) := by decide +kernel
theorem s_140_46 {d : Nat} {l0 l1 l2 l3 l4 l5 : oV} {a b : Nat} {sp dp n : Int} {S : List oV} {σ : oSg} {Q : Option oV → (Nat → oC) → Prop} (ha : oAk a = some 1) (hb : oAk b = some 1) (hs : oSmall S = true) (g1 : 0 ≤ sp) (g2 : 0 ≤ dp) (g3 : 0 ≤ n) (g4 : sp + n ≤ (oLn a : Int)) (g5 : dp + n ≤ (oLn b : Int)) : oE d 140 46 [l0, l1, l2, l3, l4, l5] (.inl n :: .inl dp :: .inr (.inr (.inl b)) :: .inl sp :: .inr (.inr (.inl a)) :: S) σ Q = oE d 140 49 [l0, l1, l2, l3, l4, l5] S (oCp σ a sp b dp n) Q := pCpy f_140_46 ow_140 lk_8_48 ha hb (by decide) hs g1 g2 g3 g4 g5
theorem f_140_49 : oFet 140 49 = some (.return_, 1) := by decide +kernel
theorem s_140_49 {d : Nat} {l0 l1 l2 l3 l4 l5 : oV} {σ : oSg} {Q : Option oV → (Nat → oC) → Prop} : oE d 140 49 [l0, l1, l2, l3, l4, l5] [] σ Q = Q none (oBld σ) := oVret f_140_49 rt_140
theorem ow_142 : (oMt 142).2.2.2.2.1 = 11 := by decide +kernel
theorem rt_142 : (oMt 142).2.2.2.1 = some .int := by decide +kernel
theorem nl_142 : (oMt 142).2.2.1 = 1 := by decide +kernel
theorem f_142_0 : oFet 142 0 = some (.aload_n 0, 1) := by decide +kernel
theorem s_142_0 {d : Nat} {a : Nat} {S : List oV} {σ : oSg} {Q : Option oV → (Nat → oC) → Prop} : oE d 142 0 [.inr (.inr (.inl a))] S σ Q = oE d 142 1 [.inr (.inr (.inl a))] (.inr (.inr (.inl a)) :: S) σ Q := pLdN (k := 0) f_142_0 rfl rfl rfl
theorem f_142_1 : oFet 142 1 = some (.getfield 11, 3) := by decide +kernel
theorem s_142_1 {d : Nat} {l0 : oV} {a : Nat} {S : List oV} {σ : oSg} {Q : Option oV → (Nat → oC) → Prop} (hk : oKd a = some 11) : oE d 142 1 [l0] (.inr (.inr (.inl a)) :: S) σ Q = oE d 142 4 [l0] (.inr (.inr (.inl (oRf a 0))) :: S) σ Q := pGfR f_142_1 ow_142 fl_11_11 rfl (by decide) hk
theorem f_142_4 : oFet 142 4 = some (.iconst 0, 1) := by decide +kernel
theorem s_142_4 {d : Nat} {l0 : oV} {S : List oV} {σ : oSg} {Q : Option oV → (Nat → oC) → Prop} : oE d 142 4 [l0] S σ Q = oE d 142 5 [l0] (.inl (0) :: S) σ Q := pKst f_142_4 (by decide)
theorem f_142_5 : oFet 142 5 = some (.iaload, 1) := by decide +kernel
theorem s_142_5 {d : Nat} {l0 : oV} {a : Nat} {i : Int} {S : List oV} {σ : oSg} {Q : Option oV → (Nat → oC) → Prop} (hk : oAk a = some 0) (h0 : 0 ≤ i) (h1 : i < (oLn a : Int)) : oE d 142 5 [l0] (.inl i :: .inr (.inr (.inl a)) :: S) σ Q = oE d 142 6 [l0] (.inl (σ.2 a i.toNat) :: S) σ Q := oIal f_142_5 hk h0 h1
theorem f_142_6 : oFet 142 6 = some (.bipush 7, 2) := by decide +kernel
theorem s_142_6 {d : Nat} {l0 : oV} {S : List oV} {σ : oSg} {Q : Option oV → (Nat → oC) → Prop} : oE d 142 6 [l0] S σ Q = oE d 142 8 [l0] (.inl (7) :: S) σ Q := pBip f_142_6 (by decide)
theorem f_142_8 : oFet 142 8 = some (.if_icmp .ne 6, 3) := by decide +kernel
theorem s_142_8 {d : Nat} {l0 : oV} {x y : Int} {S : List oV} {σ : oSg} {Q : Option oV → (Nat → oC) → Prop} : oE d 142 8 [l0] (.inl y :: .inl x :: S) σ Q = if ¬ x = y then oE d 142 14 [l0] S σ Q else oE d 142 11 [l0] S σ Q := oCmpNe f_142_8 (by decide)
theorem f_142_11 : oFet 142 11 = some (.bipush (-4), 2) := by decide +kernel
theorem s_142_11 {d : Nat} {l0 : oV} {S : List oV} {σ : oSg} {Q : Option oV → (Nat → oC) → Prop} : oE d 142 11 [l0] S σ Q = oE d 142 13 [l0] (.inl (-4) :: S) σ Q := pBip f_142_11 (by decide)
theorem f_142_13 : oFet 142 13 = some (.ireturn, 1) := by decide +kernel
theorem s_142_13 {d : Nat} {l0 : oV} {x : Int} {σ : oSg} {Q : Option oV → (Nat → oC) → Prop} : oE d 142 13 [l0] [.inl x] σ Q = Q (some (.inl x)) (oBld σ) := oIret f_142_13 rt_142
theorem f_142_14 : oFet 142 14 = some (.aload_n 0, 1) := by decide +kernel
theorem s_142_14 {d : Nat} {a : Nat} {S : List oV} {σ : oSg} {Q : Option oV → (Nat → oC) → Prop} : oE d 142 14 [.inr (.inr (.inl a))] S σ Q = oE d 142 15 [.inr (.inr (.inl a))] (.inr (.inr (.inl a)) :: S) σ Q := pLdN (k := 0) f_142_14 rfl rfl rfl
theorem f_142_15 : oFet 142 15 = some (.getfield 11, 3) := by decide +kernel
theorem s_142_15 {d : Nat} {l0 : oV} {a : Nat} {S : List oV} {σ : oSg} {Q : Option oV → (Nat → oC) → Prop} (hk : oKd a = some 11) : oE d 142 15 [l0] (.inr (.inr (.inl a)) :: S) σ Q = oE d 142 18 [l0] (.inr (.inr (.inl (oRf a 0))) :: S) σ Q := pGfR f_142_15 ow_142 fl_11_11 rfl (by decide) hk
theorem f_142_18 : oFet 142 18 = some (.iconst 0, 1) := by decide +kernel
theorem s_142_18 {d : Nat} {l0 : oV} {S : List oV} {σ : oSg} {Q : Option oV → (Nat → oC) → Prop} : oE d 142 18 [l0] S σ Q = oE d 142 19 [l0] (.inl (0) :: S) σ Q := pKst f_142_18 (by decide)
theorem f_142_19 : oFet 142 19 = some (.dup2, 1) := by decide +kernel
theorem s_142_19 {d : Nat} {l0 : oV} {x : Int} {a : Nat} {S : List oV} {σ : oSg} {Q : Option oV → (Nat → oC) → Prop} : oE d 142 19 [l0] (.inl x :: .inr (.inr (.inl a)) :: S) σ Q = oE d 142 20 [l0] (.inl x :: .inr (.inr (.inl a)) :: .inl x :: .inr (.inr (.inl a)) :: S) σ Q := pDup2 f_142_19 rfl rfl
theorem f_142_20 : oFet 142 20 = some (.iaload, 1) := by decide +kernel
theorem s_142_20 {d : Nat} {l0 : oV} {a : Nat} {i : Int} {S : List oV} {σ : oSg} {Q : Option oV → (Nat → oC) → Prop} (hk : oAk a = some 0) (h0 : 0 ≤ i) (h1 : i < (oLn a : Int)) : oE d 142 20 [l0] (.inl i :: .inr (.inr (.inl a)) :: S) σ Q = oE d 142 21 [l0] (.inl (σ.2 a i.toNat) :: S) σ Q := oIal f_142_20 hk h0 h1
theorem f_142_21 : oFet 142 21 = some (.iconst 1, 1) := by decide +kernel
theorem s_142_21 {d : Nat} {l0 : oV} {S : List oV} {σ : oSg} {Q : Option oV → (Nat → oC) → Prop} : oE d 142 21 [l0] S σ Q = oE d 142 22 [l0] (.inl (1) :: S) σ Q := pKst f_142_21 (by decide)
theorem f_142_22 : oFet 142 22 = some (.iadd, 1) := by decide +kernel
theorem s_142_22 {d : Nat} {l0 : oV} {x y : Int} {S : List oV} {σ : oSg} {Q : Option oV → (Nat → oC) → Prop} : oE d 142 22 [l0] (.inl y :: .inl x :: S) σ Q = oE d 142 23 [l0] (.inl (oAdd x y) :: S) σ Q := oS3 f_142_22 rfl rfl rfl
theorem f_142_23 : oFet 142 23 = some (.iastore, 1) := by decide +kernel
theorem s_142_23 {d : Nat} {l0 : oV} {a : Nat} {i v : Int} {S : List oV} {σ : oSg} {Q : Option oV → (Nat → oC) → Prop} (hk : oAk a = some 0) (h0 : 0 ≤ i) (h1 : i < (oLn a : Int)) : oE d 142 23 [l0] (.inl v :: .inl i :: .inr (.inr (.inl a)) :: S) σ Q = oE d 142 24 [l0] S (oSA σ a i.toNat v) Q := oIas f_142_23 hk h0 h1
theorem f_142_24 : oFet 142 24 = some (.aload_n 0, 1) := by decide +kernel
theorem s_142_24 {d : Nat} {a : Nat} {S : List oV} {σ : oSg} {Q : Option oV → (Nat → oC) → Prop} : oE d 142 24 [.inr (.inr (.inl a))] S σ Q = oE d 142 25 [.inr (.inr (.inl a))] (.inr (.inr (.inl a)) :: S) σ Q := pLdN (k := 0) f_142_24 rfl rfl rfl
theorem f_142_25 : oFet 142 25 = some (.getfield 11, 3) := by decide +kernel
theorem s_142_25 {d : Nat} {l0 : oV} {a : Nat} {S : List oV} {σ : oSg} {Q : Option oV → (Nat → oC) → Prop} (hk : oKd a = some 11) : oE d 142 25 [l0] (.inr (.inr (.inl a)) :: S) σ Q = oE d 142 28 [l0] (.inr (.inr (.inl (oRf a 0))) :: S) σ Q := pGfR f_142_25 ow_142 fl_11_11 rfl (by decide) hk
theorem f_142_28 : oFet 142 28 = some (.iconst 0, 1) := by decide +kernel
theorem s_142_28 {d : Nat} {l0 : oV} {S : List oV} {σ : oSg} {Q : Option oV → (Nat → oC) → Prop} : oE d 142 28 [l0] S σ Q = oE d 142 29 [l0] (.inl (0) :: S) σ Q := pKst f_142_28 (by decide)
theorem f_142_29 : oFet 142 29 = some (.iaload, 1) := by decide +kernel
theorem s_142_29 {d : Nat} {l0 : oV} {a : Nat} {i : Int} {S : List oV} {σ : oSg} {Q : Option oV → (Nat → oC) → Prop} (hk : oAk a = some 0) (h0 : 0 ≤ i) (h1 : i < (oLn a : Int)) : oE d 142 29 [l0] (.inl i :: .inr (.inr (.inl a)) :: S) σ Q = oE d 142 30 [l0] (.inl (σ.2 a i.toNat) :: S) σ Q := oIal f_142_29 hk h0 h1
theorem f_142_30 : oFet 142 30 = some (.iconst 1, 1) := by decide +kernel
theorem s_142_30 {d : Nat} {l0 : oV} {S : List oV} {σ : oSg} {Q : Option oV → (Nat → oC) → Prop} : oE d 142 30 [l0] S σ Q = oE d 142 31 [l0] (.inl (1) :: S) σ Q := pKst f_142_30 (by decide)
theorem f_142_31 : oFet 142 31 = some (.isub, 1) := by decide +kernel
theorem s_142_31 {d : Nat} {l0 : oV} {x y : Int} {S : List oV} {σ : oSg} {Q : Option oV → (Nat → oC) → Prop} : oE d 142 31 [l0] (.inl y :: .inl x :: S) σ Q = oE d 142 32 [l0] (.inl (oSub x y) :: S) σ Q := oS3 f_142_31 rfl rfl rfl
theorem f_142_32 : oFet 142 32 = some (.ireturn, 1) := by decide +kernel
theorem s_142_32 {d : Nat} {l0 : oV} {x : Int} {σ : oSg} {Q : Option oV → (Nat → oC) → Prop} : oE d 142 32 [l0] [.inl x] σ Q = Q (some (.inl x)) (oBld σ) := oIret f_142_32 rt_142
theorem ow_143 : (oMt 143).2.2.2.2.1 = 11 := by decide +kernel
theorem rt_143 : (oMt 143).2.2.2.1 = some .int := by decide +kernel
theorem nl_143 : (oMt 143).2.2.1 = 5 := by decide +kernel
theorem f_143_0 : oFet 143 0 = some (.aload_n 0, 1) := by decide +kernel
theorem s_143_0 {d : Nat} {l1 l2 l3 l4 : oV} {a : Nat} {S : List oV} {σ : oSg} {Q : Option oV → (Nat → oC) → Prop} : oE d 143 0 [.inr (.inr (.inl a)), l1, l2, l3, l4] S σ Q = oE d 143 1 [.inr (.inr (.inl a)), l1, l2, l3, l4] (.inr (.inr (.inl a)) :: S) σ Q := pLdN (k := 0) f_143_0 rfl rfl rfl
theorem f_143_1 : oFet 143 1 = some (.iload_n 1, 1) := by decide +kernel
theorem s_143_1 {d : Nat} {l0 l2 l3 l4 : oV} {x : Int} {S : List oV} {σ : oSg} {Q : Option oV → (Nat → oC) → Prop} : oE d 143 1 [l0, .inl x, l2, l3, l4] S σ Q = oE d 143 2 [l0, .inl x, l2, l3, l4] (.inl x :: S) σ Q := pLdN (k := 1) f_143_1 rfl rfl rfl
theorem f_143_2 : oFet 143 2 = some (.iload_n 2, 1) := by decide +kernel
theorem s_143_2 {d : Nat} {l0 l1 l3 l4 : oV} {x : Int} {S : List oV} {σ : oSg} {Q : Option oV → (Nat → oC) → Prop} : oE d 143 2 [l0, l1, .inl x, l3, l4] S σ Q = oE d 143 3 [l0, l1, .inl x, l3, l4] (.inl x :: S) σ Q := pLdN (k := 2) f_143_2 rfl rfl rfl
theorem f_143_3 : oFet 143 3 = some (.invokevirtual 79, 3) := by decide +kernel
theorem c_143_3 {d : Nat} {l0 l1 l2 l3 l4 : oV} {x0 x1 : oV} {a : Nat} {v : Option oV} {τ : oSg} {S : List oV} {σ : oSg} {Q : Option oV → (Nat → oC) → Prop} (hm : oMi d 144 [.inr (.inr (.inl a)), x0, x1] σ v τ) (hk : oKd a = some 11) (hs : oSmall S = true) : oE d 143 3 [l0, l1, l2, l3, l4] (x1 :: x0 :: .inr (.inr (.inl a)) :: S) σ Q = oE d 143 6 [l0, l1, l2, l3, l4] (v.toList ++ S) τ Q := pCallV f_143_3 ow_143 lk_11_79 mt_144 rfl rfl rfl hk hs hm
theorem f_143_6 : oFet 143 6 = some (.ifCond .ne 5, 3) := by decide +kernel
theorem s_143_6 {d : Nat} {l0 l1 l2 l3 l4 : oV} {x : Int} {S : List oV} {σ : oSg} {Q : Option oV → (Nat → oC) → Prop} : oE d 143 6 [l0, l1, l2, l3, l4] (.inl x :: S) σ Q = if ¬ x = 0 then oE d 143 11 [l0, l1, l2, l3, l4] S σ Q else oE d 143 9 [l0, l1, l2, l3, l4] S σ Q := oIfNe f_143_6 (by decide)
theorem f_143_9 : oFet 143 9 = some (.iconst (-1), 1) := by decide +kernel
theorem s_143_9 {d : Nat} {l0 l1 l2 l3 l4 : oV} {S : List oV} {σ : oSg} {Q : Option oV → (Nat → oC) → Prop} : oE d 143 9 [l0, l1, l2, l3, l4] S σ Q = oE d 143 10 [l0, l1, l2, l3, l4] (.inl (-1) :: S) σ Q := pKst f_143_9 (by decide)
theorem f_143_10 : oFet 143 10 = some (.ireturn, 1) := by decide +kernel
theorem s_143_10 {d : Nat} {l0 l1 l2 l3 l4 : oV} {x : Int} {σ : oSg} {Q : Option oV → (Nat → oC) → Prop} : oE d 143 10 [l0, l1, l2, l3, l4] [.inl x] σ Q = Q (some (.inl x)) (oBld σ) := oIret f_143_10 rt_143
theorem f_143_11 : oFet 143 11 = some (.iload_n 3, 1) := by decide +kernel
theorem s_143_11 {d : Nat} {l0 l1 l2 l4 : oV} {x : Int} {S : List oV} {σ : oSg} {Q : Option oV → (Nat → oC) → Prop} : oE d 143 11 [l0, l1, l2, .inl x, l4] S σ Q = oE d 143 12 [l0, l1, l2, .inl x, l4] (.inl x :: S) σ Q := pLdN (k := 3) f_143_11 rfl rfl rfl
theorem f_143_12 : oFet 143 12 = some (.iconst 0, 1) := by decide +kernel
theorem s_143_12 {d : Nat} {l0 l1 l2 l3 l4 : oV} {S : List oV} {σ : oSg} {Q : Option oV → (Nat → oC) → Prop} : oE d 143 12 [l0, l1, l2, l3, l4] S σ Q = oE d 143 13 [l0, l1, l2, l3, l4] (.inl (0) :: S) σ Q := pKst f_143_12 (by decide)
theorem f_143_13 : oFet 143 13 = some (.bipush 20, 2) := by decide +kernel
theorem s_143_13 {d : Nat} {l0 l1 l2 l3 l4 : oV} {S : List oV} {σ : oSg} {Q : Option oV → (Nat → oC) → Prop} : oE d 143 13 [l0, l1, l2, l3, l4] S σ Q = oE d 143 15 [l0, l1, l2, l3, l4] (.inl (20) :: S) σ Q := pBip f_143_13 (by decide)
theorem f_143_15 : oFet 143 15 = some (.invokestatic 57, 3) := by decide +kernel
theorem c_143_15 {d : Nat} {l0 l1 l2 l3 l4 : oV} {x0 x1 x2 : oV} {v : Option oV} {τ : oSg} {S : List oV} {σ : oSg} {Q : Option oV → (Nat → oC) → Prop} (hm : oMi d 146 [x0, x1, x2] σ v τ) (hs : oSmall S = true) : oE d 143 15 [l0, l1, l2, l3, l4] (x2 :: x1 :: x0 :: S) σ Q = oE d 143 18 [l0, l1, l2, l3, l4] (v.toList ++ S) τ Q := pCallS f_143_15 ow_143 lk_11_57 mt_146 rfl rfl rfl hs hm
theorem f_143_18 : oFet 143 18 = some (.ifCond .ne 6, 3) := by decide +kernel
theorem s_143_18 {d : Nat} {l0 l1 l2 l3 l4 : oV} {x : Int} {S : List oV} {σ : oSg} {Q : Option oV → (Nat → oC) → Prop} : oE d 143 18 [l0, l1, l2, l3, l4] (.inl x :: S) σ Q = if ¬ x = 0 then oE d 143 24 [l0, l1, l2, l3, l4] S σ Q else oE d 143 21 [l0, l1, l2, l3, l4] S σ Q := oIfNe f_143_18 (by decide)
theorem f_143_21 : oFet 143 21 = some (.bipush (-2), 2) := by decide +kernel
theorem s_143_21 {d : Nat} {l0 l1 l2 l3 l4 : oV} {S : List oV} {σ : oSg} {Q : Option oV → (Nat → oC) → Prop} : oE d 143 21 [l0, l1, l2, l3, l4] S σ Q = oE d 143 23 [l0, l1, l2, l3, l4] (.inl (-2) :: S) σ Q := pBip f_143_21 (by decide)
theorem f_143_23 : oFet 143 23 = some (.ireturn, 1) := by decide +kernel
theorem s_143_23 {d : Nat} {l0 l1 l2 l3 l4 : oV} {x : Int} {σ : oSg} {Q : Option oV → (Nat → oC) → Prop} : oE d 143 23 [l0, l1, l2, l3, l4] [.inl x] σ Q = Q (some (.inl x)) (oBld σ) := oIret f_143_23 rt_143
theorem f_143_24 : oFet 143 24 = some (.aload_n 0, 1) := by decide +kernel
theorem s_143_24 {d : Nat} {l1 l2 l3 l4 : oV} {a : Nat} {S : List oV} {σ : oSg} {Q : Option oV → (Nat → oC) → Prop} : oE d 143 24 [.inr (.inr (.inl a)), l1, l2, l3, l4] S σ Q = oE d 143 25 [.inr (.inr (.inl a)), l1, l2, l3, l4] (.inr (.inr (.inl a)) :: S) σ Q := pLdN (k := 0) f_143_24 rfl rfl rfl
theorem f_143_25 : oFet 143 25 = some (.iload_n 1, 1) := by decide +kernel
theorem s_143_25 {d : Nat} {l0 l2 l3 l4 : oV} {x : Int} {S : List oV} {σ : oSg} {Q : Option oV → (Nat → oC) → Prop} : oE d 143 25 [l0, .inl x, l2, l3, l4] S σ Q = oE d 143 26 [l0, .inl x, l2, l3, l4] (.inl x :: S) σ Q := pLdN (k := 1) f_143_25 rfl rfl rfl
theorem f_143_26 : oFet 143 26 = some (.iload_n 2, 1) := by decide +kernel
theorem s_143_26 {d : Nat} {l0 l1 l3 l4 : oV} {x : Int} {S : List oV} {σ : oSg} {Q : Option oV → (Nat → oC) → Prop} : oE d 143 26 [l0, l1, .inl x, l3, l4] S σ Q = oE d 143 27 [l0, l1, .inl x, l3, l4] (.inl x :: S) σ Q := pLdN (k := 2) f_143_26 rfl rfl rfl
theorem f_143_27 : oFet 143 27 = some (.invokevirtual 65, 3) := by decide +kernel
theorem c_143_27 {d : Nat} {l0 l1 l2 l3 l4 : oV} {x0 x1 : oV} {a : Nat} {v : Option oV} {τ : oSg} {S : List oV} {σ : oSg} {Q : Option oV → (Nat → oC) → Prop} (hm : oMi d 147 [.inr (.inr (.inl a)), x0, x1] σ v τ) (hk : oKd a = some 11) (hs : oSmall S = true) : oE d 143 27 [l0, l1, l2, l3, l4] (x1 :: x0 :: .inr (.inr (.inl a)) :: S) σ Q = oE d 143 30 [l0, l1, l2, l3, l4] (v.toList ++ S) τ Q := pCallV f_143_27 ow_143 lk_11_65 mt_147 rfl rfl rfl hk hs hm
theorem f_143_30 : oFet 143 30 = some (.istore 4, 2) := by decide +kernel
theorem s_143_30 {d : Nat} {l0 l1 l2 l3 l4 : oV} {x : Int} {S : List oV} {σ : oSg} {Q : Option oV → (Nat → oC) → Prop} (c4 : oCat l4 = 1) (c3 : oCat l3 = 1)  : oE d 143 30 [l0, l1, l2, l3, l4] (.inl x :: S) σ Q = oE d 143 32 [l0, l1, l2, l3, .inl x] S σ Q := pSt (i := 4) f_143_30 rfl rfl (show (4 : Nat) < 5 by decide) (oC1n c3) (oC1n c4) rfl
theorem f_143_32 : oFet 143 32 = some (.aload_n 0, 1) := by decide +kernel
theorem s_143_32 {d : Nat} {l1 l2 l3 l4 : oV} {a : Nat} {S : List oV} {σ : oSg} {Q : Option oV → (Nat → oC) → Prop} : oE d 143 32 [.inr (.inr (.inl a)), l1, l2, l3, l4] S σ Q = oE d 143 33 [.inr (.inr (.inl a)), l1, l2, l3, l4] (.inr (.inr (.inl a)) :: S) σ Q := pLdN (k := 0) f_143_32 rfl rfl rfl
theorem f_143_33 : oFet 143 33 = some (.iload_n 1, 1) := by decide +kernel
theorem s_143_33 {d : Nat} {l0 l2 l3 l4 : oV} {x : Int} {S : List oV} {σ : oSg} {Q : Option oV → (Nat → oC) → Prop} : oE d 143 33 [l0, .inl x, l2, l3, l4] S σ Q = oE d 143 34 [l0, .inl x, l2, l3, l4] (.inl x :: S) σ Q := pLdN (k := 1) f_143_33 rfl rfl rfl
theorem f_143_34 : oFet 143 34 = some (.iload_n 2, 1) := by decide +kernel
theorem s_143_34 {d : Nat} {l0 l1 l3 l4 : oV} {x : Int} {S : List oV} {σ : oSg} {Q : Option oV → (Nat → oC) → Prop} : oE d 143 34 [l0, l1, .inl x, l3, l4] S σ Q = oE d 143 35 [l0, l1, .inl x, l3, l4] (.inl x :: S) σ Q := pLdN (k := 2) f_143_34 rfl rfl rfl
theorem f_143_35 : oFet 143 35 = some (.iload_n 3, 1) := by decide +kernel
theorem s_143_35 {d : Nat} {l0 l1 l2 l4 : oV} {x : Int} {S : List oV} {σ : oSg} {Q : Option oV → (Nat → oC) → Prop} : oE d 143 35 [l0, l1, l2, .inl x, l4] S σ Q = oE d 143 36 [l0, l1, l2, .inl x, l4] (.inl x :: S) σ Q := pLdN (k := 3) f_143_35 rfl rfl rfl
theorem f_143_36 : oFet 143 36 = some (.invokevirtual 83, 3) := by decide +kernel
theorem c_143_36 {d : Nat} {l0 l1 l2 l3 l4 : oV} {x0 x1 x2 : oV} {a : Nat} {v : Option oV} {τ : oSg} {S : List oV} {σ : oSg} {Q : Option oV → (Nat → oC) → Prop} (hm : oMi d 148 [.inr (.inr (.inl a)), x0, x1, x2] σ v τ) (hk : oKd a = some 11) (hs : oSmall S = true) : oE d 143 36 [l0, l1, l2, l3, l4] (x2 :: x1 :: x0 :: .inr (.inr (.inl a)) :: S) σ Q = oE d 143 39 [l0, l1, l2, l3, l4] (v.toList ++ S) τ Q := pCallV f_143_36 ow_143 lk_11_83 mt_148 rfl rfl rfl hk hs hm
theorem f_143_39 : oFet 143 39 = some (.iload_n 3, 1) := by decide +kernel
theorem s_143_39 {d : Nat} {l0 l1 l2 l4 : oV} {x : Int} {S : List oV} {σ : oSg} {Q : Option oV → (Nat → oC) → Prop} : oE d 143 39 [l0, l1, l2, .inl x, l4] S σ Q = oE d 143 40 [l0, l1, l2, .inl x, l4] (.inl x :: S) σ Q := pLdN (k := 3) f_143_39 rfl rfl rfl
theorem f_143_40 : oFet 143 40 = some (.ifCond .ne 17, 3) := by decide +kernel
theorem s_143_40 {d : Nat} {l0 l1 l2 l3 l4 : oV} {x : Int} {S : List oV} {σ : oSg} {Q : Option oV → (Nat → oC) → Prop} : oE d 143 40 [l0, l1, l2, l3, l4] (.inl x :: S) σ Q = if ¬ x = 0 then oE d 143 57 [l0, l1, l2, l3, l4] S σ Q else oE d 143 43 [l0, l1, l2, l3, l4] S σ Q := oIfNe f_143_40 (by decide)
theorem f_143_43 : oFet 143 43 = some (.aload_n 0, 1) := by decide +kernel
theorem s_143_43 {d : Nat} {l1 l2 l3 l4 : oV} {a : Nat} {S : List oV} {σ : oSg} {Q : Option oV → (Nat → oC) → Prop} : oE d 143 43 [.inr (.inr (.inl a)), l1, l2, l3, l4] S σ Q = oE d 143 44 [.inr (.inr (.inl a)), l1, l2, l3, l4] (.inr (.inr (.inl a)) :: S) σ Q := pLdN (k := 0) f_143_43 rfl rfl rfl
theorem f_143_44 : oFet 143 44 = some (.iload_n 1, 1) := by decide +kernel
theorem s_143_44 {d : Nat} {l0 l2 l3 l4 : oV} {x : Int} {S : List oV} {σ : oSg} {Q : Option oV → (Nat → oC) → Prop} : oE d 143 44 [l0, .inl x, l2, l3, l4] S σ Q = oE d 143 45 [l0, .inl x, l2, l3, l4] (.inl x :: S) σ Q := pLdN (k := 1) f_143_44 rfl rfl rfl
theorem f_143_45 : oFet 143 45 = some (.invokevirtual 75, 3) := by decide +kernel
theorem c_143_45 {d : Nat} {l0 l1 l2 l3 l4 : oV} {x0 : oV} {a : Nat} {v : Option oV} {τ : oSg} {S : List oV} {σ : oSg} {Q : Option oV → (Nat → oC) → Prop} (hm : oMi d 149 [.inr (.inr (.inl a)), x0] σ v τ) (hk : oKd a = some 11) (hs : oSmall S = true) : oE d 143 45 [l0, l1, l2, l3, l4] (x0 :: .inr (.inr (.inl a)) :: S) σ Q = oE d 143 48 [l0, l1, l2, l3, l4] (v.toList ++ S) τ Q := pCallV f_143_45 ow_143 lk_11_75 mt_149 rfl rfl rfl hk hs hm
theorem f_143_48 : oFet 143 48 = some (.iload_n 2, 1) := by decide +kernel
theorem s_143_48 {d : Nat} {l0 l1 l3 l4 : oV} {x : Int} {S : List oV} {σ : oSg} {Q : Option oV → (Nat → oC) → Prop} : oE d 143 48 [l0, l1, .inl x, l3, l4] S σ Q = oE d 143 49 [l0, l1, .inl x, l3, l4] (.inl x :: S) σ Q := pLdN (k := 2) f_143_48 rfl rfl rfl
theorem f_143_49 : oFet 143 49 = some (.if_icmp .ne 8, 3) := by decide +kernel
theorem s_143_49 {d : Nat} {l0 l1 l2 l3 l4 : oV} {x y : Int} {S : List oV} {σ : oSg} {Q : Option oV → (Nat → oC) → Prop} : oE d 143 49 [l0, l1, l2, l3, l4] (.inl y :: .inl x :: S) σ Q = if ¬ x = y then oE d 143 57 [l0, l1, l2, l3, l4] S σ Q else oE d 143 52 [l0, l1, l2, l3, l4] S σ Q := oCmpNe f_143_49 (by decide)
theorem f_143_52 : oFet 143 52 = some (.aload_n 0, 1) := by decide +kernel
theorem s_143_52 {d : Nat} {l1 l2 l3 l4 : oV} {a : Nat} {S : List oV} {σ : oSg} {Q : Option oV → (Nat → oC) → Prop} : oE d 143 52 [.inr (.inr (.inl a)), l1, l2, l3, l4] S σ Q = oE d 143 53 [.inr (.inr (.inl a)), l1, l2, l3, l4] (.inr (.inr (.inl a)) :: S) σ Q := pLdN (k := 0) f_143_52 rfl rfl rfl
theorem f_143_53 : oFet 143 53 = some (.iload_n 1, 1) := by decide +kernel
theorem s_143_53 {d : Nat} {l0 l2 l3 l4 : oV} {x : Int} {S : List oV} {σ : oSg} {Q : Option oV → (Nat → oC) → Prop} : oE d 143 53 [l0, .inl x, l2, l3, l4] S σ Q = oE d 143 54 [l0, .inl x, l2, l3, l4] (.inl x :: S) σ Q := pLdN (k := 1) f_143_53 rfl rfl rfl
theorem f_143_54 : oFet 143 54 = some (.invokevirtual 87, 3) := by decide +kernel
theorem c_143_54 {d : Nat} {l0 l1 l2 l3 l4 : oV} {x0 : oV} {a : Nat} {v : Option oV} {τ : oSg} {S : List oV} {σ : oSg} {Q : Option oV → (Nat → oC) → Prop} (hm : oMi d 150 [.inr (.inr (.inl a)), x0] σ v τ) (hk : oKd a = some 11) (hs : oSmall S = true) : oE d 143 54 [l0, l1, l2, l3, l4] (x0 :: .inr (.inr (.inl a)) :: S) σ Q = oE d 143 57 [l0, l1, l2, l3, l4] (v.toList ++ S) τ Q := pCallV f_143_54 ow_143 lk_11_87 mt_150 rfl rfl rfl hk hs hm
theorem f_143_57 : oFet 143 57 = some (.iload 4, 2) := by decide +kernel
theorem s_143_57 {d : Nat} {l0 l1 l2 l3 : oV} {x : Int} {S : List oV} {σ : oSg} {Q : Option oV → (Nat → oC) → Prop} : oE d 143 57 [l0, l1, l2, l3, .inl x] S σ Q = oE d 143 59 [l0, l1, l2, l3, .inl x] (.inl x :: S) σ Q := pLd (i := 4) f_143_57 rfl rfl rfl
theorem f_143_59 : oFet 143 59 = some (.ireturn, 1) := by decide +kernel
theorem s_143_59 {d : Nat} {l0 l1 l2 l3 l4 : oV} {x : Int} {σ : oSg} {Q : Option oV → (Nat → oC) → Prop} : oE d 143 59 [l0, l1, l2, l3, l4] [.inl x] σ Q = Q (some (.inl x)) (oBld σ) := oIret f_143_59 rt_143
theorem ow_144 : (oMt 144).2.2.2.2.1 = 11 := by decide +kernel
theorem rt_144 : (oMt 144).2.2.2.1 = some .boolean := by decide +kernel
theorem nl_144 : (oMt 144).2.2.1 = 3 := by decide +kernel
theorem f_144_0 : oFet 144 0 = some (.aload_n 0, 1) := by decide +kernel
theorem s_144_0 {d : Nat} {l1 l2 : oV} {a : Nat} {S : List oV} {σ : oSg} {Q : Option oV → (Nat → oC) → Prop} : oE d 144 0 [.inr (.inr (.inl a)), l1, l2] S σ Q = oE d 144 1 [.inr (.inr (.inl a)), l1, l2] (.inr (.inr (.inl a)) :: S) σ Q := pLdN (k := 0) f_144_0 rfl rfl rfl
theorem f_144_1 : oFet 144 1 = some (.iload_n 1, 1) := by decide +kernel
theorem s_144_1 {d : Nat} {l0 l2 : oV} {x : Int} {S : List oV} {σ : oSg} {Q : Option oV → (Nat → oC) → Prop} : oE d 144 1 [l0, .inl x, l2] S σ Q = oE d 144 2 [l0, .inl x, l2] (.inl x :: S) σ Q := pLdN (k := 1) f_144_1 rfl rfl rfl
theorem f_144_2 : oFet 144 2 = some (.invokevirtual 61, 3) := by decide +kernel
theorem c_144_2 {d : Nat} {l0 l1 l2 : oV} {x0 : oV} {a : Nat} {v : Option oV} {τ : oSg} {S : List oV} {σ : oSg} {Q : Option oV → (Nat → oC) → Prop} (hm : oMi d 145 [.inr (.inr (.inl a)), x0] σ v τ) (hk : oKd a = some 11) (hs : oSmall S = true) : oE d 144 2 [l0, l1, l2] (x0 :: .inr (.inr (.inl a)) :: S) σ Q = oE d 144 5 [l0, l1, l2] (v.toList ++ S) τ Q := pCallV f_144_2 ow_144 lk_11_61 mt_145 rfl rfl rfl hk hs hm
theorem f_144_5 : oFet 144 5 = some (.ifCond .eq 20, 3) := by decide +kernel
theorem s_144_5 {d : Nat} {l0 l1 l2 : oV} {x : Int} {S : List oV} {σ : oSg} {Q : Option oV → (Nat → oC) → Prop} : oE d 144 5 [l0, l1, l2] (.inl x :: S) σ Q = if x = 0 then oE d 144 25 [l0, l1, l2] S σ Q else oE d 144 8 [l0, l1, l2] S σ Q := oIfEq f_144_5 (by decide)
theorem f_144_8 : oFet 144 8 = some (.aload_n 0, 1) := by decide +kernel
theorem s_144_8 {d : Nat} {l1 l2 : oV} {a : Nat} {S : List oV} {σ : oSg} {Q : Option oV → (Nat → oC) → Prop} : oE d 144 8 [.inr (.inr (.inl a)), l1, l2] S σ Q = oE d 144 9 [.inr (.inr (.inl a)), l1, l2] (.inr (.inr (.inl a)) :: S) σ Q := pLdN (k := 0) f_144_8 rfl rfl rfl
theorem f_144_9 : oFet 144 9 = some (.iload_n 2, 1) := by decide +kernel
theorem s_144_9 {d : Nat} {l0 l1 : oV} {x : Int} {S : List oV} {σ : oSg} {Q : Option oV → (Nat → oC) → Prop} : oE d 144 9 [l0, l1, .inl x] S σ Q = oE d 144 10 [l0, l1, .inl x] (.inl x :: S) σ Q := pLdN (k := 2) f_144_9 rfl rfl rfl
theorem f_144_10 : oFet 144 10 = some (.invokevirtual 61, 3) := by decide +kernel
theorem c_144_10 {d : Nat} {l0 l1 l2 : oV} {x0 : oV} {a : Nat} {v : Option oV} {τ : oSg} {S : List oV} {σ : oSg} {Q : Option oV → (Nat → oC) → Prop} (hm : oMi d 145 [.inr (.inr (.inl a)), x0] σ v τ) (hk : oKd a = some 11) (hs : oSmall S = true) : oE d 144 10 [l0, l1, l2] (x0 :: .inr (.inr (.inl a)) :: S) σ Q = oE d 144 13 [l0, l1, l2] (v.toList ++ S) τ Q := pCallV f_144_10 ow_144 lk_11_61 mt_145 rfl rfl rfl hk hs hm
theorem f_144_13 : oFet 144 13 = some (.ifCond .eq 12, 3) := by decide +kernel
theorem s_144_13 {d : Nat} {l0 l1 l2 : oV} {x : Int} {S : List oV} {σ : oSg} {Q : Option oV → (Nat → oC) → Prop} : oE d 144 13 [l0, l1, l2] (.inl x :: S) σ Q = if x = 0 then oE d 144 25 [l0, l1, l2] S σ Q else oE d 144 16 [l0, l1, l2] S σ Q := oIfEq f_144_13 (by decide)
theorem f_144_16 : oFet 144 16 = some (.iload_n 1, 1) := by decide +kernel
theorem s_144_16 {d : Nat} {l0 l2 : oV} {x : Int} {S : List oV} {σ : oSg} {Q : Option oV → (Nat → oC) → Prop} : oE d 144 16 [l0, .inl x, l2] S σ Q = oE d 144 17 [l0, .inl x, l2] (.inl x :: S) σ Q := pLdN (k := 1) f_144_16 rfl rfl rfl
theorem f_144_17 : oFet 144 17 = some (.iload_n 2, 1) := by decide +kernel
theorem s_144_17 {d : Nat} {l0 l1 : oV} {x : Int} {S : List oV} {σ : oSg} {Q : Option oV → (Nat → oC) → Prop} : oE d 144 17 [l0, l1, .inl x] S σ Q = oE d 144 18 [l0, l1, .inl x] (.inl x :: S) σ Q := pLdN (k := 2) f_144_17 rfl rfl rfl
theorem f_144_18 : oFet 144 18 = some (.if_icmp .eq 7, 3) := by decide +kernel
theorem s_144_18 {d : Nat} {l0 l1 l2 : oV} {x y : Int} {S : List oV} {σ : oSg} {Q : Option oV → (Nat → oC) → Prop} : oE d 144 18 [l0, l1, l2] (.inl y :: .inl x :: S) σ Q = if x = y then oE d 144 25 [l0, l1, l2] S σ Q else oE d 144 21 [l0, l1, l2] S σ Q := oCmpEq f_144_18 (by decide)
theorem f_144_21 : oFet 144 21 = some (.iconst 1, 1) := by decide +kernel
theorem s_144_21 {d : Nat} {l0 l1 l2 : oV} {S : List oV} {σ : oSg} {Q : Option oV → (Nat → oC) → Prop} : oE d 144 21 [l0, l1, l2] S σ Q = oE d 144 22 [l0, l1, l2] (.inl (1) :: S) σ Q := pKst f_144_21 (by decide)
theorem f_144_22 : oFet 144 22 = some (.goto 4, 3) := by decide +kernel
theorem s_144_22 {d : Nat} {l0 l1 l2 : oV} {S : List oV} {σ : oSg} {Q : Option oV → (Nat → oC) → Prop} : oE d 144 22 [l0, l1, l2] S σ Q = oE d 144 26 [l0, l1, l2] S σ Q := pGoto f_144_22 (by decide)
theorem f_144_25 : oFet 144 25 = some (.iconst 0, 1) := by decide +kernel
theorem s_144_25 {d : Nat} {l0 l1 l2 : oV} {S : List oV} {σ : oSg} {Q : Option oV → (Nat → oC) → Prop} : oE d 144 25 [l0, l1, l2] S σ Q = oE d 144 26 [l0, l1, l2] (.inl (0) :: S) σ Q := pKst f_144_25 (by decide)
theorem f_144_26 : oFet 144 26 = some (.ireturn, 1) := by decide +kernel
theorem s_144_26 {d : Nat} {l0 l1 l2 : oV} {x : Int} {σ : oSg} {Q : Option oV → (Nat → oC) → Prop} (hx : x = 0 ∨ x = 1) : oE d 144 26 [l0, l1, l2] [.inl x] σ Q = Q (some (.inl x)) (oBld σ) := oZret f_144_26 rt_144 hx
theorem ow_145 : (oMt 145).2.2.2.2.1 = 11 := by decide +kernel
theorem rt_145 : (oMt 145).2.2.2.1 = some .boolean := by decide +kernel
theorem nl_145 : (oMt 145).2.2.1 = 2 := by decide +kernel
theorem f_145_0 : oFet 145 0 = some (.iload_n 1, 1) := by decide +kernel
theorem s_145_0 {d : Nat} {l0 : oV} {x : Int} {S : List oV} {σ : oSg} {Q : Option oV → (Nat → oC) → Prop} : oE d 145 0 [l0, .inl x] S σ Q = oE d 145 1 [l0, .inl x] (.inl x :: S) σ Q := pLdN (k := 1) f_145_0 rfl rfl rfl
theorem f_145_1 : oFet 145 1 = some (.iconst 0, 1) := by decide +kernel
theorem s_145_1 {d : Nat} {l0 l1 : oV} {S : List oV} {σ : oSg} {Q : Option oV → (Nat → oC) → Prop} : oE d 145 1 [l0, l1] S σ Q = oE d 145 2 [l0, l1] (.inl (0) :: S) σ Q := pKst f_145_1 (by decide)
theorem f_145_2 : oFet 145 2 = some (.aload_n 0, 1) := by decide +kernel
theorem s_145_2 {d : Nat} {l1 : oV} {a : Nat} {S : List oV} {σ : oSg} {Q : Option oV → (Nat → oC) → Prop} : oE d 145 2 [.inr (.inr (.inl a)), l1] S σ Q = oE d 145 3 [.inr (.inr (.inl a)), l1] (.inr (.inr (.inl a)) :: S) σ Q := pLdN (k := 0) f_145_2 rfl rfl rfl
theorem f_145_3 : oFet 145 3 = some (.getfield 11, 3) := by decide +kernel
theorem s_145_3 {d : Nat} {l0 l1 : oV} {a : Nat} {S : List oV} {σ : oSg} {Q : Option oV → (Nat → oC) → Prop} (hk : oKd a = some 11) : oE d 145 3 [l0, l1] (.inr (.inr (.inl a)) :: S) σ Q = oE d 145 6 [l0, l1] (.inr (.inr (.inl (oRf a 0))) :: S) σ Q := pGfR f_145_3 ow_145 fl_11_11 rfl (by decide) hk
theorem f_145_6 : oFet 145 6 = some (.iconst 0, 1) := by decide +kernel
theorem s_145_6 {d : Nat} {l0 l1 : oV} {S : List oV} {σ : oSg} {Q : Option oV → (Nat → oC) → Prop} : oE d 145 6 [l0, l1] S σ Q = oE d 145 7 [l0, l1] (.inl (0) :: S) σ Q := pKst f_145_6 (by decide)
theorem f_145_7 : oFet 145 7 = some (.iaload, 1) := by decide +kernel
theorem s_145_7 {d : Nat} {l0 l1 : oV} {a : Nat} {i : Int} {S : List oV} {σ : oSg} {Q : Option oV → (Nat → oC) → Prop} (hk : oAk a = some 0) (h0 : 0 ≤ i) (h1 : i < (oLn a : Int)) : oE d 145 7 [l0, l1] (.inl i :: .inr (.inr (.inl a)) :: S) σ Q = oE d 145 8 [l0, l1] (.inl (σ.2 a i.toNat) :: S) σ Q := oIal f_145_7 hk h0 h1
theorem f_145_8 : oFet 145 8 = some (.iconst 1, 1) := by decide +kernel
theorem s_145_8 {d : Nat} {l0 l1 : oV} {S : List oV} {σ : oSg} {Q : Option oV → (Nat → oC) → Prop} : oE d 145 8 [l0, l1] S σ Q = oE d 145 9 [l0, l1] (.inl (1) :: S) σ Q := pKst f_145_8 (by decide)
theorem f_145_9 : oFet 145 9 = some (.isub, 1) := by decide +kernel
theorem s_145_9 {d : Nat} {l0 l1 : oV} {x y : Int} {S : List oV} {σ : oSg} {Q : Option oV → (Nat → oC) → Prop} : oE d 145 9 [l0, l1] (.inl y :: .inl x :: S) σ Q = oE d 145 10 [l0, l1] (.inl (oSub x y) :: S) σ Q := oS3 f_145_9 rfl rfl rfl
theorem f_145_10 : oFet 145 10 = some (.invokestatic 57, 3) := by decide +kernel
theorem c_145_10 {d : Nat} {l0 l1 : oV} {x0 x1 x2 : oV} {v : Option oV} {τ : oSg} {S : List oV} {σ : oSg} {Q : Option oV → (Nat → oC) → Prop} (hm : oMi d 146 [x0, x1, x2] σ v τ) (hs : oSmall S = true) : oE d 145 10 [l0, l1] (x2 :: x1 :: x0 :: S) σ Q = oE d 145 13 [l0, l1] (v.toList ++ S) τ Q := pCallS f_145_10 ow_145 lk_11_57 mt_146 rfl rfl rfl hs hm
theorem f_145_13 : oFet 145 13 = some (.ireturn, 1) := by decide +kernel
theorem s_145_13 {d : Nat} {l0 l1 : oV} {x : Int} {σ : oSg} {Q : Option oV → (Nat → oC) → Prop} (hx : x = 0 ∨ x = 1) : oE d 145 13 [l0, l1] [.inl x] σ Q = Q (some (.inl x)) (oBld σ) := oZret f_145_13 rt_145 hx
theorem ow_146 : (oMt 146).2.2.2.2.1 = 11 := by decide +kernel
theorem rt_146 : (oMt 146).2.2.2.1 = some .boolean := by decide +kernel
theorem nl_146 : (oMt 146).2.2.1 = 3 := by decide +kernel
theorem f_146_0 : oFet 146 0 = some (.iload_n 0, 1) := by decide +kernel
theorem s_146_0 {d : Nat} {l1 l2 : oV} {x : Int} {S : List oV} {σ : oSg} {Q : Option oV → (Nat → oC) → Prop} : oE d 146 0 [.inl x, l1, l2] S σ Q = oE d 146 1 [.inl x, l1, l2] (.inl x :: S) σ Q := pLdN (k := 0) f_146_0 rfl rfl rfl
theorem f_146_1 : oFet 146 1 = some (.iload_n 1, 1) := by decide +kernel
theorem s_146_1 {d : Nat} {l0 l2 : oV} {x : Int} {S : List oV} {σ : oSg} {Q : Option oV → (Nat → oC) → Prop} : oE d 146 1 [l0, .inl x, l2] S σ Q = oE d 146 2 [l0, .inl x, l2] (.inl x :: S) σ Q := pLdN (k := 1) f_146_1 rfl rfl rfl
theorem f_146_2 : oFet 146 2 = some (.if_icmp .lt 12, 3) := by decide +kernel
theorem s_146_2 {d : Nat} {l0 l1 l2 : oV} {x y : Int} {S : List oV} {σ : oSg} {Q : Option oV → (Nat → oC) → Prop} : oE d 146 2 [l0, l1, l2] (.inl y :: .inl x :: S) σ Q = if x < y then oE d 146 14 [l0, l1, l2] S σ Q else oE d 146 5 [l0, l1, l2] S σ Q := oCmpLt f_146_2 (by decide)
theorem f_146_5 : oFet 146 5 = some (.iload_n 0, 1) := by decide +kernel
theorem s_146_5 {d : Nat} {l1 l2 : oV} {x : Int} {S : List oV} {σ : oSg} {Q : Option oV → (Nat → oC) → Prop} : oE d 146 5 [.inl x, l1, l2] S σ Q = oE d 146 6 [.inl x, l1, l2] (.inl x :: S) σ Q := pLdN (k := 0) f_146_5 rfl rfl rfl
theorem f_146_6 : oFet 146 6 = some (.iload_n 2, 1) := by decide +kernel
theorem s_146_6 {d : Nat} {l0 l1 : oV} {x : Int} {S : List oV} {σ : oSg} {Q : Option oV → (Nat → oC) → Prop} : oE d 146 6 [l0, l1, .inl x] S σ Q = oE d 146 7 [l0, l1, .inl x] (.inl x :: S) σ Q := pLdN (k := 2) f_146_6 rfl rfl rfl
theorem f_146_7 : oFet 146 7 = some (.if_icmp .gt 7, 3) := by decide +kernel
theorem s_146_7 {d : Nat} {l0 l1 l2 : oV} {x y : Int} {S : List oV} {σ : oSg} {Q : Option oV → (Nat → oC) → Prop} : oE d 146 7 [l0, l1, l2] (.inl y :: .inl x :: S) σ Q = if y < x then oE d 146 14 [l0, l1, l2] S σ Q else oE d 146 10 [l0, l1, l2] S σ Q := oCmpGt f_146_7 (by decide)
theorem f_146_10 : oFet 146 10 = some (.iconst 1, 1) := by decide +kernel
theorem s_146_10 {d : Nat} {l0 l1 l2 : oV} {S : List oV} {σ : oSg} {Q : Option oV → (Nat → oC) → Prop} : oE d 146 10 [l0, l1, l2] S σ Q = oE d 146 11 [l0, l1, l2] (.inl (1) :: S) σ Q := pKst f_146_10 (by decide)
theorem f_146_11 : oFet 146 11 = some (.goto 4, 3) := by decide +kernel
theorem s_146_11 {d : Nat} {l0 l1 l2 : oV} {S : List oV} {σ : oSg} {Q : Option oV → (Nat → oC) → Prop} : oE d 146 11 [l0, l1, l2] S σ Q = oE d 146 15 [l0, l1, l2] S σ Q := pGoto f_146_11 (by decide)
theorem f_146_14 : oFet 146 14 = some (.iconst 0, 1) := by decide +kernel
theorem s_146_14 {d : Nat} {l0 l1 l2 : oV} {S : List oV} {σ : oSg} {Q : Option oV → (Nat → oC) → Prop} : oE d 146 14 [l0, l1, l2] S σ Q = oE d 146 15 [l0, l1, l2] (.inl (0) :: S) σ Q := pKst f_146_14 (by decide)
theorem f_146_15 : oFet 146 15 = some (.ireturn, 1) := by decide +kernel
theorem s_146_15 {d : Nat} {l0 l1 l2 : oV} {x : Int} {σ : oSg} {Q : Option oV → (Nat → oC) → Prop} (hx : x = 0 ∨ x = 1) : oE d 146 15 [l0, l1, l2] [.inl x] σ Q = Q (some (.inl x)) (oBld σ) := oZret f_146_15 rt_146 hx
theorem ow_147 : (oMt 147).2.2.2.2.1 = 11 := by decide +kernel
theorem rt_147 : (oMt 147).2.2.2.1 = some .int := by decide +kernel
theorem nl_147 : (oMt 147).2.2.1 = 3 := by decide +kernel
theorem f_147_0 : oFet 147 0 = some (.aload_n 0, 1) := by decide +kernel
theorem s_147_0 {d : Nat} {l1 l2 : oV} {a : Nat} {S : List oV} {σ : oSg} {Q : Option oV → (Nat → oC) → Prop} : oE d 147 0 [.inr (.inr (.inl a)), l1, l2] S σ Q = oE d 147 1 [.inr (.inr (.inl a)), l1, l2] (.inr (.inr (.inl a)) :: S) σ Q := pLdN (k := 0) f_147_0 rfl rfl rfl
theorem f_147_1 : oFet 147 1 = some (.getfield 11, 3) := by decide +kernel
theorem s_147_1 {d : Nat} {l0 l1 l2 : oV} {a : Nat} {S : List oV} {σ : oSg} {Q : Option oV → (Nat → oC) → Prop} (hk : oKd a = some 11) : oE d 147 1 [l0, l1, l2] (.inr (.inr (.inl a)) :: S) σ Q = oE d 147 4 [l0, l1, l2] (.inr (.inr (.inl (oRf a 0))) :: S) σ Q := pGfR f_147_1 ow_147 fl_11_11 rfl (by decide) hk
theorem f_147_4 : oFet 147 4 = some (.iconst 1, 1) := by decide +kernel
theorem s_147_4 {d : Nat} {l0 l1 l2 : oV} {S : List oV} {σ : oSg} {Q : Option oV → (Nat → oC) → Prop} : oE d 147 4 [l0, l1, l2] S σ Q = oE d 147 5 [l0, l1, l2] (.inl (1) :: S) σ Q := pKst f_147_4 (by decide)
theorem f_147_5 : oFet 147 5 = some (.bipush 7, 2) := by decide +kernel
theorem s_147_5 {d : Nat} {l0 l1 l2 : oV} {S : List oV} {σ : oSg} {Q : Option oV → (Nat → oC) → Prop} : oE d 147 5 [l0, l1, l2] S σ Q = oE d 147 7 [l0, l1, l2] (.inl (7) :: S) σ Q := pBip f_147_5 (by decide)
theorem f_147_7 : oFet 147 7 = some (.iload_n 1, 1) := by decide +kernel
theorem s_147_7 {d : Nat} {l0 l2 : oV} {x : Int} {S : List oV} {σ : oSg} {Q : Option oV → (Nat → oC) → Prop} : oE d 147 7 [l0, .inl x, l2] S σ Q = oE d 147 8 [l0, .inl x, l2] (.inl x :: S) σ Q := pLdN (k := 1) f_147_7 rfl rfl rfl
theorem f_147_8 : oFet 147 8 = some (.imul, 1) := by decide +kernel
theorem s_147_8 {d : Nat} {l0 l1 l2 : oV} {x y : Int} {S : List oV} {σ : oSg} {Q : Option oV → (Nat → oC) → Prop} : oE d 147 8 [l0, l1, l2] (.inl y :: .inl x :: S) σ Q = oE d 147 9 [l0, l1, l2] (.inl (oMul x y) :: S) σ Q := oS3 f_147_8 rfl rfl rfl
theorem f_147_9 : oFet 147 9 = some (.iadd, 1) := by decide +kernel
theorem s_147_9 {d : Nat} {l0 l1 l2 : oV} {x y : Int} {S : List oV} {σ : oSg} {Q : Option oV → (Nat → oC) → Prop} : oE d 147 9 [l0, l1, l2] (.inl y :: .inl x :: S) σ Q = oE d 147 10 [l0, l1, l2] (.inl (oAdd x y) :: S) σ Q := oS3 f_147_9 rfl rfl rfl
theorem f_147_10 : oFet 147 10 = some (.iload_n 2, 1) := by decide +kernel
theorem s_147_10 {d : Nat} {l0 l1 : oV} {x : Int} {S : List oV} {σ : oSg} {Q : Option oV → (Nat → oC) → Prop} : oE d 147 10 [l0, l1, .inl x] S σ Q = oE d 147 11 [l0, l1, .inl x] (.inl x :: S) σ Q := pLdN (k := 2) f_147_10 rfl rfl rfl
theorem f_147_11 : oFet 147 11 = some (.iadd, 1) := by decide +kernel
theorem s_147_11 {d : Nat} {l0 l1 l2 : oV} {x y : Int} {S : List oV} {σ : oSg} {Q : Option oV → (Nat → oC) → Prop} : oE d 147 11 [l0, l1, l2] (.inl y :: .inl x :: S) σ Q = oE d 147 12 [l0, l1, l2] (.inl (oAdd x y) :: S) σ Q := oS3 f_147_11 rfl rfl rfl
theorem f_147_12 : oFet 147 12 = some (.iaload, 1) := by decide +kernel
theorem s_147_12 {d : Nat} {l0 l1 l2 : oV} {a : Nat} {i : Int} {S : List oV} {σ : oSg} {Q : Option oV → (Nat → oC) → Prop} (hk : oAk a = some 0) (h0 : 0 ≤ i) (h1 : i < (oLn a : Int)) : oE d 147 12 [l0, l1, l2] (.inl i :: .inr (.inr (.inl a)) :: S) σ Q = oE d 147 13 [l0, l1, l2] (.inl (σ.2 a i.toNat) :: S) σ Q := oIal f_147_12 hk h0 h1
theorem f_147_13 : oFet 147 13 = some (.ireturn, 1) := by decide +kernel
theorem s_147_13 {d : Nat} {l0 l1 l2 : oV} {x : Int} {σ : oSg} {Q : Option oV → (Nat → oC) → Prop} : oE d 147 13 [l0, l1, l2] [.inl x] σ Q = Q (some (.inl x)) (oBld σ) := oIret f_147_13 rt_147
theorem ow_148 : (oMt 148).2.2.2.2.1 = 11 := by decide +kernel
theorem rt_148 : (oMt 148).2.2.2.1 = none := by decide +kernel
theorem nl_148 : (oMt 148).2.2.1 = 4 := by decide +kernel
theorem f_148_0 : oFet 148 0 = some (.aload_n 0, 1) := by decide +kernel
theorem s_148_0 {d : Nat} {l1 l2 l3 : oV} {a : Nat} {S : List oV} {σ : oSg} {Q : Option oV → (Nat → oC) → Prop} : oE d 148 0 [.inr (.inr (.inl a)), l1, l2, l3] S σ Q = oE d 148 1 [.inr (.inr (.inl a)), l1, l2, l3] (.inr (.inr (.inl a)) :: S) σ Q := pLdN (k := 0) f_148_0 rfl rfl rfl
theorem f_148_1 : oFet 148 1 = some (.getfield 11, 3) := by decide +kernel
theorem s_148_1 {d : Nat} {l0 l1 l2 l3 : oV} {a : Nat} {S : List oV} {σ : oSg} {Q : Option oV → (Nat → oC) → Prop} (hk : oKd a = some 11) : oE d 148 1 [l0, l1, l2, l3] (.inr (.inr (.inl a)) :: S) σ Q = oE d 148 4 [l0, l1, l2, l3] (.inr (.inr (.inl (oRf a 0))) :: S) σ Q := pGfR f_148_1 ow_148 fl_11_11 rfl (by decide) hk
theorem f_148_4 : oFet 148 4 = some (.iconst 1, 1) := by decide +kernel
theorem s_148_4 {d : Nat} {l0 l1 l2 l3 : oV} {S : List oV} {σ : oSg} {Q : Option oV → (Nat → oC) → Prop} : oE d 148 4 [l0, l1, l2, l3] S σ Q = oE d 148 5 [l0, l1, l2, l3] (.inl (1) :: S) σ Q := pKst f_148_4 (by decide)
theorem f_148_5 : oFet 148 5 = some (.bipush 7, 2) := by decide +kernel
theorem s_148_5 {d : Nat} {l0 l1 l2 l3 : oV} {S : List oV} {σ : oSg} {Q : Option oV → (Nat → oC) → Prop} : oE d 148 5 [l0, l1, l2, l3] S σ Q = oE d 148 7 [l0, l1, l2, l3] (.inl (7) :: S) σ Q := pBip f_148_5 (by decide)
theorem f_148_7 : oFet 148 7 = some (.iload_n 1, 1) := by decide +kernel
theorem s_148_7 {d : Nat} {l0 l2 l3 : oV} {x : Int} {S : List oV} {σ : oSg} {Q : Option oV → (Nat → oC) → Prop} : oE d 148 7 [l0, .inl x, l2, l3] S σ Q = oE d 148 8 [l0, .inl x, l2, l3] (.inl x :: S) σ Q := pLdN (k := 1) f_148_7 rfl rfl rfl
theorem f_148_8 : oFet 148 8 = some (.imul, 1) := by decide +kernel
theorem s_148_8 {d : Nat} {l0 l1 l2 l3 : oV} {x y : Int} {S : List oV} {σ : oSg} {Q : Option oV → (Nat → oC) → Prop} : oE d 148 8 [l0, l1, l2, l3] (.inl y :: .inl x :: S) σ Q = oE d 148 9 [l0, l1, l2, l3] (.inl (oMul x y) :: S) σ Q := oS3 f_148_8 rfl rfl rfl
theorem f_148_9 : oFet 148 9 = some (.iadd, 1) := by decide +kernel
theorem s_148_9 {d : Nat} {l0 l1 l2 l3 : oV} {x y : Int} {S : List oV} {σ : oSg} {Q : Option oV → (Nat → oC) → Prop} : oE d 148 9 [l0, l1, l2, l3] (.inl y :: .inl x :: S) σ Q = oE d 148 10 [l0, l1, l2, l3] (.inl (oAdd x y) :: S) σ Q := oS3 f_148_9 rfl rfl rfl
theorem f_148_10 : oFet 148 10 = some (.iload_n 2, 1) := by decide +kernel
theorem s_148_10 {d : Nat} {l0 l1 l3 : oV} {x : Int} {S : List oV} {σ : oSg} {Q : Option oV → (Nat → oC) → Prop} : oE d 148 10 [l0, l1, .inl x, l3] S σ Q = oE d 148 11 [l0, l1, .inl x, l3] (.inl x :: S) σ Q := pLdN (k := 2) f_148_10 rfl rfl rfl
theorem f_148_11 : oFet 148 11 = some (.iadd, 1) := by decide +kernel
theorem s_148_11 {d : Nat} {l0 l1 l2 l3 : oV} {x y : Int} {S : List oV} {σ : oSg} {Q : Option oV → (Nat → oC) → Prop} : oE d 148 11 [l0, l1, l2, l3] (.inl y :: .inl x :: S) σ Q = oE d 148 12 [l0, l1, l2, l3] (.inl (oAdd x y) :: S) σ Q := oS3 f_148_11 rfl rfl rfl
theorem f_148_12 : oFet 148 12 = some (.iload_n 3, 1) := by decide +kernel
theorem s_148_12 {d : Nat} {l0 l1 l2 : oV} {x : Int} {S : List oV} {σ : oSg} {Q : Option oV → (Nat → oC) → Prop} : oE d 148 12 [l0, l1, l2, .inl x] S σ Q = oE d 148 13 [l0, l1, l2, .inl x] (.inl x :: S) σ Q := pLdN (k := 3) f_148_12 rfl rfl rfl
theorem f_148_13 : oFet 148 13 = some (.iastore, 1) := by decide +kernel
theorem s_148_13 {d : Nat} {l0 l1 l2 l3 : oV} {a : Nat} {i v : Int} {S : List oV} {σ : oSg} {Q : Option oV → (Nat → oC) → Prop} (hk : oAk a = some 0) (h0 : 0 ≤ i) (h1 : i < (oLn a : Int)) : oE d 148 13 [l0, l1, l2, l3] (.inl v :: .inl i :: .inr (.inr (.inl a)) :: S) σ Q = oE d 148 14 [l0, l1, l2, l3] S (oSA σ a i.toNat v) Q := oIas f_148_13 hk h0 h1
theorem f_148_14 : oFet 148 14 = some (.aload_n 0, 1) := by decide +kernel
theorem s_148_14 {d : Nat} {l1 l2 l3 : oV} {a : Nat} {S : List oV} {σ : oSg} {Q : Option oV → (Nat → oC) → Prop} : oE d 148 14 [.inr (.inr (.inl a)), l1, l2, l3] S σ Q = oE d 148 15 [.inr (.inr (.inl a)), l1, l2, l3] (.inr (.inr (.inl a)) :: S) σ Q := pLdN (k := 0) f_148_14 rfl rfl rfl
theorem f_148_15 : oFet 148 15 = some (.getfield 11, 3) := by decide +kernel
theorem s_148_15 {d : Nat} {l0 l1 l2 l3 : oV} {a : Nat} {S : List oV} {σ : oSg} {Q : Option oV → (Nat → oC) → Prop} (hk : oKd a = some 11) : oE d 148 15 [l0, l1, l2, l3] (.inr (.inr (.inl a)) :: S) σ Q = oE d 148 18 [l0, l1, l2, l3] (.inr (.inr (.inl (oRf a 0))) :: S) σ Q := pGfR f_148_15 ow_148 fl_11_11 rfl (by decide) hk
theorem f_148_18 : oFet 148 18 = some (.iconst 1, 1) := by decide +kernel
theorem s_148_18 {d : Nat} {l0 l1 l2 l3 : oV} {S : List oV} {σ : oSg} {Q : Option oV → (Nat → oC) → Prop} : oE d 148 18 [l0, l1, l2, l3] S σ Q = oE d 148 19 [l0, l1, l2, l3] (.inl (1) :: S) σ Q := pKst f_148_18 (by decide)
theorem f_148_19 : oFet 148 19 = some (.bipush 7, 2) := by decide +kernel
theorem s_148_19 {d : Nat} {l0 l1 l2 l3 : oV} {S : List oV} {σ : oSg} {Q : Option oV → (Nat → oC) → Prop} : oE d 148 19 [l0, l1, l2, l3] S σ Q = oE d 148 21 [l0, l1, l2, l3] (.inl (7) :: S) σ Q := pBip f_148_19 (by decide)
theorem f_148_21 : oFet 148 21 = some (.iload_n 2, 1) := by decide +kernel
theorem s_148_21 {d : Nat} {l0 l1 l3 : oV} {x : Int} {S : List oV} {σ : oSg} {Q : Option oV → (Nat → oC) → Prop} : oE d 148 21 [l0, l1, .inl x, l3] S σ Q = oE d 148 22 [l0, l1, .inl x, l3] (.inl x :: S) σ Q := pLdN (k := 2) f_148_21 rfl rfl rfl
theorem f_148_22 : oFet 148 22 = some (.imul, 1) := by decide +kernel
theorem s_148_22 {d : Nat} {l0 l1 l2 l3 : oV} {x y : Int} {S : List oV} {σ : oSg} {Q : Option oV → (Nat → oC) → Prop} : oE d 148 22 [l0, l1, l2, l3] (.inl y :: .inl x :: S) σ Q = oE d 148 23 [l0, l1, l2, l3] (.inl (oMul x y) :: S) σ Q := oS3 f_148_22 rfl rfl rfl
theorem f_148_23 : oFet 148 23 = some (.iadd, 1) := by decide +kernel
theorem s_148_23 {d : Nat} {l0 l1 l2 l3 : oV} {x y : Int} {S : List oV} {σ : oSg} {Q : Option oV → (Nat → oC) → Prop} : oE d 148 23 [l0, l1, l2, l3] (.inl y :: .inl x :: S) σ Q = oE d 148 24 [l0, l1, l2, l3] (.inl (oAdd x y) :: S) σ Q := oS3 f_148_23 rfl rfl rfl
theorem f_148_24 : oFet 148 24 = some (.iload_n 1, 1) := by decide +kernel
theorem s_148_24 {d : Nat} {l0 l2 l3 : oV} {x : Int} {S : List oV} {σ : oSg} {Q : Option oV → (Nat → oC) → Prop} : oE d 148 24 [l0, .inl x, l2, l3] S σ Q = oE d 148 25 [l0, .inl x, l2, l3] (.inl x :: S) σ Q := pLdN (k := 1) f_148_24 rfl rfl rfl
theorem f_148_25 : oFet 148 25 = some (.iadd, 1) := by decide +kernel
theorem s_148_25 {d : Nat} {l0 l1 l2 l3 : oV} {x y : Int} {S : List oV} {σ : oSg} {Q : Option oV → (Nat → oC) → Prop} : oE d 148 25 [l0, l1, l2, l3] (.inl y :: .inl x :: S) σ Q = oE d 148 26 [l0, l1, l2, l3] (.inl (oAdd x y) :: S) σ Q := oS3 f_148_25 rfl rfl rfl
theorem f_148_26 : oFet 148 26 = some (.iload_n 3, 1) := by decide +kernel
theorem s_148_26 {d : Nat} {l0 l1 l2 : oV} {x : Int} {S : List oV} {σ : oSg} {Q : Option oV → (Nat → oC) → Prop} : oE d 148 26 [l0, l1, l2, .inl x] S σ Q = oE d 148 27 [l0, l1, l2, .inl x] (.inl x :: S) σ Q := pLdN (k := 3) f_148_26 rfl rfl rfl
theorem f_148_27 : oFet 148 27 = some (.iastore, 1) := by decide +kernel
theorem s_148_27 {d : Nat} {l0 l1 l2 l3 : oV} {a : Nat} {i v : Int} {S : List oV} {σ : oSg} {Q : Option oV → (Nat → oC) → Prop} (hk : oAk a = some 0) (h0 : 0 ≤ i) (h1 : i < (oLn a : Int)) : oE d 148 27 [l0, l1, l2, l3] (.inl v :: .inl i :: .inr (.inr (.inl a)) :: S) σ Q = oE d 148 28 [l0, l1, l2, l3] S (oSA σ a i.toNat v) Q := oIas f_148_27 hk h0 h1
theorem f_148_28 : oFet 148 28 = some (.return_, 1) := by decide +kernel
theorem s_148_28 {d : Nat} {l0 l1 l2 l3 : oV} {σ : oSg} {Q : Option oV → (Nat → oC) → Prop} : oE d 148 28 [l0, l1, l2, l3] [] σ Q = Q none (oBld σ) := oVret f_148_28 rt_148
theorem ow_149 : (oMt 149).2.2.2.2.1 = 11 := by decide +kernel
theorem rt_149 : (oMt 149).2.2.2.1 = some .int := by decide +kernel
theorem nl_149 : (oMt 149).2.2.1 = 2 := by decide +kernel
theorem f_149_0 : oFet 149 0 = some (.aload_n 0, 1) := by decide +kernel
theorem s_149_0 {d : Nat} {l1 : oV} {a : Nat} {S : List oV} {σ : oSg} {Q : Option oV → (Nat → oC) → Prop} : oE d 149 0 [.inr (.inr (.inl a)), l1] S σ Q = oE d 149 1 [.inr (.inr (.inl a)), l1] (.inr (.inr (.inl a)) :: S) σ Q := pLdN (k := 0) f_149_0 rfl rfl rfl
theorem f_149_1 : oFet 149 1 = some (.getfield 11, 3) := by decide +kernel
theorem s_149_1 {d : Nat} {l0 l1 : oV} {a : Nat} {S : List oV} {σ : oSg} {Q : Option oV → (Nat → oC) → Prop} (hk : oKd a = some 11) : oE d 149 1 [l0, l1] (.inr (.inr (.inl a)) :: S) σ Q = oE d 149 4 [l0, l1] (.inr (.inr (.inl (oRf a 0))) :: S) σ Q := pGfR f_149_1 ow_149 fl_11_11 rfl (by decide) hk
theorem f_149_4 : oFet 149 4 = some (.bipush 50, 2) := by decide +kernel
theorem s_149_4 {d : Nat} {l0 l1 : oV} {S : List oV} {σ : oSg} {Q : Option oV → (Nat → oC) → Prop} : oE d 149 4 [l0, l1] S σ Q = oE d 149 6 [l0, l1] (.inl (50) :: S) σ Q := pBip f_149_4 (by decide)
theorem f_149_6 : oFet 149 6 = some (.iload_n 1, 1) := by decide +kernel
theorem s_149_6 {d : Nat} {l0 : oV} {x : Int} {S : List oV} {σ : oSg} {Q : Option oV → (Nat → oC) → Prop} : oE d 149 6 [l0, .inl x] S σ Q = oE d 149 7 [l0, .inl x] (.inl x :: S) σ Q := pLdN (k := 1) f_149_6 rfl rfl rfl
theorem f_149_7 : oFet 149 7 = some (.iadd, 1) := by decide +kernel
theorem s_149_7 {d : Nat} {l0 l1 : oV} {x y : Int} {S : List oV} {σ : oSg} {Q : Option oV → (Nat → oC) → Prop} : oE d 149 7 [l0, l1] (.inl y :: .inl x :: S) σ Q = oE d 149 8 [l0, l1] (.inl (oAdd x y) :: S) σ Q := oS3 f_149_7 rfl rfl rfl
theorem f_149_8 : oFet 149 8 = some (.iaload, 1) := by decide +kernel
theorem s_149_8 {d : Nat} {l0 l1 : oV} {a : Nat} {i : Int} {S : List oV} {σ : oSg} {Q : Option oV → (Nat → oC) → Prop} (hk : oAk a = some 0) (h0 : 0 ≤ i) (h1 : i < (oLn a : Int)) : oE d 149 8 [l0, l1] (.inl i :: .inr (.inr (.inl a)) :: S) σ Q = oE d 149 9 [l0, l1] (.inl (σ.2 a i.toNat) :: S) σ Q := oIal f_149_8 hk h0 h1
theorem f_149_9 : oFet 149 9 = some (.ireturn, 1) := by decide +kernel
theorem s_149_9 {d : Nat} {l0 l1 : oV} {x : Int} {σ : oSg} {Q : Option oV → (Nat → oC) → Prop} : oE d 149 9 [l0, l1] [.inl x] σ Q = Q (some (.inl x)) (oBld σ) := oIret f_149_9 rt_149
theorem ow_150 : (oMt 150).2.2.2.2.1 = 11 := by decide +kernel
theorem rt_150 : (oMt 150).2.2.2.1 = none := by decide +kernel
theorem nl_150 : (oMt 150).2.2.1 = 3 := by decide +kernel
theorem f_150_0 : oFet 150 0 = some (.aload_n 0, 1) := by decide +kernel
theorem s_150_0 {d : Nat} {l1 l2 : oV} {a : Nat} {S : List oV} {σ : oSg} {Q : Option oV → (Nat → oC) → Prop} : oE d 150 0 [.inr (.inr (.inl a)), l1, l2] S σ Q = oE d 150 1 [.inr (.inr (.inl a)), l1, l2] (.inr (.inr (.inl a)) :: S) σ Q := pLdN (k := 0) f_150_0 rfl rfl rfl
theorem f_150_1 : oFet 150 1 = some (.iload_n 1, 1) := by decide +kernel
theorem s_150_1 {d : Nat} {l0 l2 : oV} {x : Int} {S : List oV} {σ : oSg} {Q : Option oV → (Nat → oC) → Prop} : oE d 150 1 [l0, .inl x, l2] S σ Q = oE d 150 2 [l0, .inl x, l2] (.inl x :: S) σ Q := pLdN (k := 1) f_150_1 rfl rfl rfl
theorem f_150_2 : oFet 150 2 = some (.invokevirtual 75, 3) := by decide +kernel
theorem c_150_2 {d : Nat} {l0 l1 l2 : oV} {x0 : oV} {a : Nat} {v : Option oV} {τ : oSg} {S : List oV} {σ : oSg} {Q : Option oV → (Nat → oC) → Prop} (hm : oMi d 149 [.inr (.inr (.inl a)), x0] σ v τ) (hk : oKd a = some 11) (hs : oSmall S = true) : oE d 150 2 [l0, l1, l2] (x0 :: .inr (.inr (.inl a)) :: S) σ Q = oE d 150 5 [l0, l1, l2] (v.toList ++ S) τ Q := pCallV f_150_2 ow_150 lk_11_75 mt_149 rfl rfl rfl hk hs hm
theorem f_150_5 : oFet 150 5 = some (.istore_n 2, 1) := by decide +kernel
theorem s_150_5 {d : Nat} {l0 l1 l2 : oV} {x : Int} {S : List oV} {σ : oSg} {Q : Option oV → (Nat → oC) → Prop} (c2 : oCat l2 = 1) (c1 : oCat l1 = 1)  : oE d 150 5 [l0, l1, l2] (.inl x :: S) σ Q = oE d 150 6 [l0, l1, .inl x] S σ Q := pSt (i := 2) f_150_5 rfl rfl (show (2 : Nat) < 3 by decide) (oC1n c1) (oC1n c2) rfl
theorem f_150_6 : oFet 150 6 = some (.aload_n 0, 1) := by decide +kernel
theorem s_150_6 {d : Nat} {l1 l2 : oV} {a : Nat} {S : List oV} {σ : oSg} {Q : Option oV → (Nat → oC) → Prop} : oE d 150 6 [.inr (.inr (.inl a)), l1, l2] S σ Q = oE d 150 7 [.inr (.inr (.inl a)), l1, l2] (.inr (.inr (.inl a)) :: S) σ Q := pLdN (k := 0) f_150_6 rfl rfl rfl
theorem f_150_7 : oFet 150 7 = some (.getfield 11, 3) := by decide +kernel
theorem s_150_7 {d : Nat} {l0 l1 l2 : oV} {a : Nat} {S : List oV} {σ : oSg} {Q : Option oV → (Nat → oC) → Prop} (hk : oKd a = some 11) : oE d 150 7 [l0, l1, l2] (.inr (.inr (.inl a)) :: S) σ Q = oE d 150 10 [l0, l1, l2] (.inr (.inr (.inl (oRf a 0))) :: S) σ Q := pGfR f_150_7 ow_150 fl_11_11 rfl (by decide) hk
theorem f_150_10 : oFet 150 10 = some (.bipush 50, 2) := by decide +kernel
theorem s_150_10 {d : Nat} {l0 l1 l2 : oV} {S : List oV} {σ : oSg} {Q : Option oV → (Nat → oC) → Prop} : oE d 150 10 [l0, l1, l2] S σ Q = oE d 150 12 [l0, l1, l2] (.inl (50) :: S) σ Q := pBip f_150_10 (by decide)
theorem f_150_12 : oFet 150 12 = some (.iload_n 1, 1) := by decide +kernel
theorem s_150_12 {d : Nat} {l0 l2 : oV} {x : Int} {S : List oV} {σ : oSg} {Q : Option oV → (Nat → oC) → Prop} : oE d 150 12 [l0, .inl x, l2] S σ Q = oE d 150 13 [l0, .inl x, l2] (.inl x :: S) σ Q := pLdN (k := 1) f_150_12 rfl rfl rfl
theorem f_150_13 : oFet 150 13 = some (.iadd, 1) := by decide +kernel
theorem s_150_13 {d : Nat} {l0 l1 l2 : oV} {x y : Int} {S : List oV} {σ : oSg} {Q : Option oV → (Nat → oC) → Prop} : oE d 150 13 [l0, l1, l2] (.inl y :: .inl x :: S) σ Q = oE d 150 14 [l0, l1, l2] (.inl (oAdd x y) :: S) σ Q := oS3 f_150_13 rfl rfl rfl
theorem f_150_14 : oFet 150 14 = some (.iconst (-1), 1) := by decide +kernel
theorem s_150_14 {d : Nat} {l0 l1 l2 : oV} {S : List oV} {σ : oSg} {Q : Option oV → (Nat → oC) → Prop} : oE d 150 14 [l0, l1, l2] S σ Q = oE d 150 15 [l0, l1, l2] (.inl (-1) :: S) σ Q := pKst f_150_14 (by decide)
theorem f_150_15 : oFet 150 15 = some (.iastore, 1) := by decide +kernel
theorem s_150_15 {d : Nat} {l0 l1 l2 : oV} {a : Nat} {i v : Int} {S : List oV} {σ : oSg} {Q : Option oV → (Nat → oC) → Prop} (hk : oAk a = some 0) (h0 : 0 ≤ i) (h1 : i < (oLn a : Int)) : oE d 150 15 [l0, l1, l2] (.inl v :: .inl i :: .inr (.inr (.inl a)) :: S) σ Q = oE d 150 16 [l0, l1, l2] S (oSA σ a i.toNat v) Q := oIas f_150_15 hk h0 h1
theorem f_150_16 : oFet 150 16 = some (.iload_n 2, 1) := by decide +kernel
theorem s_150_16 {d : Nat} {l0 l1 : oV} {x : Int} {S : List oV} {σ : oSg} {Q : Option oV → (Nat → oC) → Prop} : oE d 150 16 [l0, l1, .inl x] S σ Q = oE d 150 17 [l0, l1, .inl x] (.inl x :: S) σ Q := pLdN (k := 2) f_150_16 rfl rfl rfl
theorem f_150_17 : oFet 150 17 = some (.iconst (-1), 1) := by decide +kernel
theorem s_150_17 {d : Nat} {l0 l1 l2 : oV} {S : List oV} {σ : oSg} {Q : Option oV → (Nat → oC) → Prop} : oE d 150 17 [l0, l1, l2] S σ Q = oE d 150 18 [l0, l1, l2] (.inl (-1) :: S) σ Q := pKst f_150_17 (by decide)
theorem f_150_18 : oFet 150 18 = some (.if_icmp .eq 13, 3) := by decide +kernel
theorem s_150_18 {d : Nat} {l0 l1 l2 : oV} {x y : Int} {S : List oV} {σ : oSg} {Q : Option oV → (Nat → oC) → Prop} : oE d 150 18 [l0, l1, l2] (.inl y :: .inl x :: S) σ Q = if x = y then oE d 150 31 [l0, l1, l2] S σ Q else oE d 150 21 [l0, l1, l2] S σ Q := oCmpEq f_150_18 (by decide)
theorem f_150_21 : oFet 150 21 = some (.aload_n 0, 1) := by decide +kernel
theorem s_150_21 {d : Nat} {l1 l2 : oV} {a : Nat} {S : List oV} {σ : oSg} {Q : Option oV → (Nat → oC) → Prop} : oE d 150 21 [.inr (.inr (.inl a)), l1, l2] S σ Q = oE d 150 22 [.inr (.inr (.inl a)), l1, l2] (.inr (.inr (.inl a)) :: S) σ Q := pLdN (k := 0) f_150_21 rfl rfl rfl
theorem f_150_22 : oFet 150 22 = some (.getfield 11, 3) := by decide +kernel
theorem s_150_22 {d : Nat} {l0 l1 l2 : oV} {a : Nat} {S : List oV} {σ : oSg} {Q : Option oV → (Nat → oC) → Prop} (hk : oKd a = some 11) : oE d 150 22 [l0, l1, l2] (.inr (.inr (.inl a)) :: S) σ Q = oE d 150 25 [l0, l1, l2] (.inr (.inr (.inl (oRf a 0))) :: S) σ Q := pGfR f_150_22 ow_150 fl_11_11 rfl (by decide) hk
theorem f_150_25 : oFet 150 25 = some (.bipush 50, 2) := by decide +kernel
theorem s_150_25 {d : Nat} {l0 l1 l2 : oV} {S : List oV} {σ : oSg} {Q : Option oV → (Nat → oC) → Prop} : oE d 150 25 [l0, l1, l2] S σ Q = oE d 150 27 [l0, l1, l2] (.inl (50) :: S) σ Q := pBip f_150_25 (by decide)
theorem f_150_27 : oFet 150 27 = some (.iload_n 2, 1) := by decide +kernel
theorem s_150_27 {d : Nat} {l0 l1 : oV} {x : Int} {S : List oV} {σ : oSg} {Q : Option oV → (Nat → oC) → Prop} : oE d 150 27 [l0, l1, .inl x] S σ Q = oE d 150 28 [l0, l1, .inl x] (.inl x :: S) σ Q := pLdN (k := 2) f_150_27 rfl rfl rfl
theorem f_150_28 : oFet 150 28 = some (.iadd, 1) := by decide +kernel
theorem s_150_28 {d : Nat} {l0 l1 l2 : oV} {x y : Int} {S : List oV} {σ : oSg} {Q : Option oV → (Nat → oC) → Prop} : oE d 150 28 [l0, l1, l2] (.inl y :: .inl x :: S) σ Q = oE d 150 29 [l0, l1, l2] (.inl (oAdd x y) :: S) σ Q := oS3 f_150_28 rfl rfl rfl
theorem f_150_29 : oFet 150 29 = some (.iconst (-1), 1) := by decide +kernel
theorem s_150_29 {d : Nat} {l0 l1 l2 : oV} {S : List oV} {σ : oSg} {Q : Option oV → (Nat → oC) → Prop} : oE d 150 29 [l0, l1, l2] S σ Q = oE d 150 30 [l0, l1, l2] (.inl (-1) :: S) σ Q := pKst f_150_29 (by decide)
theorem f_150_30 : oFet 150 30 = some (.iastore, 1) := by decide +kernel
theorem s_150_30 {d : Nat} {l0 l1 l2 : oV} {a : Nat} {i v : Int} {S : List oV} {σ : oSg} {Q : Option oV → (Nat → oC) → Prop} (hk : oAk a = some 0) (h0 : 0 ≤ i) (h1 : i < (oLn a : Int)) : oE d 150 30 [l0, l1, l2] (.inl v :: .inl i :: .inr (.inr (.inl a)) :: S) σ Q = oE d 150 31 [l0, l1, l2] S (oSA σ a i.toNat v) Q := oIas f_150_30 hk h0 h1
theorem f_150_31 : oFet 150 31 = some (.return_, 1) := by decide +kernel
theorem s_150_31 {d : Nat} {l0 l1 l2 : oV} {σ : oSg} {Q : Option oV → (Nat → oC) → Prop} : oE d 150 31 [l0, l1, l2] [] σ Q = Q none (oBld σ) := oVret f_150_31 rt_150
theorem ow_151 : (oMt 151).2.2.2.2.1 = 11 := by decide +kernel
theorem rt_151 : (oMt 151).2.2.2.1 = some .int := by decide +kernel
theorem nl_151 : (oMt 151).2.2.1 = 3 := by decide +kernel
theorem f_151_0 : oFet 151 0 = some (.aload_n 0, 1) := by decide +kernel
theorem s_151_0 {d : Nat} {l1 l2 : oV} {a : Nat} {S : List oV} {σ : oSg} {Q : Option oV → (Nat → oC) → Prop} : oE d 151 0 [.inr (.inr (.inl a)), l1, l2] S σ Q = oE d 151 1 [.inr (.inr (.inl a)), l1, l2] (.inr (.inr (.inl a)) :: S) σ Q := pLdN (k := 0) f_151_0 rfl rfl rfl
theorem f_151_1 : oFet 151 1 = some (.iload_n 1, 1) := by decide +kernel
theorem s_151_1 {d : Nat} {l0 l2 : oV} {x : Int} {S : List oV} {σ : oSg} {Q : Option oV → (Nat → oC) → Prop} : oE d 151 1 [l0, .inl x, l2] S σ Q = oE d 151 2 [l0, .inl x, l2] (.inl x :: S) σ Q := pLdN (k := 1) f_151_1 rfl rfl rfl
theorem f_151_2 : oFet 151 2 = some (.iload_n 2, 1) := by decide +kernel
theorem s_151_2 {d : Nat} {l0 l1 : oV} {x : Int} {S : List oV} {σ : oSg} {Q : Option oV → (Nat → oC) → Prop} : oE d 151 2 [l0, l1, .inl x] S σ Q = oE d 151 3 [l0, l1, .inl x] (.inl x :: S) σ Q := pLdN (k := 2) f_151_2 rfl rfl rfl
theorem f_151_3 : oFet 151 3 = some (.invokevirtual 79, 3) := by decide +kernel
theorem c_151_3 {d : Nat} {l0 l1 l2 : oV} {x0 x1 : oV} {a : Nat} {v : Option oV} {τ : oSg} {S : List oV} {σ : oSg} {Q : Option oV → (Nat → oC) → Prop} (hm : oMi d 144 [.inr (.inr (.inl a)), x0, x1] σ v τ) (hk : oKd a = some 11) (hs : oSmall S = true) : oE d 151 3 [l0, l1, l2] (x1 :: x0 :: .inr (.inr (.inl a)) :: S) σ Q = oE d 151 6 [l0, l1, l2] (v.toList ++ S) τ Q := pCallV f_151_3 ow_151 lk_11_79 mt_144 rfl rfl rfl hk hs hm
theorem f_151_6 : oFet 151 6 = some (.ifCond .eq 12, 3) := by decide +kernel
theorem s_151_6 {d : Nat} {l0 l1 l2 : oV} {x : Int} {S : List oV} {σ : oSg} {Q : Option oV → (Nat → oC) → Prop} : oE d 151 6 [l0, l1, l2] (.inl x :: S) σ Q = if x = 0 then oE d 151 18 [l0, l1, l2] S σ Q else oE d 151 9 [l0, l1, l2] S σ Q := oIfEq f_151_6 (by decide)
theorem f_151_9 : oFet 151 9 = some (.aload_n 0, 1) := by decide +kernel
theorem s_151_9 {d : Nat} {l1 l2 : oV} {a : Nat} {S : List oV} {σ : oSg} {Q : Option oV → (Nat → oC) → Prop} : oE d 151 9 [.inr (.inr (.inl a)), l1, l2] S σ Q = oE d 151 10 [.inr (.inr (.inl a)), l1, l2] (.inr (.inr (.inl a)) :: S) σ Q := pLdN (k := 0) f_151_9 rfl rfl rfl
theorem f_151_10 : oFet 151 10 = some (.iload_n 1, 1) := by decide +kernel
theorem s_151_10 {d : Nat} {l0 l2 : oV} {x : Int} {S : List oV} {σ : oSg} {Q : Option oV → (Nat → oC) → Prop} : oE d 151 10 [l0, .inl x, l2] S σ Q = oE d 151 11 [l0, .inl x, l2] (.inl x :: S) σ Q := pLdN (k := 1) f_151_10 rfl rfl rfl
theorem f_151_11 : oFet 151 11 = some (.iload_n 2, 1) := by decide +kernel
theorem s_151_11 {d : Nat} {l0 l1 : oV} {x : Int} {S : List oV} {σ : oSg} {Q : Option oV → (Nat → oC) → Prop} : oE d 151 11 [l0, l1, .inl x] S σ Q = oE d 151 12 [l0, l1, .inl x] (.inl x :: S) σ Q := pLdN (k := 2) f_151_11 rfl rfl rfl
theorem f_151_12 : oFet 151 12 = some (.invokevirtual 65, 3) := by decide +kernel
theorem c_151_12 {d : Nat} {l0 l1 l2 : oV} {x0 x1 : oV} {a : Nat} {v : Option oV} {τ : oSg} {S : List oV} {σ : oSg} {Q : Option oV → (Nat → oC) → Prop} (hm : oMi d 147 [.inr (.inr (.inl a)), x0, x1] σ v τ) (hk : oKd a = some 11) (hs : oSmall S = true) : oE d 151 12 [l0, l1, l2] (x1 :: x0 :: .inr (.inr (.inl a)) :: S) σ Q = oE d 151 15 [l0, l1, l2] (v.toList ++ S) τ Q := pCallV f_151_12 ow_151 lk_11_65 mt_147 rfl rfl rfl hk hs hm
theorem f_151_15 : oFet 151 15 = some (.goto 4, 3) := by decide +kernel
theorem s_151_15 {d : Nat} {l0 l1 l2 : oV} {S : List oV} {σ : oSg} {Q : Option oV → (Nat → oC) → Prop} : oE d 151 15 [l0, l1, l2] S σ Q = oE d 151 19 [l0, l1, l2] S σ Q := pGoto f_151_15 (by decide)
theorem f_151_18 : oFet 151 18 = some (.iconst (-1), 1) := by decide +kernel
theorem s_151_18 {d : Nat} {l0 l1 l2 : oV} {S : List oV} {σ : oSg} {Q : Option oV → (Nat → oC) → Prop} : oE d 151 18 [l0, l1, l2] S σ Q = oE d 151 19 [l0, l1, l2] (.inl (-1) :: S) σ Q := pKst f_151_18 (by decide)
theorem f_151_19 : oFet 151 19 = some (.ireturn, 1) := by decide +kernel
theorem s_151_19 {d : Nat} {l0 l1 l2 : oV} {x : Int} {σ : oSg} {Q : Option oV → (Nat → oC) → Prop} : oE d 151 19 [l0, l1, l2] [.inl x] σ Q = Q (some (.inl x)) (oBld σ) := oIret f_151_19 rt_151
theorem ow_152 : (oMt 152).2.2.2.2.1 = 11 := by decide +kernel
theorem rt_152 : (oMt 152).2.2.2.1 = some .int := by decide +kernel
theorem nl_152 : (oMt 152).2.2.1 = 3 := by decide +kernel
theorem f_152_0 : oFet 152 0 = some (.aload_n 0, 1) := by decide +kernel
theorem s_152_0 {d : Nat} {l1 l2 : oV} {a : Nat} {S : List oV} {σ : oSg} {Q : Option oV → (Nat → oC) → Prop} : oE d 152 0 [.inr (.inr (.inl a)), l1, l2] S σ Q = oE d 152 1 [.inr (.inr (.inl a)), l1, l2] (.inr (.inr (.inl a)) :: S) σ Q := pLdN (k := 0) f_152_0 rfl rfl rfl
theorem f_152_1 : oFet 152 1 = some (.iload_n 1, 1) := by decide +kernel
theorem s_152_1 {d : Nat} {l0 l2 : oV} {x : Int} {S : List oV} {σ : oSg} {Q : Option oV → (Nat → oC) → Prop} : oE d 152 1 [l0, .inl x, l2] S σ Q = oE d 152 2 [l0, .inl x, l2] (.inl x :: S) σ Q := pLdN (k := 1) f_152_1 rfl rfl rfl
theorem f_152_2 : oFet 152 2 = some (.iload_n 2, 1) := by decide +kernel
theorem s_152_2 {d : Nat} {l0 l1 : oV} {x : Int} {S : List oV} {σ : oSg} {Q : Option oV → (Nat → oC) → Prop} : oE d 152 2 [l0, l1, .inl x] S σ Q = oE d 152 3 [l0, l1, .inl x] (.inl x :: S) σ Q := pLdN (k := 2) f_152_2 rfl rfl rfl
theorem f_152_3 : oFet 152 3 = some (.invokevirtual 79, 3) := by decide +kernel
theorem c_152_3 {d : Nat} {l0 l1 l2 : oV} {x0 x1 : oV} {a : Nat} {v : Option oV} {τ : oSg} {S : List oV} {σ : oSg} {Q : Option oV → (Nat → oC) → Prop} (hm : oMi d 144 [.inr (.inr (.inl a)), x0, x1] σ v τ) (hk : oKd a = some 11) (hs : oSmall S = true) : oE d 152 3 [l0, l1, l2] (x1 :: x0 :: .inr (.inr (.inl a)) :: S) σ Q = oE d 152 6 [l0, l1, l2] (v.toList ++ S) τ Q := pCallV f_152_3 ow_152 lk_11_79 mt_144 rfl rfl rfl hk hs hm
theorem f_152_6 : oFet 152 6 = some (.ifCond .ne 5, 3) := by decide +kernel
theorem s_152_6 {d : Nat} {l0 l1 l2 : oV} {x : Int} {S : List oV} {σ : oSg} {Q : Option oV → (Nat → oC) → Prop} : oE d 152 6 [l0, l1, l2] (.inl x :: S) σ Q = if ¬ x = 0 then oE d 152 11 [l0, l1, l2] S σ Q else oE d 152 9 [l0, l1, l2] S σ Q := oIfNe f_152_6 (by decide)
theorem f_152_9 : oFet 152 9 = some (.iconst (-1), 1) := by decide +kernel
theorem s_152_9 {d : Nat} {l0 l1 l2 : oV} {S : List oV} {σ : oSg} {Q : Option oV → (Nat → oC) → Prop} : oE d 152 9 [l0, l1, l2] S σ Q = oE d 152 10 [l0, l1, l2] (.inl (-1) :: S) σ Q := pKst f_152_9 (by decide)
theorem f_152_10 : oFet 152 10 = some (.ireturn, 1) := by decide +kernel
theorem s_152_10 {d : Nat} {l0 l1 l2 : oV} {x : Int} {σ : oSg} {Q : Option oV → (Nat → oC) → Prop} : oE d 152 10 [l0, l1, l2] [.inl x] σ Q = Q (some (.inl x)) (oBld σ) := oIret f_152_10 rt_152
theorem f_152_11 : oFet 152 11 = some (.aload_n 0, 1) := by decide +kernel
theorem s_152_11 {d : Nat} {l1 l2 : oV} {a : Nat} {S : List oV} {σ : oSg} {Q : Option oV → (Nat → oC) → Prop} : oE d 152 11 [.inr (.inr (.inl a)), l1, l2] S σ Q = oE d 152 12 [.inr (.inr (.inl a)), l1, l2] (.inr (.inr (.inl a)) :: S) σ Q := pLdN (k := 0) f_152_11 rfl rfl rfl
theorem f_152_12 : oFet 152 12 = some (.iload_n 1, 1) := by decide +kernel
theorem s_152_12 {d : Nat} {l0 l2 : oV} {x : Int} {S : List oV} {σ : oSg} {Q : Option oV → (Nat → oC) → Prop} : oE d 152 12 [l0, .inl x, l2] S σ Q = oE d 152 13 [l0, .inl x, l2] (.inl x :: S) σ Q := pLdN (k := 1) f_152_12 rfl rfl rfl
theorem f_152_13 : oFet 152 13 = some (.iload_n 2, 1) := by decide +kernel
theorem s_152_13 {d : Nat} {l0 l1 : oV} {x : Int} {S : List oV} {σ : oSg} {Q : Option oV → (Nat → oC) → Prop} : oE d 152 13 [l0, l1, .inl x] S σ Q = oE d 152 14 [l0, l1, .inl x] (.inl x :: S) σ Q := pLdN (k := 2) f_152_13 rfl rfl rfl
theorem f_152_14 : oFet 152 14 = some (.invokevirtual 91, 3) := by decide +kernel
theorem c_152_14 {d : Nat} {l0 l1 l2 : oV} {x0 x1 : oV} {a : Nat} {v : Option oV} {τ : oSg} {S : List oV} {σ : oSg} {Q : Option oV → (Nat → oC) → Prop} (hm : oMi d 153 [.inr (.inr (.inl a)), x0, x1] σ v τ) (hk : oKd a = some 11) (hs : oSmall S = true) : oE d 152 14 [l0, l1, l2] (x1 :: x0 :: .inr (.inr (.inl a)) :: S) σ Q = oE d 152 17 [l0, l1, l2] (v.toList ++ S) τ Q := pCallV f_152_14 ow_152 lk_11_91 mt_153 rfl rfl rfl hk hs hm
theorem f_152_17 : oFet 152 17 = some (.ifCond .eq 21, 3) := by decide +kernel
theorem s_152_17 {d : Nat} {l0 l1 l2 : oV} {x : Int} {S : List oV} {σ : oSg} {Q : Option oV → (Nat → oC) → Prop} : oE d 152 17 [l0, l1, l2] (.inl x :: S) σ Q = if x = 0 then oE d 152 38 [l0, l1, l2] S σ Q else oE d 152 20 [l0, l1, l2] S σ Q := oIfEq f_152_17 (by decide)
theorem f_152_20 : oFet 152 20 = some (.aload_n 0, 1) := by decide +kernel
theorem s_152_20 {d : Nat} {l1 l2 : oV} {a : Nat} {S : List oV} {σ : oSg} {Q : Option oV → (Nat → oC) → Prop} : oE d 152 20 [.inr (.inr (.inl a)), l1, l2] S σ Q = oE d 152 21 [.inr (.inr (.inl a)), l1, l2] (.inr (.inr (.inl a)) :: S) σ Q := pLdN (k := 0) f_152_20 rfl rfl rfl
theorem f_152_21 : oFet 152 21 = some (.iload_n 1, 1) := by decide +kernel
theorem s_152_21 {d : Nat} {l0 l2 : oV} {x : Int} {S : List oV} {σ : oSg} {Q : Option oV → (Nat → oC) → Prop} : oE d 152 21 [l0, .inl x, l2] S σ Q = oE d 152 22 [l0, .inl x, l2] (.inl x :: S) σ Q := pLdN (k := 1) f_152_21 rfl rfl rfl
theorem f_152_22 : oFet 152 22 = some (.invokevirtual 75, 3) := by decide +kernel
theorem c_152_22 {d : Nat} {l0 l1 l2 : oV} {x0 : oV} {a : Nat} {v : Option oV} {τ : oSg} {S : List oV} {σ : oSg} {Q : Option oV → (Nat → oC) → Prop} (hm : oMi d 149 [.inr (.inr (.inl a)), x0] σ v τ) (hk : oKd a = some 11) (hs : oSmall S = true) : oE d 152 22 [l0, l1, l2] (x0 :: .inr (.inr (.inl a)) :: S) σ Q = oE d 152 25 [l0, l1, l2] (v.toList ++ S) τ Q := pCallV f_152_22 ow_152 lk_11_75 mt_149 rfl rfl rfl hk hs hm
theorem f_152_25 : oFet 152 25 = some (.iconst (-1), 1) := by decide +kernel
theorem s_152_25 {d : Nat} {l0 l1 l2 : oV} {S : List oV} {σ : oSg} {Q : Option oV → (Nat → oC) → Prop} : oE d 152 25 [l0, l1, l2] S σ Q = oE d 152 26 [l0, l1, l2] (.inl (-1) :: S) σ Q := pKst f_152_25 (by decide)
theorem f_152_26 : oFet 152 26 = some (.if_icmp .ne 12, 3) := by decide +kernel
theorem s_152_26 {d : Nat} {l0 l1 l2 : oV} {x y : Int} {S : List oV} {σ : oSg} {Q : Option oV → (Nat → oC) → Prop} : oE d 152 26 [l0, l1, l2] (.inl y :: .inl x :: S) σ Q = if ¬ x = y then oE d 152 38 [l0, l1, l2] S σ Q else oE d 152 29 [l0, l1, l2] S σ Q := oCmpNe f_152_26 (by decide)
theorem f_152_29 : oFet 152 29 = some (.aload_n 0, 1) := by decide +kernel
theorem s_152_29 {d : Nat} {l1 l2 : oV} {a : Nat} {S : List oV} {σ : oSg} {Q : Option oV → (Nat → oC) → Prop} : oE d 152 29 [.inr (.inr (.inl a)), l1, l2] S σ Q = oE d 152 30 [.inr (.inr (.inl a)), l1, l2] (.inr (.inr (.inl a)) :: S) σ Q := pLdN (k := 0) f_152_29 rfl rfl rfl
theorem f_152_30 : oFet 152 30 = some (.iload_n 2, 1) := by decide +kernel
theorem s_152_30 {d : Nat} {l0 l1 : oV} {x : Int} {S : List oV} {σ : oSg} {Q : Option oV → (Nat → oC) → Prop} : oE d 152 30 [l0, l1, .inl x] S σ Q = oE d 152 31 [l0, l1, .inl x] (.inl x :: S) σ Q := pLdN (k := 2) f_152_30 rfl rfl rfl
theorem f_152_31 : oFet 152 31 = some (.invokevirtual 75, 3) := by decide +kernel
theorem c_152_31 {d : Nat} {l0 l1 l2 : oV} {x0 : oV} {a : Nat} {v : Option oV} {τ : oSg} {S : List oV} {σ : oSg} {Q : Option oV → (Nat → oC) → Prop} (hm : oMi d 149 [.inr (.inr (.inl a)), x0] σ v τ) (hk : oKd a = some 11) (hs : oSmall S = true) : oE d 152 31 [l0, l1, l2] (x0 :: .inr (.inr (.inl a)) :: S) σ Q = oE d 152 34 [l0, l1, l2] (v.toList ++ S) τ Q := pCallV f_152_31 ow_152 lk_11_75 mt_149 rfl rfl rfl hk hs hm
theorem f_152_34 : oFet 152 34 = some (.iconst (-1), 1) := by decide +kernel
theorem s_152_34 {d : Nat} {l0 l1 l2 : oV} {S : List oV} {σ : oSg} {Q : Option oV → (Nat → oC) → Prop} : oE d 152 34 [l0, l1, l2] S σ Q = oE d 152 35 [l0, l1, l2] (.inl (-1) :: S) σ Q := pKst f_152_34 (by decide)
theorem f_152_35 : oFet 152 35 = some (.if_icmp .eq 6, 3) := by decide +kernel
theorem s_152_35 {d : Nat} {l0 l1 l2 : oV} {x y : Int} {S : List oV} {σ : oSg} {Q : Option oV → (Nat → oC) → Prop} : oE d 152 35 [l0, l1, l2] (.inl y :: .inl x :: S) σ Q = if x = y then oE d 152 41 [l0, l1, l2] S σ Q else oE d 152 38 [l0, l1, l2] S σ Q := oCmpEq f_152_35 (by decide)
theorem f_152_38 : oFet 152 38 = some (.bipush (-3), 2) := by decide +kernel
theorem s_152_38 {d : Nat} {l0 l1 l2 : oV} {S : List oV} {σ : oSg} {Q : Option oV → (Nat → oC) → Prop} : oE d 152 38 [l0, l1, l2] S σ Q = oE d 152 40 [l0, l1, l2] (.inl (-3) :: S) σ Q := pBip f_152_38 (by decide)
theorem f_152_40 : oFet 152 40 = some (.ireturn, 1) := by decide +kernel
theorem s_152_40 {d : Nat} {l0 l1 l2 : oV} {x : Int} {σ : oSg} {Q : Option oV → (Nat → oC) → Prop} : oE d 152 40 [l0, l1, l2] [.inl x] σ Q = Q (some (.inl x)) (oBld σ) := oIret f_152_40 rt_152
theorem f_152_41 : oFet 152 41 = some (.aload_n 0, 1) := by decide +kernel
theorem s_152_41 {d : Nat} {l1 l2 : oV} {a : Nat} {S : List oV} {σ : oSg} {Q : Option oV → (Nat → oC) → Prop} : oE d 152 41 [.inr (.inr (.inl a)), l1, l2] S σ Q = oE d 152 42 [.inr (.inr (.inl a)), l1, l2] (.inr (.inr (.inl a)) :: S) σ Q := pLdN (k := 0) f_152_41 rfl rfl rfl
theorem f_152_42 : oFet 152 42 = some (.iload_n 1, 1) := by decide +kernel
theorem s_152_42 {d : Nat} {l0 l2 : oV} {x : Int} {S : List oV} {σ : oSg} {Q : Option oV → (Nat → oC) → Prop} : oE d 152 42 [l0, .inl x, l2] S σ Q = oE d 152 43 [l0, .inl x, l2] (.inl x :: S) σ Q := pLdN (k := 1) f_152_42 rfl rfl rfl
theorem f_152_43 : oFet 152 43 = some (.iload_n 2, 1) := by decide +kernel
theorem s_152_43 {d : Nat} {l0 l1 : oV} {x : Int} {S : List oV} {σ : oSg} {Q : Option oV → (Nat → oC) → Prop} : oE d 152 43 [l0, l1, .inl x] S σ Q = oE d 152 44 [l0, l1, .inl x] (.inl x :: S) σ Q := pLdN (k := 2) f_152_43 rfl rfl rfl
theorem f_152_44 : oFet 152 44 = some (.invokevirtual 94, 3) := by decide +kernel
theorem c_152_44 {d : Nat} {l0 l1 l2 : oV} {x0 x1 : oV} {a : Nat} {v : Option oV} {τ : oSg} {S : List oV} {σ : oSg} {Q : Option oV → (Nat → oC) → Prop} (hm : oMi d 154 [.inr (.inr (.inl a)), x0, x1] σ v τ) (hk : oKd a = some 11) (hs : oSmall S = true) : oE d 152 44 [l0, l1, l2] (x1 :: x0 :: .inr (.inr (.inl a)) :: S) σ Q = oE d 152 47 [l0, l1, l2] (v.toList ++ S) τ Q := pCallV f_152_44 ow_152 lk_11_94 mt_154 rfl rfl rfl hk hs hm
theorem f_152_47 : oFet 152 47 = some (.aload_n 0, 1) := by decide +kernel
theorem s_152_47 {d : Nat} {l1 l2 : oV} {a : Nat} {S : List oV} {σ : oSg} {Q : Option oV → (Nat → oC) → Prop} : oE d 152 47 [.inr (.inr (.inl a)), l1, l2] S σ Q = oE d 152 48 [.inr (.inr (.inl a)), l1, l2] (.inr (.inr (.inl a)) :: S) σ Q := pLdN (k := 0) f_152_47 rfl rfl rfl
theorem f_152_48 : oFet 152 48 = some (.invokevirtual 98, 3) := by decide +kernel
theorem c_152_48 {d : Nat} {l0 l1 l2 : oV} {a : Nat} {v : Option oV} {τ : oSg} {S : List oV} {σ : oSg} {Q : Option oV → (Nat → oC) → Prop} (hm : oMi d 155 [.inr (.inr (.inl a))] σ v τ) (hk : oKd a = some 11) (hs : oSmall S = true) : oE d 152 48 [l0, l1, l2] (.inr (.inr (.inl a)) :: S) σ Q = oE d 152 51 [l0, l1, l2] (v.toList ++ S) τ Q := pCallV f_152_48 ow_152 lk_11_98 mt_155 rfl rfl rfl hk hs hm
theorem f_152_51 : oFet 152 51 = some (.ireturn, 1) := by decide +kernel
theorem s_152_51 {d : Nat} {l0 l1 l2 : oV} {x : Int} {σ : oSg} {Q : Option oV → (Nat → oC) → Prop} : oE d 152 51 [l0, l1, l2] [.inl x] σ Q = Q (some (.inl x)) (oBld σ) := oIret f_152_51 rt_152
theorem ow_153 : (oMt 153).2.2.2.2.1 = 11 := by decide +kernel
theorem rt_153 : (oMt 153).2.2.2.1 = some .boolean := by decide +kernel
theorem nl_153 : (oMt 153).2.2.1 = 3 := by decide +kernel
theorem f_153_0 : oFet 153 0 = some (.aload_n 0, 1) := by decide +kernel
theorem s_153_0 {d : Nat} {l1 l2 : oV} {a : Nat} {S : List oV} {σ : oSg} {Q : Option oV → (Nat → oC) → Prop} : oE d 153 0 [.inr (.inr (.inl a)), l1, l2] S σ Q = oE d 153 1 [.inr (.inr (.inl a)), l1, l2] (.inr (.inr (.inl a)) :: S) σ Q := pLdN (k := 0) f_153_0 rfl rfl rfl
theorem f_153_1 : oFet 153 1 = some (.iload_n 1, 1) := by decide +kernel
theorem s_153_1 {d : Nat} {l0 l2 : oV} {x : Int} {S : List oV} {σ : oSg} {Q : Option oV → (Nat → oC) → Prop} : oE d 153 1 [l0, .inl x, l2] S σ Q = oE d 153 2 [l0, .inl x, l2] (.inl x :: S) σ Q := pLdN (k := 1) f_153_1 rfl rfl rfl
theorem f_153_2 : oFet 153 2 = some (.iload_n 2, 1) := by decide +kernel
theorem s_153_2 {d : Nat} {l0 l1 : oV} {x : Int} {S : List oV} {σ : oSg} {Q : Option oV → (Nat → oC) → Prop} : oE d 153 2 [l0, l1, .inl x] S σ Q = oE d 153 3 [l0, l1, .inl x] (.inl x :: S) σ Q := pLdN (k := 2) f_153_2 rfl rfl rfl
theorem f_153_3 : oFet 153 3 = some (.invokevirtual 65, 3) := by decide +kernel
theorem c_153_3 {d : Nat} {l0 l1 l2 : oV} {x0 x1 : oV} {a : Nat} {v : Option oV} {τ : oSg} {S : List oV} {σ : oSg} {Q : Option oV → (Nat → oC) → Prop} (hm : oMi d 147 [.inr (.inr (.inl a)), x0, x1] σ v τ) (hk : oKd a = some 11) (hs : oSmall S = true) : oE d 153 3 [l0, l1, l2] (x1 :: x0 :: .inr (.inr (.inl a)) :: S) σ Q = oE d 153 6 [l0, l1, l2] (v.toList ++ S) τ Q := pCallV f_153_3 ow_153 lk_11_65 mt_147 rfl rfl rfl hk hs hm
theorem f_153_6 : oFet 153 6 = some (.ifCond .le 7, 3) := by decide +kernel
theorem s_153_6 {d : Nat} {l0 l1 l2 : oV} {x : Int} {S : List oV} {σ : oSg} {Q : Option oV → (Nat → oC) → Prop} : oE d 153 6 [l0, l1, l2] (.inl x :: S) σ Q = if x ≤ 0 then oE d 153 13 [l0, l1, l2] S σ Q else oE d 153 9 [l0, l1, l2] S σ Q := oIfLe f_153_6 (by decide)
theorem f_153_9 : oFet 153 9 = some (.iconst 1, 1) := by decide +kernel
theorem s_153_9 {d : Nat} {l0 l1 l2 : oV} {S : List oV} {σ : oSg} {Q : Option oV → (Nat → oC) → Prop} : oE d 153 9 [l0, l1, l2] S σ Q = oE d 153 10 [l0, l1, l2] (.inl (1) :: S) σ Q := pKst f_153_9 (by decide)
theorem f_153_10 : oFet 153 10 = some (.goto 4, 3) := by decide +kernel
theorem s_153_10 {d : Nat} {l0 l1 l2 : oV} {S : List oV} {σ : oSg} {Q : Option oV → (Nat → oC) → Prop} : oE d 153 10 [l0, l1, l2] S σ Q = oE d 153 14 [l0, l1, l2] S σ Q := pGoto f_153_10 (by decide)
theorem f_153_13 : oFet 153 13 = some (.iconst 0, 1) := by decide +kernel
theorem s_153_13 {d : Nat} {l0 l1 l2 : oV} {S : List oV} {σ : oSg} {Q : Option oV → (Nat → oC) → Prop} : oE d 153 13 [l0, l1, l2] S σ Q = oE d 153 14 [l0, l1, l2] (.inl (0) :: S) σ Q := pKst f_153_13 (by decide)
theorem f_153_14 : oFet 153 14 = some (.ireturn, 1) := by decide +kernel
theorem s_153_14 {d : Nat} {l0 l1 l2 : oV} {x : Int} {σ : oSg} {Q : Option oV → (Nat → oC) → Prop} (hx : x = 0 ∨ x = 1) : oE d 153 14 [l0, l1, l2] [.inl x] σ Q = Q (some (.inl x)) (oBld σ) := oZret f_153_14 rt_153 hx
