/-! steps, by program -/
theorem ow_4 : (oMt 4).2.2.2.2.1 = 15 := by decide +kernel
theorem rt_4 : (oMt 4).2.2.2.1 = none := by decide +kernel
theorem nl_4 : (oMt 4).2.2.1 = 4 := by decide +kernel
theorem f_4_0 : oFet 4 0 = some (.iconst 0, 1) := by decide +kernel
theorem s_4_0 {d : Nat} {l0 l1 l2 l3 : oV} {S : List oV} {σ : oSg} {Q : Option oV → (Nat → oC) → Prop} : oE d 4 0 [l0, l1, l2, l3] S σ Q = oE d 4 1 [l0, l1, l2, l3] (.inl (0) :: S) σ Q := pKst f_4_0 (by decide)
theorem f_4_1 : oFet 4 1 = some (.istore_n 2, 1) := by decide +kernel
theorem s_4_1 {d : Nat} {l0 l1 l2 l3 : oV} {x : Int} {S : List oV} {σ : oSg} {Q : Option oV → (Nat → oC) → Prop} (c2 : oCat l2 = 1) (c1 : oCat l1 = 1)  : oE d 4 1 [l0, l1, l2, l3] (.inl x :: S) σ Q = oE d 4 2 [l0, l1, .inl x, l3] S σ Q := pSt (i := 2) f_4_1 rfl rfl (show (2 : Nat) < 4 by decide) (oC1n c1) (oC1n c2) rfl
theorem f_4_2 : oFet 4 2 = some (.aload_n 0, 1) := by decide +kernel
theorem s_4_2 {d : Nat} {l1 l2 l3 : oV} {a : Nat} {S : List oV} {σ : oSg} {Q : Option oV → (Nat → oC) → Prop} : oE d 4 2 [.inr (.inr (.inl a)), l1, l2, l3] S σ Q = oE d 4 3 [.inr (.inr (.inl a)), l1, l2, l3] (.inr (.inr (.inl a)) :: S) σ Q := pLdN (k := 0) f_4_2 rfl rfl rfl
theorem f_4_3 : oFet 4 3 = some (.arraylength, 1) := by decide +kernel
theorem s_4_3 {d : Nat} {l0 l1 l2 l3 : oV} {a : Nat} {S : List oV} {σ : oSg} {Q : Option oV → (Nat → oC) → Prop} (hk : oAk a = some 0) : oE d 4 3 [l0, l1, l2, l3] (.inr (.inr (.inl a)) :: S) σ Q = oE d 4 4 [l0, l1, l2, l3] (.inl (oLn a : Int) :: S) σ Q := oAln f_4_3 hk (by decide)
theorem f_4_4 : oFet 4 4 = some (.istore_n 3, 1) := by decide +kernel
theorem s_4_4 {d : Nat} {l0 l1 l2 l3 : oV} {x : Int} {S : List oV} {σ : oSg} {Q : Option oV → (Nat → oC) → Prop} (c3 : oCat l3 = 1) (c2 : oCat l2 = 1)  : oE d 4 4 [l0, l1, l2, l3] (.inl x :: S) σ Q = oE d 4 5 [l0, l1, l2, .inl x] S σ Q := pSt (i := 3) f_4_4 rfl rfl (show (3 : Nat) < 4 by decide) (oC1n c2) (oC1n c3) rfl
theorem f_4_5 : oFet 4 5 = some (.iload_n 2, 1) := by decide +kernel
theorem s_4_5 {d : Nat} {l0 l1 l3 : oV} {x : Int} {S : List oV} {σ : oSg} {Q : Option oV → (Nat → oC) → Prop} : oE d 4 5 [l0, l1, .inl x, l3] S σ Q = oE d 4 6 [l0, l1, .inl x, l3] (.inl x :: S) σ Q := pLdN (k := 2) f_4_5 rfl rfl rfl
theorem f_4_6 : oFet 4 6 = some (.iload_n 3, 1) := by decide +kernel
theorem s_4_6 {d : Nat} {l0 l1 l2 : oV} {x : Int} {S : List oV} {σ : oSg} {Q : Option oV → (Nat → oC) → Prop} : oE d 4 6 [l0, l1, l2, .inl x] S σ Q = oE d 4 7 [l0, l1, l2, .inl x] (.inl x :: S) σ Q := pLdN (k := 3) f_4_6 rfl rfl rfl
theorem f_4_7 : oFet 4 7 = some (.if_icmp .ge 13, 3) := by decide +kernel
theorem s_4_7 {d : Nat} {l0 l1 l2 l3 : oV} {x y : Int} {S : List oV} {σ : oSg} {Q : Option oV → (Nat → oC) → Prop} : oE d 4 7 [l0, l1, l2, l3] (.inl y :: .inl x :: S) σ Q = if y ≤ x then oE d 4 20 [l0, l1, l2, l3] S σ Q else oE d 4 10 [l0, l1, l2, l3] S σ Q := oCmpGe f_4_7 (by decide)
theorem f_4_10 : oFet 4 10 = some (.aload_n 0, 1) := by decide +kernel
theorem s_4_10 {d : Nat} {l1 l2 l3 : oV} {a : Nat} {S : List oV} {σ : oSg} {Q : Option oV → (Nat → oC) → Prop} : oE d 4 10 [.inr (.inr (.inl a)), l1, l2, l3] S σ Q = oE d 4 11 [.inr (.inr (.inl a)), l1, l2, l3] (.inr (.inr (.inl a)) :: S) σ Q := pLdN (k := 0) f_4_10 rfl rfl rfl
theorem f_4_11 : oFet 4 11 = some (.iload_n 2, 1) := by decide +kernel
theorem s_4_11 {d : Nat} {l0 l1 l3 : oV} {x : Int} {S : List oV} {σ : oSg} {Q : Option oV → (Nat → oC) → Prop} : oE d 4 11 [l0, l1, .inl x, l3] S σ Q = oE d 4 12 [l0, l1, .inl x, l3] (.inl x :: S) σ Q := pLdN (k := 2) f_4_11 rfl rfl rfl
theorem f_4_12 : oFet 4 12 = some (.iload_n 1, 1) := by decide +kernel
theorem s_4_12 {d : Nat} {l0 l2 l3 : oV} {x : Int} {S : List oV} {σ : oSg} {Q : Option oV → (Nat → oC) → Prop} : oE d 4 12 [l0, .inl x, l2, l3] S σ Q = oE d 4 13 [l0, .inl x, l2, l3] (.inl x :: S) σ Q := pLdN (k := 1) f_4_12 rfl rfl rfl
theorem f_4_13 : oFet 4 13 = some (.iastore, 1) := by decide +kernel
theorem s_4_13 {d : Nat} {l0 l1 l2 l3 : oV} {a : Nat} {i v : Int} {S : List oV} {σ : oSg} {Q : Option oV → (Nat → oC) → Prop} (hk : oAk a = some 0) (h0 : 0 ≤ i) (h1 : i < (oLn a : Int)) : oE d 4 13 [l0, l1, l2, l3] (.inl v :: .inl i :: .inr (.inr (.inl a)) :: S) σ Q = oE d 4 14 [l0, l1, l2, l3] S (oSA σ a i.toNat v) Q := oIas f_4_13 hk h0 h1
theorem f_4_14 : oFet 4 14 = some (.iinc 2 1, 3) := by decide +kernel
theorem s_4_14 {d : Nat} {l0 l1 l3 : oV} {x : Int} {S : List oV} {σ : oSg} {Q : Option oV → (Nat → oC) → Prop} (c1 : oCat l1 = 1)  : oE d 4 14 [l0, l1, .inl x, l3] S σ Q = oE d 4 17 [l0, l1, .inl (oAdd x (1)), l3] S σ Q := pInc f_4_14 rfl (show (2 : Nat) < 4 by decide) (oC1n c1) (oC1n (v := .inl x) rfl) rfl
theorem f_4_17 : oFet 4 17 = some (.goto (-12), 3) := by decide +kernel
theorem s_4_17 {d : Nat} {l0 l1 l2 l3 : oV} {S : List oV} {σ : oSg} {Q : Option oV → (Nat → oC) → Prop} : oE d 4 17 [l0, l1, l2, l3] S σ Q = oE d 4 5 [l0, l1, l2, l3] S σ Q := pGoto f_4_17 (by decide)
theorem f_4_20 : oFet 4 20 = some (.return_, 1) := by decide +kernel
theorem s_4_20 {d : Nat} {l0 l1 l2 l3 : oV} {σ : oSg} {Q : Option oV → (Nat → oC) → Prop} : oE d 4 20 [l0, l1, l2, l3] [] σ Q = Q none (oBld σ) := oVret f_4_20 rt_4
theorem ow_12 : (oMt 12).2.2.2.2.1 = 10 := by decide +kernel
theorem rt_12 : (oMt 12).2.2.2.1 = some .int := by decide +kernel
theorem nl_12 : (oMt 12).2.2.1 = 1 := by decide +kernel
theorem f_12_0 : oFet 12 0 = some (.aload_n 0, 1) := by decide +kernel
theorem s_12_0 {d : Nat} {a : Nat} {S : List oV} {σ : oSg} {Q : Option oV → (Nat → oC) → Prop} : oE d 12 0 [.inr (.inr (.inl a))] S σ Q = oE d 12 1 [.inr (.inr (.inl a))] (.inr (.inr (.inl a)) :: S) σ Q := pLdN (k := 0) f_12_0 rfl rfl rfl
theorem f_12_1 : oFet 12 1 = some (.getfield 12, 3) := by decide +kernel
theorem s_12_1 {d : Nat} {l0 : oV} {a : Nat} {S : List oV} {σ : oSg} {Q : Option oV → (Nat → oC) → Prop} (hk : oKd a = some 10) : oE d 12 1 [l0] (.inr (.inr (.inl a)) :: S) σ Q = oE d 12 4 [l0] (.inr (.inr (.inl (oRf a 0))) :: S) σ Q := pGfR f_12_1 ow_12 fl_10_12 rfl (by decide) hk
theorem f_12_4 : oFet 12 4 = some (.getfield 73, 3) := by decide +kernel
theorem s_12_4 {d : Nat} {l0 : oV} {a : Nat} {S : List oV} {σ : oSg} {Q : Option oV → (Nat → oC) → Prop} (hk : oKd a = some 1) : oE d 12 4 [l0] (.inr (.inr (.inl a)) :: S) σ Q = oE d 12 7 [l0] (.inr (.inr (.inl (oRf a 0))) :: S) σ Q := pGfR f_12_4 ow_12 fl_10_73 rfl (by decide) hk
theorem f_12_7 : oFet 12 7 = some (.getfield 76, 3) := by decide +kernel
theorem s_12_7 {d : Nat} {l0 : oV} {a : Nat} {S : List oV} {σ : oSg} {Q : Option oV → (Nat → oC) → Prop} (hk : oKd a = some 4) : oE d 12 7 [l0] (.inr (.inr (.inl a)) :: S) σ Q = oE d 12 10 [l0] (.inl (σ.1 a 0) :: S) σ Q := pGfI f_12_7 ow_12 fl_10_76 rfl (by decide) hk
theorem f_12_10 : oFet 12 10 = some (.bipush 7, 2) := by decide +kernel
theorem s_12_10 {d : Nat} {l0 : oV} {S : List oV} {σ : oSg} {Q : Option oV → (Nat → oC) → Prop} : oE d 12 10 [l0] S σ Q = oE d 12 12 [l0] (.inl (7) :: S) σ Q := pBip f_12_10 (by decide)
theorem f_12_12 : oFet 12 12 = some (.if_icmp .lt 6, 3) := by decide +kernel
theorem s_12_12 {d : Nat} {l0 : oV} {x y : Int} {S : List oV} {σ : oSg} {Q : Option oV → (Nat → oC) → Prop} : oE d 12 12 [l0] (.inl y :: .inl x :: S) σ Q = if x < y then oE d 12 18 [l0] S σ Q else oE d 12 15 [l0] S σ Q := oCmpLt f_12_12 (by decide)
theorem f_12_15 : oFet 12 15 = some (.bipush (-4), 2) := by decide +kernel
theorem s_12_15 {d : Nat} {l0 : oV} {S : List oV} {σ : oSg} {Q : Option oV → (Nat → oC) → Prop} : oE d 12 15 [l0] S σ Q = oE d 12 17 [l0] (.inl (-4) :: S) σ Q := pBip f_12_15 (by decide)
theorem f_12_17 : oFet 12 17 = some (.ireturn, 1) := by decide +kernel
theorem s_12_17 {d : Nat} {l0 : oV} {x : Int} {σ : oSg} {Q : Option oV → (Nat → oC) → Prop} : oE d 12 17 [l0] [.inl x] σ Q = Q (some (.inl x)) (oBld σ) := oIret f_12_17 rt_12
theorem f_12_18 : oFet 12 18 = some (.aload_n 0, 1) := by decide +kernel
theorem s_12_18 {d : Nat} {a : Nat} {S : List oV} {σ : oSg} {Q : Option oV → (Nat → oC) → Prop} : oE d 12 18 [.inr (.inr (.inl a))] S σ Q = oE d 12 19 [.inr (.inr (.inl a))] (.inr (.inr (.inl a)) :: S) σ Q := pLdN (k := 0) f_12_18 rfl rfl rfl
theorem f_12_19 : oFet 12 19 = some (.getfield 12, 3) := by decide +kernel
theorem s_12_19 {d : Nat} {l0 : oV} {a : Nat} {S : List oV} {σ : oSg} {Q : Option oV → (Nat → oC) → Prop} (hk : oKd a = some 10) : oE d 12 19 [l0] (.inr (.inr (.inl a)) :: S) σ Q = oE d 12 22 [l0] (.inr (.inr (.inl (oRf a 0))) :: S) σ Q := pGfR f_12_19 ow_12 fl_10_12 rfl (by decide) hk
theorem f_12_22 : oFet 12 22 = some (.getfield 73, 3) := by decide +kernel
theorem s_12_22 {d : Nat} {l0 : oV} {a : Nat} {S : List oV} {σ : oSg} {Q : Option oV → (Nat → oC) → Prop} (hk : oKd a = some 1) : oE d 12 22 [l0] (.inr (.inr (.inl a)) :: S) σ Q = oE d 12 25 [l0] (.inr (.inr (.inl (oRf a 0))) :: S) σ Q := pGfR f_12_22 ow_12 fl_10_73 rfl (by decide) hk
theorem f_12_25 : oFet 12 25 = some (.dup, 1) := by decide +kernel
theorem s_12_25 {d : Nat} {l0 : oV} {a : Nat} {S : List oV} {σ : oSg} {Q : Option oV → (Nat → oC) → Prop} : oE d 12 25 [l0] (.inr (.inr (.inl a)) :: S) σ Q = oE d 12 26 [l0] (.inr (.inr (.inl a)) :: .inr (.inr (.inl a)) :: S) σ Q := pDupR f_12_25
theorem s_12_25_i {d : Nat} {l0 : oV} {x : Int} {S : List oV} {σ : oSg} {Q : Option oV → (Nat → oC) → Prop} : oE d 12 25 [l0] (.inl x :: S) σ Q = oE d 12 26 [l0] (.inl x :: .inl x :: S) σ Q := pDupI f_12_25
theorem f_12_26 : oFet 12 26 = some (.getfield 76, 3) := by decide +kernel
theorem s_12_26 {d : Nat} {l0 : oV} {a : Nat} {S : List oV} {σ : oSg} {Q : Option oV → (Nat → oC) → Prop} (hk : oKd a = some 4) : oE d 12 26 [l0] (.inr (.inr (.inl a)) :: S) σ Q = oE d 12 29 [l0] (.inl (σ.1 a 0) :: S) σ Q := pGfI f_12_26 ow_12 fl_10_76 rfl (by decide) hk
theorem f_12_29 : oFet 12 29 = some (.iconst 1, 1) := by decide +kernel
theorem s_12_29 {d : Nat} {l0 : oV} {S : List oV} {σ : oSg} {Q : Option oV → (Nat → oC) → Prop} : oE d 12 29 [l0] S σ Q = oE d 12 30 [l0] (.inl (1) :: S) σ Q := pKst f_12_29 (by decide)
theorem f_12_30 : oFet 12 30 = some (.iadd, 1) := by decide +kernel
theorem s_12_30 {d : Nat} {l0 : oV} {x y : Int} {S : List oV} {σ : oSg} {Q : Option oV → (Nat → oC) → Prop} : oE d 12 30 [l0] (.inl y :: .inl x :: S) σ Q = oE d 12 31 [l0] (.inl (oAdd x y) :: S) σ Q := oS3 f_12_30 rfl rfl rfl
theorem f_12_31 : oFet 12 31 = some (.putfield 76, 3) := by decide +kernel
theorem s_12_31 {d : Nat} {l0 : oV} {a : Nat} {v : Int} {S : List oV} {σ : oSg} {Q : Option oV → (Nat → oC) → Prop} (hk : oKd a = some 4) : oE d 12 31 [l0] (.inl v :: .inr (.inr (.inl a)) :: S) σ Q = oE d 12 34 [l0] S (oSF σ a 0 v) Q := pPfI f_12_31 ow_12 fl_10_76 rfl (by decide) rfl rfl hk
theorem f_12_34 : oFet 12 34 = some (.aload_n 0, 1) := by decide +kernel
theorem s_12_34 {d : Nat} {a : Nat} {S : List oV} {σ : oSg} {Q : Option oV → (Nat → oC) → Prop} : oE d 12 34 [.inr (.inr (.inl a))] S σ Q = oE d 12 35 [.inr (.inr (.inl a))] (.inr (.inr (.inl a)) :: S) σ Q := pLdN (k := 0) f_12_34 rfl rfl rfl
theorem f_12_35 : oFet 12 35 = some (.getfield 12, 3) := by decide +kernel
theorem s_12_35 {d : Nat} {l0 : oV} {a : Nat} {S : List oV} {σ : oSg} {Q : Option oV → (Nat → oC) → Prop} (hk : oKd a = some 10) : oE d 12 35 [l0] (.inr (.inr (.inl a)) :: S) σ Q = oE d 12 38 [l0] (.inr (.inr (.inl (oRf a 0))) :: S) σ Q := pGfR f_12_35 ow_12 fl_10_12 rfl (by decide) hk
theorem f_12_38 : oFet 12 38 = some (.getfield 73, 3) := by decide +kernel
theorem s_12_38 {d : Nat} {l0 : oV} {a : Nat} {S : List oV} {σ : oSg} {Q : Option oV → (Nat → oC) → Prop} (hk : oKd a = some 1) : oE d 12 38 [l0] (.inr (.inr (.inl a)) :: S) σ Q = oE d 12 41 [l0] (.inr (.inr (.inl (oRf a 0))) :: S) σ Q := pGfR f_12_38 ow_12 fl_10_73 rfl (by decide) hk
theorem f_12_41 : oFet 12 41 = some (.getfield 76, 3) := by decide +kernel
theorem s_12_41 {d : Nat} {l0 : oV} {a : Nat} {S : List oV} {σ : oSg} {Q : Option oV → (Nat → oC) → Prop} (hk : oKd a = some 4) : oE d 12 41 [l0] (.inr (.inr (.inl a)) :: S) σ Q = oE d 12 44 [l0] (.inl (σ.1 a 0) :: S) σ Q := pGfI f_12_41 ow_12 fl_10_76 rfl (by decide) hk
theorem f_12_44 : oFet 12 44 = some (.iconst 1, 1) := by decide +kernel
theorem s_12_44 {d : Nat} {l0 : oV} {S : List oV} {σ : oSg} {Q : Option oV → (Nat → oC) → Prop} : oE d 12 44 [l0] S σ Q = oE d 12 45 [l0] (.inl (1) :: S) σ Q := pKst f_12_44 (by decide)
theorem f_12_45 : oFet 12 45 = some (.isub, 1) := by decide +kernel
theorem s_12_45 {d : Nat} {l0 : oV} {x y : Int} {S : List oV} {σ : oSg} {Q : Option oV → (Nat → oC) → Prop} : oE d 12 45 [l0] (.inl y :: .inl x :: S) σ Q = oE d 12 46 [l0] (.inl (oSub x y) :: S) σ Q := oS3 f_12_45 rfl rfl rfl
theorem f_12_46 : oFet 12 46 = some (.ireturn, 1) := by decide +kernel
theorem s_12_46 {d : Nat} {l0 : oV} {x : Int} {σ : oSg} {Q : Option oV → (Nat → oC) → Prop} : oE d 12 46 [l0] [.inl x] σ Q = Q (some (.inl x)) (oBld σ) := oIret f_12_46 rt_12
theorem ow_13 : (oMt 13).2.2.2.2.1 = 10 := by decide +kernel
theorem rt_13 : (oMt 13).2.2.2.1 = some .int := by decide +kernel
theorem nl_13 : (oMt 13).2.2.1 = 5 := by decide +kernel
theorem f_13_0 : oFet 13 0 = some (.aload_n 0, 1) := by decide +kernel
theorem s_13_0 {d : Nat} {l1 l2 l3 l4 : oV} {a : Nat} {S : List oV} {σ : oSg} {Q : Option oV → (Nat → oC) → Prop} : oE d 13 0 [.inr (.inr (.inl a)), l1, l2, l3, l4] S σ Q = oE d 13 1 [.inr (.inr (.inl a)), l1, l2, l3, l4] (.inr (.inr (.inl a)) :: S) σ Q := pLdN (k := 0) f_13_0 rfl rfl rfl
theorem f_13_1 : oFet 13 1 = some (.getfield 12, 3) := by decide +kernel
theorem s_13_1 {d : Nat} {l0 l1 l2 l3 l4 : oV} {a : Nat} {S : List oV} {σ : oSg} {Q : Option oV → (Nat → oC) → Prop} (hk : oKd a = some 10) : oE d 13 1 [l0, l1, l2, l3, l4] (.inr (.inr (.inl a)) :: S) σ Q = oE d 13 4 [l0, l1, l2, l3, l4] (.inr (.inr (.inl (oRf a 0))) :: S) σ Q := pGfR f_13_1 ow_13 fl_10_12 rfl (by decide) hk
theorem f_13_4 : oFet 13 4 = some (.getfield 73, 3) := by decide +kernel
theorem s_13_4 {d : Nat} {l0 l1 l2 l3 l4 : oV} {a : Nat} {S : List oV} {σ : oSg} {Q : Option oV → (Nat → oC) → Prop} (hk : oKd a = some 1) : oE d 13 4 [l0, l1, l2, l3, l4] (.inr (.inr (.inl a)) :: S) σ Q = oE d 13 7 [l0, l1, l2, l3, l4] (.inr (.inr (.inl (oRf a 0))) :: S) σ Q := pGfR f_13_4 ow_13 fl_10_73 rfl (by decide) hk
theorem f_13_7 : oFet 13 7 = some (.iload_n 1, 1) := by decide +kernel
theorem s_13_7 {d : Nat} {l0 l2 l3 l4 : oV} {x : Int} {S : List oV} {σ : oSg} {Q : Option oV → (Nat → oC) → Prop} : oE d 13 7 [l0, .inl x, l2, l3, l4] S σ Q = oE d 13 8 [l0, .inl x, l2, l3, l4] (.inl x :: S) σ Q := pLdN (k := 1) f_13_7 rfl rfl rfl
theorem f_13_8 : oFet 13 8 = some (.iload_n 2, 1) := by decide +kernel
theorem s_13_8 {d : Nat} {l0 l1 l3 l4 : oV} {x : Int} {S : List oV} {σ : oSg} {Q : Option oV → (Nat → oC) → Prop} : oE d 13 8 [l0, l1, .inl x, l3, l4] S σ Q = oE d 13 9 [l0, l1, .inl x, l3, l4] (.inl x :: S) σ Q := pLdN (k := 2) f_13_8 rfl rfl rfl
theorem f_13_9 : oFet 13 9 = some (.invokevirtual 80, 3) := by decide +kernel
theorem c_13_9 {d : Nat} {l0 l1 l2 l3 l4 : oV} {x0 x1 : oV} {a : Nat} {v : Option oV} {τ : oSg} {S : List oV} {σ : oSg} {Q : Option oV → (Nat → oC) → Prop} (hm : oMi d 14 [.inr (.inr (.inl a)), x0, x1] σ v τ) (hk : oKd a = some 4) (hs : oSmall S = true) : oE d 13 9 [l0, l1, l2, l3, l4] (x1 :: x0 :: .inr (.inr (.inl a)) :: S) σ Q = oE d 13 12 [l0, l1, l2, l3, l4] (v.toList ++ S) τ Q := pCallV f_13_9 ow_13 lk_10_80 mt_14 rfl rfl rfl hk hs hm
theorem f_13_12 : oFet 13 12 = some (.ifCond .ne 5, 3) := by decide +kernel
theorem s_13_12 {d : Nat} {l0 l1 l2 l3 l4 : oV} {x : Int} {S : List oV} {σ : oSg} {Q : Option oV → (Nat → oC) → Prop} : oE d 13 12 [l0, l1, l2, l3, l4] (.inl x :: S) σ Q = if ¬ x = 0 then oE d 13 17 [l0, l1, l2, l3, l4] S σ Q else oE d 13 15 [l0, l1, l2, l3, l4] S σ Q := oIfNe f_13_12 (by decide)
theorem f_13_15 : oFet 13 15 = some (.iconst (-1), 1) := by decide +kernel
theorem s_13_15 {d : Nat} {l0 l1 l2 l3 l4 : oV} {S : List oV} {σ : oSg} {Q : Option oV → (Nat → oC) → Prop} : oE d 13 15 [l0, l1, l2, l3, l4] S σ Q = oE d 13 16 [l0, l1, l2, l3, l4] (.inl (-1) :: S) σ Q := pKst f_13_15 (by decide)
theorem f_13_16 : oFet 13 16 = some (.ireturn, 1) := by decide +kernel
theorem s_13_16 {d : Nat} {l0 l1 l2 l3 l4 : oV} {x : Int} {σ : oSg} {Q : Option oV → (Nat → oC) → Prop} : oE d 13 16 [l0, l1, l2, l3, l4] [.inl x] σ Q = Q (some (.inl x)) (oBld σ) := oIret f_13_16 rt_13
theorem f_13_17 : oFet 13 17 = some (.iload_n 3, 1) := by decide +kernel
theorem s_13_17 {d : Nat} {l0 l1 l2 l4 : oV} {x : Int} {S : List oV} {σ : oSg} {Q : Option oV → (Nat → oC) → Prop} : oE d 13 17 [l0, l1, l2, .inl x, l4] S σ Q = oE d 13 18 [l0, l1, l2, .inl x, l4] (.inl x :: S) σ Q := pLdN (k := 3) f_13_17 rfl rfl rfl
theorem f_13_18 : oFet 13 18 = some (.ifCond .lt 9, 3) := by decide +kernel
theorem s_13_18 {d : Nat} {l0 l1 l2 l3 l4 : oV} {x : Int} {S : List oV} {σ : oSg} {Q : Option oV → (Nat → oC) → Prop} : oE d 13 18 [l0, l1, l2, l3, l4] (.inl x :: S) σ Q = if x < 0 then oE d 13 27 [l0, l1, l2, l3, l4] S σ Q else oE d 13 21 [l0, l1, l2, l3, l4] S σ Q := oIfLt f_13_18 (by decide)
theorem f_13_21 : oFet 13 21 = some (.iload_n 3, 1) := by decide +kernel
theorem s_13_21 {d : Nat} {l0 l1 l2 l4 : oV} {x : Int} {S : List oV} {σ : oSg} {Q : Option oV → (Nat → oC) → Prop} : oE d 13 21 [l0, l1, l2, .inl x, l4] S σ Q = oE d 13 22 [l0, l1, l2, .inl x, l4] (.inl x :: S) σ Q := pLdN (k := 3) f_13_21 rfl rfl rfl
theorem f_13_22 : oFet 13 22 = some (.bipush 20, 2) := by decide +kernel
theorem s_13_22 {d : Nat} {l0 l1 l2 l3 l4 : oV} {S : List oV} {σ : oSg} {Q : Option oV → (Nat → oC) → Prop} : oE d 13 22 [l0, l1, l2, l3, l4] S σ Q = oE d 13 24 [l0, l1, l2, l3, l4] (.inl (20) :: S) σ Q := pBip f_13_22 (by decide)
theorem f_13_24 : oFet 13 24 = some (.if_icmp .le 6, 3) := by decide +kernel
theorem s_13_24 {d : Nat} {l0 l1 l2 l3 l4 : oV} {x y : Int} {S : List oV} {σ : oSg} {Q : Option oV → (Nat → oC) → Prop} : oE d 13 24 [l0, l1, l2, l3, l4] (.inl y :: .inl x :: S) σ Q = if x ≤ y then oE d 13 30 [l0, l1, l2, l3, l4] S σ Q else oE d 13 27 [l0, l1, l2, l3, l4] S σ Q := oCmpLe f_13_24 (by decide)
theorem f_13_27 : oFet 13 27 = some (.bipush (-2), 2) := by decide +kernel
theorem s_13_27 {d : Nat} {l0 l1 l2 l3 l4 : oV} {S : List oV} {σ : oSg} {Q : Option oV → (Nat → oC) → Prop} : oE d 13 27 [l0, l1, l2, l3, l4] S σ Q = oE d 13 29 [l0, l1, l2, l3, l4] (.inl (-2) :: S) σ Q := pBip f_13_27 (by decide)
theorem f_13_29 : oFet 13 29 = some (.ireturn, 1) := by decide +kernel
theorem s_13_29 {d : Nat} {l0 l1 l2 l3 l4 : oV} {x : Int} {σ : oSg} {Q : Option oV → (Nat → oC) → Prop} : oE d 13 29 [l0, l1, l2, l3, l4] [.inl x] σ Q = Q (some (.inl x)) (oBld σ) := oIret f_13_29 rt_13
theorem f_13_30 : oFet 13 30 = some (.aload_n 0, 1) := by decide +kernel
theorem s_13_30 {d : Nat} {l1 l2 l3 l4 : oV} {a : Nat} {S : List oV} {σ : oSg} {Q : Option oV → (Nat → oC) → Prop} : oE d 13 30 [.inr (.inr (.inl a)), l1, l2, l3, l4] S σ Q = oE d 13 31 [.inr (.inr (.inl a)), l1, l2, l3, l4] (.inr (.inr (.inl a)) :: S) σ Q := pLdN (k := 0) f_13_30 rfl rfl rfl
theorem f_13_31 : oFet 13 31 = some (.getfield 12, 3) := by decide +kernel
theorem s_13_31 {d : Nat} {l0 l1 l2 l3 l4 : oV} {a : Nat} {S : List oV} {σ : oSg} {Q : Option oV → (Nat → oC) → Prop} (hk : oKd a = some 10) : oE d 13 31 [l0, l1, l2, l3, l4] (.inr (.inr (.inl a)) :: S) σ Q = oE d 13 34 [l0, l1, l2, l3, l4] (.inr (.inr (.inl (oRf a 0))) :: S) σ Q := pGfR f_13_31 ow_13 fl_10_12 rfl (by decide) hk
theorem f_13_34 : oFet 13 34 = some (.getfield 73, 3) := by decide +kernel
theorem s_13_34 {d : Nat} {l0 l1 l2 l3 l4 : oV} {a : Nat} {S : List oV} {σ : oSg} {Q : Option oV → (Nat → oC) → Prop} (hk : oKd a = some 1) : oE d 13 34 [l0, l1, l2, l3, l4] (.inr (.inr (.inl a)) :: S) σ Q = oE d 13 37 [l0, l1, l2, l3, l4] (.inr (.inr (.inl (oRf a 0))) :: S) σ Q := pGfR f_13_34 ow_13 fl_10_73 rfl (by decide) hk
theorem f_13_37 : oFet 13 37 = some (.iload_n 1, 1) := by decide +kernel
theorem s_13_37 {d : Nat} {l0 l2 l3 l4 : oV} {x : Int} {S : List oV} {σ : oSg} {Q : Option oV → (Nat → oC) → Prop} : oE d 13 37 [l0, .inl x, l2, l3, l4] S σ Q = oE d 13 38 [l0, .inl x, l2, l3, l4] (.inl x :: S) σ Q := pLdN (k := 1) f_13_37 rfl rfl rfl
theorem f_13_38 : oFet 13 38 = some (.iload_n 2, 1) := by decide +kernel
theorem s_13_38 {d : Nat} {l0 l1 l3 l4 : oV} {x : Int} {S : List oV} {σ : oSg} {Q : Option oV → (Nat → oC) → Prop} : oE d 13 38 [l0, l1, .inl x, l3, l4] S σ Q = oE d 13 39 [l0, l1, .inl x, l3, l4] (.inl x :: S) σ Q := pLdN (k := 2) f_13_38 rfl rfl rfl
theorem f_13_39 : oFet 13 39 = some (.invokevirtual 84, 3) := by decide +kernel
theorem c_13_39 {d : Nat} {l0 l1 l2 l3 l4 : oV} {x0 x1 : oV} {a : Nat} {v : Option oV} {τ : oSg} {S : List oV} {σ : oSg} {Q : Option oV → (Nat → oC) → Prop} (hm : oMi d 16 [.inr (.inr (.inl a)), x0, x1] σ v τ) (hk : oKd a = some 4) (hs : oSmall S = true) : oE d 13 39 [l0, l1, l2, l3, l4] (x1 :: x0 :: .inr (.inr (.inl a)) :: S) σ Q = oE d 13 42 [l0, l1, l2, l3, l4] (v.toList ++ S) τ Q := pCallV f_13_39 ow_13 lk_10_84 mt_16 rfl rfl rfl hk hs hm
theorem f_13_42 : oFet 13 42 = some (.istore 4, 2) := by decide +kernel
theorem s_13_42 {d : Nat} {l0 l1 l2 l3 l4 : oV} {x : Int} {S : List oV} {σ : oSg} {Q : Option oV → (Nat → oC) → Prop} (c4 : oCat l4 = 1) (c3 : oCat l3 = 1)  : oE d 13 42 [l0, l1, l2, l3, l4] (.inl x :: S) σ Q = oE d 13 44 [l0, l1, l2, l3, .inl x] S σ Q := pSt (i := 4) f_13_42 rfl rfl (show (4 : Nat) < 5 by decide) (oC1n c3) (oC1n c4) rfl
theorem f_13_44 : oFet 13 44 = some (.aload_n 0, 1) := by decide +kernel
theorem s_13_44 {d : Nat} {l1 l2 l3 l4 : oV} {a : Nat} {S : List oV} {σ : oSg} {Q : Option oV → (Nat → oC) → Prop} : oE d 13 44 [.inr (.inr (.inl a)), l1, l2, l3, l4] S σ Q = oE d 13 45 [.inr (.inr (.inl a)), l1, l2, l3, l4] (.inr (.inr (.inl a)) :: S) σ Q := pLdN (k := 0) f_13_44 rfl rfl rfl
theorem f_13_45 : oFet 13 45 = some (.getfield 12, 3) := by decide +kernel
theorem s_13_45 {d : Nat} {l0 l1 l2 l3 l4 : oV} {a : Nat} {S : List oV} {σ : oSg} {Q : Option oV → (Nat → oC) → Prop} (hk : oKd a = some 10) : oE d 13 45 [l0, l1, l2, l3, l4] (.inr (.inr (.inl a)) :: S) σ Q = oE d 13 48 [l0, l1, l2, l3, l4] (.inr (.inr (.inl (oRf a 0))) :: S) σ Q := pGfR f_13_45 ow_13 fl_10_12 rfl (by decide) hk
theorem f_13_48 : oFet 13 48 = some (.getfield 73, 3) := by decide +kernel
theorem s_13_48 {d : Nat} {l0 l1 l2 l3 l4 : oV} {a : Nat} {S : List oV} {σ : oSg} {Q : Option oV → (Nat → oC) → Prop} (hk : oKd a = some 1) : oE d 13 48 [l0, l1, l2, l3, l4] (.inr (.inr (.inl a)) :: S) σ Q = oE d 13 51 [l0, l1, l2, l3, l4] (.inr (.inr (.inl (oRf a 0))) :: S) σ Q := pGfR f_13_48 ow_13 fl_10_73 rfl (by decide) hk
theorem f_13_51 : oFet 13 51 = some (.iload_n 1, 1) := by decide +kernel
theorem s_13_51 {d : Nat} {l0 l2 l3 l4 : oV} {x : Int} {S : List oV} {σ : oSg} {Q : Option oV → (Nat → oC) → Prop} : oE d 13 51 [l0, .inl x, l2, l3, l4] S σ Q = oE d 13 52 [l0, .inl x, l2, l3, l4] (.inl x :: S) σ Q := pLdN (k := 1) f_13_51 rfl rfl rfl
theorem f_13_52 : oFet 13 52 = some (.iload_n 2, 1) := by decide +kernel
theorem s_13_52 {d : Nat} {l0 l1 l3 l4 : oV} {x : Int} {S : List oV} {σ : oSg} {Q : Option oV → (Nat → oC) → Prop} : oE d 13 52 [l0, l1, .inl x, l3, l4] S σ Q = oE d 13 53 [l0, l1, .inl x, l3, l4] (.inl x :: S) σ Q := pLdN (k := 2) f_13_52 rfl rfl rfl
theorem f_13_53 : oFet 13 53 = some (.iload_n 3, 1) := by decide +kernel
theorem s_13_53 {d : Nat} {l0 l1 l2 l4 : oV} {x : Int} {S : List oV} {σ : oSg} {Q : Option oV → (Nat → oC) → Prop} : oE d 13 53 [l0, l1, l2, .inl x, l4] S σ Q = oE d 13 54 [l0, l1, l2, .inl x, l4] (.inl x :: S) σ Q := pLdN (k := 3) f_13_53 rfl rfl rfl
theorem f_13_54 : oFet 13 54 = some (.invokevirtual 88, 3) := by decide +kernel
theorem c_13_54 {d : Nat} {l0 l1 l2 l3 l4 : oV} {x0 x1 x2 : oV} {a : Nat} {v : Option oV} {τ : oSg} {S : List oV} {σ : oSg} {Q : Option oV → (Nat → oC) → Prop} (hm : oMi d 17 [.inr (.inr (.inl a)), x0, x1, x2] σ v τ) (hk : oKd a = some 4) (hs : oSmall S = true) : oE d 13 54 [l0, l1, l2, l3, l4] (x2 :: x1 :: x0 :: .inr (.inr (.inl a)) :: S) σ Q = oE d 13 57 [l0, l1, l2, l3, l4] (v.toList ++ S) τ Q := pCallV f_13_54 ow_13 lk_10_88 mt_17 rfl rfl rfl hk hs hm
theorem f_13_57 : oFet 13 57 = some (.iload_n 3, 1) := by decide +kernel
theorem s_13_57 {d : Nat} {l0 l1 l2 l4 : oV} {x : Int} {S : List oV} {σ : oSg} {Q : Option oV → (Nat → oC) → Prop} : oE d 13 57 [l0, l1, l2, .inl x, l4] S σ Q = oE d 13 58 [l0, l1, l2, .inl x, l4] (.inl x :: S) σ Q := pLdN (k := 3) f_13_57 rfl rfl rfl
theorem f_13_58 : oFet 13 58 = some (.ifCond .ne 23, 3) := by decide +kernel
theorem s_13_58 {d : Nat} {l0 l1 l2 l3 l4 : oV} {x : Int} {S : List oV} {σ : oSg} {Q : Option oV → (Nat → oC) → Prop} : oE d 13 58 [l0, l1, l2, l3, l4] (.inl x :: S) σ Q = if ¬ x = 0 then oE d 13 81 [l0, l1, l2, l3, l4] S σ Q else oE d 13 61 [l0, l1, l2, l3, l4] S σ Q := oIfNe f_13_58 (by decide)
theorem f_13_61 : oFet 13 61 = some (.aload_n 0, 1) := by decide +kernel
theorem s_13_61 {d : Nat} {l1 l2 l3 l4 : oV} {a : Nat} {S : List oV} {σ : oSg} {Q : Option oV → (Nat → oC) → Prop} : oE d 13 61 [.inr (.inr (.inl a)), l1, l2, l3, l4] S σ Q = oE d 13 62 [.inr (.inr (.inl a)), l1, l2, l3, l4] (.inr (.inr (.inl a)) :: S) σ Q := pLdN (k := 0) f_13_61 rfl rfl rfl
theorem f_13_62 : oFet 13 62 = some (.getfield 12, 3) := by decide +kernel
theorem s_13_62 {d : Nat} {l0 l1 l2 l3 l4 : oV} {a : Nat} {S : List oV} {σ : oSg} {Q : Option oV → (Nat → oC) → Prop} (hk : oKd a = some 10) : oE d 13 62 [l0, l1, l2, l3, l4] (.inr (.inr (.inl a)) :: S) σ Q = oE d 13 65 [l0, l1, l2, l3, l4] (.inr (.inr (.inl (oRf a 0))) :: S) σ Q := pGfR f_13_62 ow_13 fl_10_12 rfl (by decide) hk
theorem f_13_65 : oFet 13 65 = some (.iload_n 1, 1) := by decide +kernel
theorem s_13_65 {d : Nat} {l0 l2 l3 l4 : oV} {x : Int} {S : List oV} {σ : oSg} {Q : Option oV → (Nat → oC) → Prop} : oE d 13 65 [l0, .inl x, l2, l3, l4] S σ Q = oE d 13 66 [l0, .inl x, l2, l3, l4] (.inl x :: S) σ Q := pLdN (k := 1) f_13_65 rfl rfl rfl
theorem f_13_66 : oFet 13 66 = some (.invokevirtual 92, 3) := by decide +kernel
theorem c_13_66 {d : Nat} {l0 l1 l2 l3 l4 : oV} {x0 : oV} {a : Nat} {v : Option oV} {τ : oSg} {S : List oV} {σ : oSg} {Q : Option oV → (Nat → oC) → Prop} (hm : oMi d 18 [.inr (.inr (.inl a)), x0] σ v τ) (hk : oKd a = some 1) (hs : oSmall S = true) : oE d 13 66 [l0, l1, l2, l3, l4] (x0 :: .inr (.inr (.inl a)) :: S) σ Q = oE d 13 69 [l0, l1, l2, l3, l4] (v.toList ++ S) τ Q := pCallV f_13_66 ow_13 lk_10_92 mt_18 rfl rfl rfl hk hs hm
theorem f_13_69 : oFet 13 69 = some (.iload_n 2, 1) := by decide +kernel
theorem s_13_69 {d : Nat} {l0 l1 l3 l4 : oV} {x : Int} {S : List oV} {σ : oSg} {Q : Option oV → (Nat → oC) → Prop} : oE d 13 69 [l0, l1, .inl x, l3, l4] S σ Q = oE d 13 70 [l0, l1, .inl x, l3, l4] (.inl x :: S) σ Q := pLdN (k := 2) f_13_69 rfl rfl rfl
theorem f_13_70 : oFet 13 70 = some (.if_icmp .ne 11, 3) := by decide +kernel
theorem s_13_70 {d : Nat} {l0 l1 l2 l3 l4 : oV} {x y : Int} {S : List oV} {σ : oSg} {Q : Option oV → (Nat → oC) → Prop} : oE d 13 70 [l0, l1, l2, l3, l4] (.inl y :: .inl x :: S) σ Q = if ¬ x = y then oE d 13 81 [l0, l1, l2, l3, l4] S σ Q else oE d 13 73 [l0, l1, l2, l3, l4] S σ Q := oCmpNe f_13_70 (by decide)
theorem f_13_73 : oFet 13 73 = some (.aload_n 0, 1) := by decide +kernel
theorem s_13_73 {d : Nat} {l1 l2 l3 l4 : oV} {a : Nat} {S : List oV} {σ : oSg} {Q : Option oV → (Nat → oC) → Prop} : oE d 13 73 [.inr (.inr (.inl a)), l1, l2, l3, l4] S σ Q = oE d 13 74 [.inr (.inr (.inl a)), l1, l2, l3, l4] (.inr (.inr (.inl a)) :: S) σ Q := pLdN (k := 0) f_13_73 rfl rfl rfl
theorem f_13_74 : oFet 13 74 = some (.getfield 12, 3) := by decide +kernel
theorem s_13_74 {d : Nat} {l0 l1 l2 l3 l4 : oV} {a : Nat} {S : List oV} {σ : oSg} {Q : Option oV → (Nat → oC) → Prop} (hk : oKd a = some 10) : oE d 13 74 [l0, l1, l2, l3, l4] (.inr (.inr (.inl a)) :: S) σ Q = oE d 13 77 [l0, l1, l2, l3, l4] (.inr (.inr (.inl (oRf a 0))) :: S) σ Q := pGfR f_13_74 ow_13 fl_10_12 rfl (by decide) hk
theorem f_13_77 : oFet 13 77 = some (.iload_n 1, 1) := by decide +kernel
theorem s_13_77 {d : Nat} {l0 l2 l3 l4 : oV} {x : Int} {S : List oV} {σ : oSg} {Q : Option oV → (Nat → oC) → Prop} : oE d 13 77 [l0, .inl x, l2, l3, l4] S σ Q = oE d 13 78 [l0, .inl x, l2, l3, l4] (.inl x :: S) σ Q := pLdN (k := 1) f_13_77 rfl rfl rfl
theorem f_13_78 : oFet 13 78 = some (.invokevirtual 96, 3) := by decide +kernel
theorem c_13_78 {d : Nat} {l0 l1 l2 l3 l4 : oV} {x0 : oV} {a : Nat} {v : Option oV} {τ : oSg} {S : List oV} {σ : oSg} {Q : Option oV → (Nat → oC) → Prop} (hm : oMi d 19 [.inr (.inr (.inl a)), x0] σ v τ) (hk : oKd a = some 1) (hs : oSmall S = true) : oE d 13 78 [l0, l1, l2, l3, l4] (x0 :: .inr (.inr (.inl a)) :: S) σ Q = oE d 13 81 [l0, l1, l2, l3, l4] (v.toList ++ S) τ Q := pCallV f_13_78 ow_13 lk_10_96 mt_19 rfl rfl rfl hk hs hm
theorem f_13_81 : oFet 13 81 = some (.iload 4, 2) := by decide +kernel
theorem s_13_81 {d : Nat} {l0 l1 l2 l3 : oV} {x : Int} {S : List oV} {σ : oSg} {Q : Option oV → (Nat → oC) → Prop} : oE d 13 81 [l0, l1, l2, l3, .inl x] S σ Q = oE d 13 83 [l0, l1, l2, l3, .inl x] (.inl x :: S) σ Q := pLd (i := 4) f_13_81 rfl rfl rfl
theorem f_13_83 : oFet 13 83 = some (.ireturn, 1) := by decide +kernel
theorem s_13_83 {d : Nat} {l0 l1 l2 l3 l4 : oV} {x : Int} {σ : oSg} {Q : Option oV → (Nat → oC) → Prop} : oE d 13 83 [l0, l1, l2, l3, l4] [.inl x] σ Q = Q (some (.inl x)) (oBld σ) := oIret f_13_83 rt_13
theorem ow_14 : (oMt 14).2.2.2.2.1 = 4 := by decide +kernel
theorem rt_14 : (oMt 14).2.2.2.1 = some .boolean := by decide +kernel
theorem nl_14 : (oMt 14).2.2.1 = 3 := by decide +kernel
theorem f_14_0 : oFet 14 0 = some (.aload_n 0, 1) := by decide +kernel
theorem s_14_0 {d : Nat} {l1 l2 : oV} {a : Nat} {S : List oV} {σ : oSg} {Q : Option oV → (Nat → oC) → Prop} : oE d 14 0 [.inr (.inr (.inl a)), l1, l2] S σ Q = oE d 14 1 [.inr (.inr (.inl a)), l1, l2] (.inr (.inr (.inl a)) :: S) σ Q := pLdN (k := 0) f_14_0 rfl rfl rfl
theorem f_14_1 : oFet 14 1 = some (.iload_n 1, 1) := by decide +kernel
theorem s_14_1 {d : Nat} {l0 l2 : oV} {x : Int} {S : List oV} {σ : oSg} {Q : Option oV → (Nat → oC) → Prop} : oE d 14 1 [l0, .inl x, l2] S σ Q = oE d 14 2 [l0, .inl x, l2] (.inl x :: S) σ Q := pLdN (k := 1) f_14_1 rfl rfl rfl
theorem f_14_2 : oFet 14 2 = some (.invokevirtual 19, 3) := by decide +kernel
theorem c_14_2 {d : Nat} {l0 l1 l2 : oV} {x0 : oV} {a : Nat} {v : Option oV} {τ : oSg} {S : List oV} {σ : oSg} {Q : Option oV → (Nat → oC) → Prop} (hm : oMi d 15 [.inr (.inr (.inl a)), x0] σ v τ) (hk : oKd a = some 4) (hs : oSmall S = true) : oE d 14 2 [l0, l1, l2] (x0 :: .inr (.inr (.inl a)) :: S) σ Q = oE d 14 5 [l0, l1, l2] (v.toList ++ S) τ Q := pCallV f_14_2 ow_14 lk_4_19 mt_15 rfl rfl rfl hk hs hm
theorem f_14_5 : oFet 14 5 = some (.ifCond .eq 20, 3) := by decide +kernel
theorem s_14_5 {d : Nat} {l0 l1 l2 : oV} {x : Int} {S : List oV} {σ : oSg} {Q : Option oV → (Nat → oC) → Prop} : oE d 14 5 [l0, l1, l2] (.inl x :: S) σ Q = if x = 0 then oE d 14 25 [l0, l1, l2] S σ Q else oE d 14 8 [l0, l1, l2] S σ Q := oIfEq f_14_5 (by decide)
theorem f_14_8 : oFet 14 8 = some (.aload_n 0, 1) := by decide +kernel
theorem s_14_8 {d : Nat} {l1 l2 : oV} {a : Nat} {S : List oV} {σ : oSg} {Q : Option oV → (Nat → oC) → Prop} : oE d 14 8 [.inr (.inr (.inl a)), l1, l2] S σ Q = oE d 14 9 [.inr (.inr (.inl a)), l1, l2] (.inr (.inr (.inl a)) :: S) σ Q := pLdN (k := 0) f_14_8 rfl rfl rfl
theorem f_14_9 : oFet 14 9 = some (.iload_n 2, 1) := by decide +kernel
theorem s_14_9 {d : Nat} {l0 l1 : oV} {x : Int} {S : List oV} {σ : oSg} {Q : Option oV → (Nat → oC) → Prop} : oE d 14 9 [l0, l1, .inl x] S σ Q = oE d 14 10 [l0, l1, .inl x] (.inl x :: S) σ Q := pLdN (k := 2) f_14_9 rfl rfl rfl
theorem f_14_10 : oFet 14 10 = some (.invokevirtual 19, 3) := by decide +kernel
theorem c_14_10 {d : Nat} {l0 l1 l2 : oV} {x0 : oV} {a : Nat} {v : Option oV} {τ : oSg} {S : List oV} {σ : oSg} {Q : Option oV → (Nat → oC) → Prop} (hm : oMi d 15 [.inr (.inr (.inl a)), x0] σ v τ) (hk : oKd a = some 4) (hs : oSmall S = true) : oE d 14 10 [l0, l1, l2] (x0 :: .inr (.inr (.inl a)) :: S) σ Q = oE d 14 13 [l0, l1, l2] (v.toList ++ S) τ Q := pCallV f_14_10 ow_14 lk_4_19 mt_15 rfl rfl rfl hk hs hm
theorem f_14_13 : oFet 14 13 = some (.ifCond .eq 12, 3) := by decide +kernel
theorem s_14_13 {d : Nat} {l0 l1 l2 : oV} {x : Int} {S : List oV} {σ : oSg} {Q : Option oV → (Nat → oC) → Prop} : oE d 14 13 [l0, l1, l2] (.inl x :: S) σ Q = if x = 0 then oE d 14 25 [l0, l1, l2] S σ Q else oE d 14 16 [l0, l1, l2] S σ Q := oIfEq f_14_13 (by decide)
theorem f_14_16 : oFet 14 16 = some (.iload_n 1, 1) := by decide +kernel
theorem s_14_16 {d : Nat} {l0 l2 : oV} {x : Int} {S : List oV} {σ : oSg} {Q : Option oV → (Nat → oC) → Prop} : oE d 14 16 [l0, .inl x, l2] S σ Q = oE d 14 17 [l0, .inl x, l2] (.inl x :: S) σ Q := pLdN (k := 1) f_14_16 rfl rfl rfl
theorem f_14_17 : oFet 14 17 = some (.iload_n 2, 1) := by decide +kernel
theorem s_14_17 {d : Nat} {l0 l1 : oV} {x : Int} {S : List oV} {σ : oSg} {Q : Option oV → (Nat → oC) → Prop} : oE d 14 17 [l0, l1, .inl x] S σ Q = oE d 14 18 [l0, l1, .inl x] (.inl x :: S) σ Q := pLdN (k := 2) f_14_17 rfl rfl rfl
theorem f_14_18 : oFet 14 18 = some (.if_icmp .eq 7, 3) := by decide +kernel
theorem s_14_18 {d : Nat} {l0 l1 l2 : oV} {x y : Int} {S : List oV} {σ : oSg} {Q : Option oV → (Nat → oC) → Prop} : oE d 14 18 [l0, l1, l2] (.inl y :: .inl x :: S) σ Q = if x = y then oE d 14 25 [l0, l1, l2] S σ Q else oE d 14 21 [l0, l1, l2] S σ Q := oCmpEq f_14_18 (by decide)
theorem f_14_21 : oFet 14 21 = some (.iconst 1, 1) := by decide +kernel
theorem s_14_21 {d : Nat} {l0 l1 l2 : oV} {S : List oV} {σ : oSg} {Q : Option oV → (Nat → oC) → Prop} : oE d 14 21 [l0, l1, l2] S σ Q = oE d 14 22 [l0, l1, l2] (.inl (1) :: S) σ Q := pKst f_14_21 (by decide)
theorem f_14_22 : oFet 14 22 = some (.goto 4, 3) := by decide +kernel
theorem s_14_22 {d : Nat} {l0 l1 l2 : oV} {S : List oV} {σ : oSg} {Q : Option oV → (Nat → oC) → Prop} : oE d 14 22 [l0, l1, l2] S σ Q = oE d 14 26 [l0, l1, l2] S σ Q := pGoto f_14_22 (by decide)
theorem f_14_25 : oFet 14 25 = some (.iconst 0, 1) := by decide +kernel
theorem s_14_25 {d : Nat} {l0 l1 l2 : oV} {S : List oV} {σ : oSg} {Q : Option oV → (Nat → oC) → Prop} : oE d 14 25 [l0, l1, l2] S σ Q = oE d 14 26 [l0, l1, l2] (.inl (0) :: S) σ Q := pKst f_14_25 (by decide)
theorem f_14_26 : oFet 14 26 = some (.ireturn, 1) := by decide +kernel
theorem s_14_26 {d : Nat} {l0 l1 l2 : oV} {x : Int} {σ : oSg} {Q : Option oV → (Nat → oC) → Prop} (hx : x = 0 ∨ x = 1) : oE d 14 26 [l0, l1, l2] [.inl x] σ Q = Q (some (.inl x)) (oBld σ) := oZret f_14_26 rt_14 hx
theorem ow_15 : (oMt 15).2.2.2.2.1 = 4 := by decide +kernel
theorem rt_15 : (oMt 15).2.2.2.1 = some .boolean := by decide +kernel
theorem nl_15 : (oMt 15).2.2.1 = 2 := by decide +kernel
theorem f_15_0 : oFet 15 0 = some (.iload_n 1, 1) := by decide +kernel
theorem s_15_0 {d : Nat} {l0 : oV} {x : Int} {S : List oV} {σ : oSg} {Q : Option oV → (Nat → oC) → Prop} : oE d 15 0 [l0, .inl x] S σ Q = oE d 15 1 [l0, .inl x] (.inl x :: S) σ Q := pLdN (k := 1) f_15_0 rfl rfl rfl
theorem f_15_1 : oFet 15 1 = some (.ifCond .lt 21, 3) := by decide +kernel
theorem s_15_1 {d : Nat} {l0 l1 : oV} {x : Int} {S : List oV} {σ : oSg} {Q : Option oV → (Nat → oC) → Prop} : oE d 15 1 [l0, l1] (.inl x :: S) σ Q = if x < 0 then oE d 15 22 [l0, l1] S σ Q else oE d 15 4 [l0, l1] S σ Q := oIfLt f_15_1 (by decide)
theorem f_15_4 : oFet 15 4 = some (.iload_n 1, 1) := by decide +kernel
theorem s_15_4 {d : Nat} {l0 : oV} {x : Int} {S : List oV} {σ : oSg} {Q : Option oV → (Nat → oC) → Prop} : oE d 15 4 [l0, .inl x] S σ Q = oE d 15 5 [l0, .inl x] (.inl x :: S) σ Q := pLdN (k := 1) f_15_4 rfl rfl rfl
theorem f_15_5 : oFet 15 5 = some (.aload_n 0, 1) := by decide +kernel
theorem s_15_5 {d : Nat} {l1 : oV} {a : Nat} {S : List oV} {σ : oSg} {Q : Option oV → (Nat → oC) → Prop} : oE d 15 5 [.inr (.inr (.inl a)), l1] S σ Q = oE d 15 6 [.inr (.inr (.inl a)), l1] (.inr (.inr (.inl a)) :: S) σ Q := pLdN (k := 0) f_15_5 rfl rfl rfl
theorem f_15_6 : oFet 15 6 = some (.getfield 15, 3) := by decide +kernel
theorem s_15_6 {d : Nat} {l0 l1 : oV} {a : Nat} {S : List oV} {σ : oSg} {Q : Option oV → (Nat → oC) → Prop} (hk : oKd a = some 4) : oE d 15 6 [l0, l1] (.inr (.inr (.inl a)) :: S) σ Q = oE d 15 9 [l0, l1] (.inl (σ.1 a 0) :: S) σ Q := pGfI f_15_6 ow_15 fl_4_15 rfl (by decide) hk
theorem f_15_9 : oFet 15 9 = some (.if_icmp .ge 13, 3) := by decide +kernel
theorem s_15_9 {d : Nat} {l0 l1 : oV} {x y : Int} {S : List oV} {σ : oSg} {Q : Option oV → (Nat → oC) → Prop} : oE d 15 9 [l0, l1] (.inl y :: .inl x :: S) σ Q = if y ≤ x then oE d 15 22 [l0, l1] S σ Q else oE d 15 12 [l0, l1] S σ Q := oCmpGe f_15_9 (by decide)
theorem f_15_12 : oFet 15 12 = some (.iload_n 1, 1) := by decide +kernel
theorem s_15_12 {d : Nat} {l0 : oV} {x : Int} {S : List oV} {σ : oSg} {Q : Option oV → (Nat → oC) → Prop} : oE d 15 12 [l0, .inl x] S σ Q = oE d 15 13 [l0, .inl x] (.inl x :: S) σ Q := pLdN (k := 1) f_15_12 rfl rfl rfl
theorem f_15_13 : oFet 15 13 = some (.bipush 7, 2) := by decide +kernel
theorem s_15_13 {d : Nat} {l0 l1 : oV} {S : List oV} {σ : oSg} {Q : Option oV → (Nat → oC) → Prop} : oE d 15 13 [l0, l1] S σ Q = oE d 15 15 [l0, l1] (.inl (7) :: S) σ Q := pBip f_15_13 (by decide)
theorem f_15_15 : oFet 15 15 = some (.if_icmp .ge 7, 3) := by decide +kernel
theorem s_15_15 {d : Nat} {l0 l1 : oV} {x y : Int} {S : List oV} {σ : oSg} {Q : Option oV → (Nat → oC) → Prop} : oE d 15 15 [l0, l1] (.inl y :: .inl x :: S) σ Q = if y ≤ x then oE d 15 22 [l0, l1] S σ Q else oE d 15 18 [l0, l1] S σ Q := oCmpGe f_15_15 (by decide)
theorem f_15_18 : oFet 15 18 = some (.iconst 1, 1) := by decide +kernel
theorem s_15_18 {d : Nat} {l0 l1 : oV} {S : List oV} {σ : oSg} {Q : Option oV → (Nat → oC) → Prop} : oE d 15 18 [l0, l1] S σ Q = oE d 15 19 [l0, l1] (.inl (1) :: S) σ Q := pKst f_15_18 (by decide)
theorem f_15_19 : oFet 15 19 = some (.goto 4, 3) := by decide +kernel
theorem s_15_19 {d : Nat} {l0 l1 : oV} {S : List oV} {σ : oSg} {Q : Option oV → (Nat → oC) → Prop} : oE d 15 19 [l0, l1] S σ Q = oE d 15 23 [l0, l1] S σ Q := pGoto f_15_19 (by decide)
theorem f_15_22 : oFet 15 22 = some (.iconst 0, 1) := by decide +kernel
theorem s_15_22 {d : Nat} {l0 l1 : oV} {S : List oV} {σ : oSg} {Q : Option oV → (Nat → oC) → Prop} : oE d 15 22 [l0, l1] S σ Q = oE d 15 23 [l0, l1] (.inl (0) :: S) σ Q := pKst f_15_22 (by decide)
theorem f_15_23 : oFet 15 23 = some (.ireturn, 1) := by decide +kernel
theorem s_15_23 {d : Nat} {l0 l1 : oV} {x : Int} {σ : oSg} {Q : Option oV → (Nat → oC) → Prop} (hx : x = 0 ∨ x = 1) : oE d 15 23 [l0, l1] [.inl x] σ Q = Q (some (.inl x)) (oBld σ) := oZret f_15_23 rt_15 hx
theorem ow_16 : (oMt 16).2.2.2.2.1 = 4 := by decide +kernel
theorem rt_16 : (oMt 16).2.2.2.1 = some .int := by decide +kernel
theorem nl_16 : (oMt 16).2.2.1 = 4 := by decide +kernel
theorem f_16_0 : oFet 16 0 = some (.iload_n 1, 1) := by decide +kernel
theorem s_16_0 {d : Nat} {l0 l2 l3 : oV} {x : Int} {S : List oV} {σ : oSg} {Q : Option oV → (Nat → oC) → Prop} : oE d 16 0 [l0, .inl x, l2, l3] S σ Q = oE d 16 1 [l0, .inl x, l2, l3] (.inl x :: S) σ Q := pLdN (k := 1) f_16_0 rfl rfl rfl
theorem f_16_1 : oFet 16 1 = some (.ifCond .lt 23, 3) := by decide +kernel
theorem s_16_1 {d : Nat} {l0 l1 l2 l3 : oV} {x : Int} {S : List oV} {σ : oSg} {Q : Option oV → (Nat → oC) → Prop} : oE d 16 1 [l0, l1, l2, l3] (.inl x :: S) σ Q = if x < 0 then oE d 16 24 [l0, l1, l2, l3] S σ Q else oE d 16 4 [l0, l1, l2, l3] S σ Q := oIfLt f_16_1 (by decide)
theorem f_16_4 : oFet 16 4 = some (.iload_n 1, 1) := by decide +kernel
theorem s_16_4 {d : Nat} {l0 l2 l3 : oV} {x : Int} {S : List oV} {σ : oSg} {Q : Option oV → (Nat → oC) → Prop} : oE d 16 4 [l0, .inl x, l2, l3] S σ Q = oE d 16 5 [l0, .inl x, l2, l3] (.inl x :: S) σ Q := pLdN (k := 1) f_16_4 rfl rfl rfl
theorem f_16_5 : oFet 16 5 = some (.bipush 7, 2) := by decide +kernel
theorem s_16_5 {d : Nat} {l0 l1 l2 l3 : oV} {S : List oV} {σ : oSg} {Q : Option oV → (Nat → oC) → Prop} : oE d 16 5 [l0, l1, l2, l3] S σ Q = oE d 16 7 [l0, l1, l2, l3] (.inl (7) :: S) σ Q := pBip f_16_5 (by decide)
theorem f_16_7 : oFet 16 7 = some (.if_icmp .ge 17, 3) := by decide +kernel
theorem s_16_7 {d : Nat} {l0 l1 l2 l3 : oV} {x y : Int} {S : List oV} {σ : oSg} {Q : Option oV → (Nat → oC) → Prop} : oE d 16 7 [l0, l1, l2, l3] (.inl y :: .inl x :: S) σ Q = if y ≤ x then oE d 16 24 [l0, l1, l2, l3] S σ Q else oE d 16 10 [l0, l1, l2, l3] S σ Q := oCmpGe f_16_7 (by decide)
theorem f_16_10 : oFet 16 10 = some (.iload_n 2, 1) := by decide +kernel
theorem s_16_10 {d : Nat} {l0 l1 l3 : oV} {x : Int} {S : List oV} {σ : oSg} {Q : Option oV → (Nat → oC) → Prop} : oE d 16 10 [l0, l1, .inl x, l3] S σ Q = oE d 16 11 [l0, l1, .inl x, l3] (.inl x :: S) σ Q := pLdN (k := 2) f_16_10 rfl rfl rfl
theorem f_16_11 : oFet 16 11 = some (.ifCond .lt 13, 3) := by decide +kernel
theorem s_16_11 {d : Nat} {l0 l1 l2 l3 : oV} {x : Int} {S : List oV} {σ : oSg} {Q : Option oV → (Nat → oC) → Prop} : oE d 16 11 [l0, l1, l2, l3] (.inl x :: S) σ Q = if x < 0 then oE d 16 24 [l0, l1, l2, l3] S σ Q else oE d 16 14 [l0, l1, l2, l3] S σ Q := oIfLt f_16_11 (by decide)
theorem f_16_14 : oFet 16 14 = some (.iload_n 2, 1) := by decide +kernel
theorem s_16_14 {d : Nat} {l0 l1 l3 : oV} {x : Int} {S : List oV} {σ : oSg} {Q : Option oV → (Nat → oC) → Prop} : oE d 16 14 [l0, l1, .inl x, l3] S σ Q = oE d 16 15 [l0, l1, .inl x, l3] (.inl x :: S) σ Q := pLdN (k := 2) f_16_14 rfl rfl rfl
theorem f_16_15 : oFet 16 15 = some (.bipush 7, 2) := by decide +kernel
theorem s_16_15 {d : Nat} {l0 l1 l2 l3 : oV} {S : List oV} {σ : oSg} {Q : Option oV → (Nat → oC) → Prop} : oE d 16 15 [l0, l1, l2, l3] S σ Q = oE d 16 17 [l0, l1, l2, l3] (.inl (7) :: S) σ Q := pBip f_16_15 (by decide)
theorem f_16_17 : oFet 16 17 = some (.if_icmp .ge 7, 3) := by decide +kernel
theorem s_16_17 {d : Nat} {l0 l1 l2 l3 : oV} {x y : Int} {S : List oV} {σ : oSg} {Q : Option oV → (Nat → oC) → Prop} : oE d 16 17 [l0, l1, l2, l3] (.inl y :: .inl x :: S) σ Q = if y ≤ x then oE d 16 24 [l0, l1, l2, l3] S σ Q else oE d 16 20 [l0, l1, l2, l3] S σ Q := oCmpGe f_16_17 (by decide)
theorem f_16_20 : oFet 16 20 = some (.iconst 1, 1) := by decide +kernel
theorem s_16_20 {d : Nat} {l0 l1 l2 l3 : oV} {S : List oV} {σ : oSg} {Q : Option oV → (Nat → oC) → Prop} : oE d 16 20 [l0, l1, l2, l3] S σ Q = oE d 16 21 [l0, l1, l2, l3] (.inl (1) :: S) σ Q := pKst f_16_20 (by decide)
theorem f_16_21 : oFet 16 21 = some (.goto 4, 3) := by decide +kernel
theorem s_16_21 {d : Nat} {l0 l1 l2 l3 : oV} {S : List oV} {σ : oSg} {Q : Option oV → (Nat → oC) → Prop} : oE d 16 21 [l0, l1, l2, l3] S σ Q = oE d 16 25 [l0, l1, l2, l3] S σ Q := pGoto f_16_21 (by decide)
theorem f_16_24 : oFet 16 24 = some (.iconst 0, 1) := by decide +kernel
theorem s_16_24 {d : Nat} {l0 l1 l2 l3 : oV} {S : List oV} {σ : oSg} {Q : Option oV → (Nat → oC) → Prop} : oE d 16 24 [l0, l1, l2, l3] S σ Q = oE d 16 25 [l0, l1, l2, l3] (.inl (0) :: S) σ Q := pKst f_16_24 (by decide)
theorem f_16_25 : oFet 16 25 = some (.istore_n 3, 1) := by decide +kernel
theorem s_16_25 {d : Nat} {l0 l1 l2 l3 : oV} {x : Int} {S : List oV} {σ : oSg} {Q : Option oV → (Nat → oC) → Prop} (c3 : oCat l3 = 1) (c2 : oCat l2 = 1)  : oE d 16 25 [l0, l1, l2, l3] (.inl x :: S) σ Q = oE d 16 26 [l0, l1, l2, .inl x] S σ Q := pSt (i := 3) f_16_25 rfl rfl (show (3 : Nat) < 4 by decide) (oC1n c2) (oC1n c3) rfl
theorem f_16_26 : oFet 16 26 = some (.iload_n 3, 1) := by decide +kernel
theorem s_16_26 {d : Nat} {l0 l1 l2 : oV} {x : Int} {S : List oV} {σ : oSg} {Q : Option oV → (Nat → oC) → Prop} : oE d 16 26 [l0, l1, l2, .inl x] S σ Q = oE d 16 27 [l0, l1, l2, .inl x] (.inl x :: S) σ Q := pLdN (k := 3) f_16_26 rfl rfl rfl
theorem f_16_27 : oFet 16 27 = some (.ifCond .eq 17, 3) := by decide +kernel
theorem s_16_27 {d : Nat} {l0 l1 l2 l3 : oV} {x : Int} {S : List oV} {σ : oSg} {Q : Option oV → (Nat → oC) → Prop} : oE d 16 27 [l0, l1, l2, l3] (.inl x :: S) σ Q = if x = 0 then oE d 16 44 [l0, l1, l2, l3] S σ Q else oE d 16 30 [l0, l1, l2, l3] S σ Q := oIfEq f_16_27 (by decide)
theorem f_16_30 : oFet 16 30 = some (.aload_n 0, 1) := by decide +kernel
theorem s_16_30 {d : Nat} {l1 l2 l3 : oV} {a : Nat} {S : List oV} {σ : oSg} {Q : Option oV → (Nat → oC) → Prop} : oE d 16 30 [.inr (.inr (.inl a)), l1, l2, l3] S σ Q = oE d 16 31 [.inr (.inr (.inl a)), l1, l2, l3] (.inr (.inr (.inl a)) :: S) σ Q := pLdN (k := 0) f_16_30 rfl rfl rfl
theorem f_16_31 : oFet 16 31 = some (.getfield 9, 3) := by decide +kernel
theorem s_16_31 {d : Nat} {l0 l1 l2 l3 : oV} {a : Nat} {S : List oV} {σ : oSg} {Q : Option oV → (Nat → oC) → Prop} (hk : oKd a = some 4) : oE d 16 31 [l0, l1, l2, l3] (.inr (.inr (.inl a)) :: S) σ Q = oE d 16 34 [l0, l1, l2, l3] (.inr (.inr (.inl (oRf a 1))) :: S) σ Q := pGfR f_16_31 ow_16 fl_4_9 rfl (by decide) hk
theorem f_16_34 : oFet 16 34 = some (.iload_n 1, 1) := by decide +kernel
theorem s_16_34 {d : Nat} {l0 l2 l3 : oV} {x : Int} {S : List oV} {σ : oSg} {Q : Option oV → (Nat → oC) → Prop} : oE d 16 34 [l0, .inl x, l2, l3] S σ Q = oE d 16 35 [l0, .inl x, l2, l3] (.inl x :: S) σ Q := pLdN (k := 1) f_16_34 rfl rfl rfl
theorem f_16_35 : oFet 16 35 = some (.bipush 7, 2) := by decide +kernel
theorem s_16_35 {d : Nat} {l0 l1 l2 l3 : oV} {S : List oV} {σ : oSg} {Q : Option oV → (Nat → oC) → Prop} : oE d 16 35 [l0, l1, l2, l3] S σ Q = oE d 16 37 [l0, l1, l2, l3] (.inl (7) :: S) σ Q := pBip f_16_35 (by decide)
theorem f_16_37 : oFet 16 37 = some (.imul, 1) := by decide +kernel
theorem s_16_37 {d : Nat} {l0 l1 l2 l3 : oV} {x y : Int} {S : List oV} {σ : oSg} {Q : Option oV → (Nat → oC) → Prop} : oE d 16 37 [l0, l1, l2, l3] (.inl y :: .inl x :: S) σ Q = oE d 16 38 [l0, l1, l2, l3] (.inl (oMul x y) :: S) σ Q := oS3 f_16_37 rfl rfl rfl
theorem f_16_38 : oFet 16 38 = some (.iload_n 2, 1) := by decide +kernel
theorem s_16_38 {d : Nat} {l0 l1 l3 : oV} {x : Int} {S : List oV} {σ : oSg} {Q : Option oV → (Nat → oC) → Prop} : oE d 16 38 [l0, l1, .inl x, l3] S σ Q = oE d 16 39 [l0, l1, .inl x, l3] (.inl x :: S) σ Q := pLdN (k := 2) f_16_38 rfl rfl rfl
theorem f_16_39 : oFet 16 39 = some (.iadd, 1) := by decide +kernel
theorem s_16_39 {d : Nat} {l0 l1 l2 l3 : oV} {x y : Int} {S : List oV} {σ : oSg} {Q : Option oV → (Nat → oC) → Prop} : oE d 16 39 [l0, l1, l2, l3] (.inl y :: .inl x :: S) σ Q = oE d 16 40 [l0, l1, l2, l3] (.inl (oAdd x y) :: S) σ Q := oS3 f_16_39 rfl rfl rfl
theorem f_16_40 : oFet 16 40 = some (.iaload, 1) := by decide +kernel
theorem s_16_40 {d : Nat} {l0 l1 l2 l3 : oV} {a : Nat} {i : Int} {S : List oV} {σ : oSg} {Q : Option oV → (Nat → oC) → Prop} (hk : oAk a = some 0) (h0 : 0 ≤ i) (h1 : i < (oLn a : Int)) : oE d 16 40 [l0, l1, l2, l3] (.inl i :: .inr (.inr (.inl a)) :: S) σ Q = oE d 16 41 [l0, l1, l2, l3] (.inl (σ.2 a i.toNat) :: S) σ Q := oIal f_16_40 hk h0 h1
theorem f_16_41 : oFet 16 41 = some (.goto 4, 3) := by decide +kernel
theorem s_16_41 {d : Nat} {l0 l1 l2 l3 : oV} {S : List oV} {σ : oSg} {Q : Option oV → (Nat → oC) → Prop} : oE d 16 41 [l0, l1, l2, l3] S σ Q = oE d 16 45 [l0, l1, l2, l3] S σ Q := pGoto f_16_41 (by decide)
theorem f_16_44 : oFet 16 44 = some (.iconst 0, 1) := by decide +kernel
theorem s_16_44 {d : Nat} {l0 l1 l2 l3 : oV} {S : List oV} {σ : oSg} {Q : Option oV → (Nat → oC) → Prop} : oE d 16 44 [l0, l1, l2, l3] S σ Q = oE d 16 45 [l0, l1, l2, l3] (.inl (0) :: S) σ Q := pKst f_16_44 (by decide)
theorem f_16_45 : oFet 16 45 = some (.ireturn, 1) := by decide +kernel
theorem s_16_45 {d : Nat} {l0 l1 l2 l3 : oV} {x : Int} {σ : oSg} {Q : Option oV → (Nat → oC) → Prop} : oE d 16 45 [l0, l1, l2, l3] [.inl x] σ Q = Q (some (.inl x)) (oBld σ) := oIret f_16_45 rt_16
theorem ow_17 : (oMt 17).2.2.2.2.1 = 4 := by decide +kernel
theorem rt_17 : (oMt 17).2.2.2.1 = none := by decide +kernel
theorem nl_17 : (oMt 17).2.2.1 = 4 := by decide +kernel
theorem f_17_0 : oFet 17 0 = some (.aload_n 0, 1) := by decide +kernel
theorem s_17_0 {d : Nat} {l1 l2 l3 : oV} {a : Nat} {S : List oV} {σ : oSg} {Q : Option oV → (Nat → oC) → Prop} : oE d 17 0 [.inr (.inr (.inl a)), l1, l2, l3] S σ Q = oE d 17 1 [.inr (.inr (.inl a)), l1, l2, l3] (.inr (.inr (.inl a)) :: S) σ Q := pLdN (k := 0) f_17_0 rfl rfl rfl
theorem f_17_1 : oFet 17 1 = some (.iload_n 1, 1) := by decide +kernel
theorem s_17_1 {d : Nat} {l0 l2 l3 : oV} {x : Int} {S : List oV} {σ : oSg} {Q : Option oV → (Nat → oC) → Prop} : oE d 17 1 [l0, .inl x, l2, l3] S σ Q = oE d 17 2 [l0, .inl x, l2, l3] (.inl x :: S) σ Q := pLdN (k := 1) f_17_1 rfl rfl rfl
theorem f_17_2 : oFet 17 2 = some (.iload_n 2, 1) := by decide +kernel
theorem s_17_2 {d : Nat} {l0 l1 l3 : oV} {x : Int} {S : List oV} {σ : oSg} {Q : Option oV → (Nat → oC) → Prop} : oE d 17 2 [l0, l1, .inl x, l3] S σ Q = oE d 17 3 [l0, l1, .inl x, l3] (.inl x :: S) σ Q := pLdN (k := 2) f_17_2 rfl rfl rfl
theorem f_17_3 : oFet 17 3 = some (.invokevirtual 27, 3) := by decide +kernel
theorem c_17_3 {d : Nat} {l0 l1 l2 l3 : oV} {x0 x1 : oV} {a : Nat} {v : Option oV} {τ : oSg} {S : List oV} {σ : oSg} {Q : Option oV → (Nat → oC) → Prop} (hm : oMi d 14 [.inr (.inr (.inl a)), x0, x1] σ v τ) (hk : oKd a = some 4) (hs : oSmall S = true) : oE d 17 3 [l0, l1, l2, l3] (x1 :: x0 :: .inr (.inr (.inl a)) :: S) σ Q = oE d 17 6 [l0, l1, l2, l3] (v.toList ++ S) τ Q := pCallV f_17_3 ow_17 lk_4_27 mt_14 rfl rfl rfl hk hs hm
theorem f_17_6 : oFet 17 6 = some (.ifCond .eq 27, 3) := by decide +kernel
theorem s_17_6 {d : Nat} {l0 l1 l2 l3 : oV} {x : Int} {S : List oV} {σ : oSg} {Q : Option oV → (Nat → oC) → Prop} : oE d 17 6 [l0, l1, l2, l3] (.inl x :: S) σ Q = if x = 0 then oE d 17 33 [l0, l1, l2, l3] S σ Q else oE d 17 9 [l0, l1, l2, l3] S σ Q := oIfEq f_17_6 (by decide)
theorem f_17_9 : oFet 17 9 = some (.aload_n 0, 1) := by decide +kernel
theorem s_17_9 {d : Nat} {l1 l2 l3 : oV} {a : Nat} {S : List oV} {σ : oSg} {Q : Option oV → (Nat → oC) → Prop} : oE d 17 9 [.inr (.inr (.inl a)), l1, l2, l3] S σ Q = oE d 17 10 [.inr (.inr (.inl a)), l1, l2, l3] (.inr (.inr (.inl a)) :: S) σ Q := pLdN (k := 0) f_17_9 rfl rfl rfl
theorem f_17_10 : oFet 17 10 = some (.getfield 9, 3) := by decide +kernel
theorem s_17_10 {d : Nat} {l0 l1 l2 l3 : oV} {a : Nat} {S : List oV} {σ : oSg} {Q : Option oV → (Nat → oC) → Prop} (hk : oKd a = some 4) : oE d 17 10 [l0, l1, l2, l3] (.inr (.inr (.inl a)) :: S) σ Q = oE d 17 13 [l0, l1, l2, l3] (.inr (.inr (.inl (oRf a 1))) :: S) σ Q := pGfR f_17_10 ow_17 fl_4_9 rfl (by decide) hk
theorem f_17_13 : oFet 17 13 = some (.iload_n 1, 1) := by decide +kernel
theorem s_17_13 {d : Nat} {l0 l2 l3 : oV} {x : Int} {S : List oV} {σ : oSg} {Q : Option oV → (Nat → oC) → Prop} : oE d 17 13 [l0, .inl x, l2, l3] S σ Q = oE d 17 14 [l0, .inl x, l2, l3] (.inl x :: S) σ Q := pLdN (k := 1) f_17_13 rfl rfl rfl
theorem f_17_14 : oFet 17 14 = some (.bipush 7, 2) := by decide +kernel
theorem s_17_14 {d : Nat} {l0 l1 l2 l3 : oV} {S : List oV} {σ : oSg} {Q : Option oV → (Nat → oC) → Prop} : oE d 17 14 [l0, l1, l2, l3] S σ Q = oE d 17 16 [l0, l1, l2, l3] (.inl (7) :: S) σ Q := pBip f_17_14 (by decide)
theorem f_17_16 : oFet 17 16 = some (.imul, 1) := by decide +kernel
theorem s_17_16 {d : Nat} {l0 l1 l2 l3 : oV} {x y : Int} {S : List oV} {σ : oSg} {Q : Option oV → (Nat → oC) → Prop} : oE d 17 16 [l0, l1, l2, l3] (.inl y :: .inl x :: S) σ Q = oE d 17 17 [l0, l1, l2, l3] (.inl (oMul x y) :: S) σ Q := oS3 f_17_16 rfl rfl rfl
theorem f_17_17 : oFet 17 17 = some (.iload_n 2, 1) := by decide +kernel
theorem s_17_17 {d : Nat} {l0 l1 l3 : oV} {x : Int} {S : List oV} {σ : oSg} {Q : Option oV → (Nat → oC) → Prop} : oE d 17 17 [l0, l1, .inl x, l3] S σ Q = oE d 17 18 [l0, l1, .inl x, l3] (.inl x :: S) σ Q := pLdN (k := 2) f_17_17 rfl rfl rfl
theorem f_17_18 : oFet 17 18 = some (.iadd, 1) := by decide +kernel
theorem s_17_18 {d : Nat} {l0 l1 l2 l3 : oV} {x y : Int} {S : List oV} {σ : oSg} {Q : Option oV → (Nat → oC) → Prop} : oE d 17 18 [l0, l1, l2, l3] (.inl y :: .inl x :: S) σ Q = oE d 17 19 [l0, l1, l2, l3] (.inl (oAdd x y) :: S) σ Q := oS3 f_17_18 rfl rfl rfl
theorem f_17_19 : oFet 17 19 = some (.iload_n 3, 1) := by decide +kernel
theorem s_17_19 {d : Nat} {l0 l1 l2 : oV} {x : Int} {S : List oV} {σ : oSg} {Q : Option oV → (Nat → oC) → Prop} : oE d 17 19 [l0, l1, l2, .inl x] S σ Q = oE d 17 20 [l0, l1, l2, .inl x] (.inl x :: S) σ Q := pLdN (k := 3) f_17_19 rfl rfl rfl
theorem f_17_20 : oFet 17 20 = some (.iastore, 1) := by decide +kernel
theorem s_17_20 {d : Nat} {l0 l1 l2 l3 : oV} {a : Nat} {i v : Int} {S : List oV} {σ : oSg} {Q : Option oV → (Nat → oC) → Prop} (hk : oAk a = some 0) (h0 : 0 ≤ i) (h1 : i < (oLn a : Int)) : oE d 17 20 [l0, l1, l2, l3] (.inl v :: .inl i :: .inr (.inr (.inl a)) :: S) σ Q = oE d 17 21 [l0, l1, l2, l3] S (oSA σ a i.toNat v) Q := oIas f_17_20 hk h0 h1
theorem f_17_21 : oFet 17 21 = some (.aload_n 0, 1) := by decide +kernel
theorem s_17_21 {d : Nat} {l1 l2 l3 : oV} {a : Nat} {S : List oV} {σ : oSg} {Q : Option oV → (Nat → oC) → Prop} : oE d 17 21 [.inr (.inr (.inl a)), l1, l2, l3] S σ Q = oE d 17 22 [.inr (.inr (.inl a)), l1, l2, l3] (.inr (.inr (.inl a)) :: S) σ Q := pLdN (k := 0) f_17_21 rfl rfl rfl
theorem f_17_22 : oFet 17 22 = some (.getfield 9, 3) := by decide +kernel
theorem s_17_22 {d : Nat} {l0 l1 l2 l3 : oV} {a : Nat} {S : List oV} {σ : oSg} {Q : Option oV → (Nat → oC) → Prop} (hk : oKd a = some 4) : oE d 17 22 [l0, l1, l2, l3] (.inr (.inr (.inl a)) :: S) σ Q = oE d 17 25 [l0, l1, l2, l3] (.inr (.inr (.inl (oRf a 1))) :: S) σ Q := pGfR f_17_22 ow_17 fl_4_9 rfl (by decide) hk
theorem f_17_25 : oFet 17 25 = some (.iload_n 2, 1) := by decide +kernel
theorem s_17_25 {d : Nat} {l0 l1 l3 : oV} {x : Int} {S : List oV} {σ : oSg} {Q : Option oV → (Nat → oC) → Prop} : oE d 17 25 [l0, l1, .inl x, l3] S σ Q = oE d 17 26 [l0, l1, .inl x, l3] (.inl x :: S) σ Q := pLdN (k := 2) f_17_25 rfl rfl rfl
theorem f_17_26 : oFet 17 26 = some (.bipush 7, 2) := by decide +kernel
theorem s_17_26 {d : Nat} {l0 l1 l2 l3 : oV} {S : List oV} {σ : oSg} {Q : Option oV → (Nat → oC) → Prop} : oE d 17 26 [l0, l1, l2, l3] S σ Q = oE d 17 28 [l0, l1, l2, l3] (.inl (7) :: S) σ Q := pBip f_17_26 (by decide)
theorem f_17_28 : oFet 17 28 = some (.imul, 1) := by decide +kernel
theorem s_17_28 {d : Nat} {l0 l1 l2 l3 : oV} {x y : Int} {S : List oV} {σ : oSg} {Q : Option oV → (Nat → oC) → Prop} : oE d 17 28 [l0, l1, l2, l3] (.inl y :: .inl x :: S) σ Q = oE d 17 29 [l0, l1, l2, l3] (.inl (oMul x y) :: S) σ Q := oS3 f_17_28 rfl rfl rfl
theorem f_17_29 : oFet 17 29 = some (.iload_n 1, 1) := by decide +kernel
theorem s_17_29 {d : Nat} {l0 l2 l3 : oV} {x : Int} {S : List oV} {σ : oSg} {Q : Option oV → (Nat → oC) → Prop} : oE d 17 29 [l0, .inl x, l2, l3] S σ Q = oE d 17 30 [l0, .inl x, l2, l3] (.inl x :: S) σ Q := pLdN (k := 1) f_17_29 rfl rfl rfl
theorem f_17_30 : oFet 17 30 = some (.iadd, 1) := by decide +kernel
theorem s_17_30 {d : Nat} {l0 l1 l2 l3 : oV} {x y : Int} {S : List oV} {σ : oSg} {Q : Option oV → (Nat → oC) → Prop} : oE d 17 30 [l0, l1, l2, l3] (.inl y :: .inl x :: S) σ Q = oE d 17 31 [l0, l1, l2, l3] (.inl (oAdd x y) :: S) σ Q := oS3 f_17_30 rfl rfl rfl
theorem f_17_31 : oFet 17 31 = some (.iload_n 3, 1) := by decide +kernel
theorem s_17_31 {d : Nat} {l0 l1 l2 : oV} {x : Int} {S : List oV} {σ : oSg} {Q : Option oV → (Nat → oC) → Prop} : oE d 17 31 [l0, l1, l2, .inl x] S σ Q = oE d 17 32 [l0, l1, l2, .inl x] (.inl x :: S) σ Q := pLdN (k := 3) f_17_31 rfl rfl rfl
theorem f_17_32 : oFet 17 32 = some (.iastore, 1) := by decide +kernel
theorem s_17_32 {d : Nat} {l0 l1 l2 l3 : oV} {a : Nat} {i v : Int} {S : List oV} {σ : oSg} {Q : Option oV → (Nat → oC) → Prop} (hk : oAk a = some 0) (h0 : 0 ≤ i) (h1 : i < (oLn a : Int)) : oE d 17 32 [l0, l1, l2, l3] (.inl v :: .inl i :: .inr (.inr (.inl a)) :: S) σ Q = oE d 17 33 [l0, l1, l2, l3] S (oSA σ a i.toNat v) Q := oIas f_17_32 hk h0 h1
theorem f_17_33 : oFet 17 33 = some (.return_, 1) := by decide +kernel
theorem s_17_33 {d : Nat} {l0 l1 l2 l3 : oV} {σ : oSg} {Q : Option oV → (Nat → oC) → Prop} : oE d 17 33 [l0, l1, l2, l3] [] σ Q = Q none (oBld σ) := oVret f_17_33 rt_17
theorem ow_18 : (oMt 18).2.2.2.2.1 = 1 := by decide +kernel
theorem rt_18 : (oMt 18).2.2.2.1 = some .int := by decide +kernel
theorem nl_18 : (oMt 18).2.2.1 = 2 := by decide +kernel
theorem f_18_0 : oFet 18 0 = some (.iload_n 1, 1) := by decide +kernel
theorem s_18_0 {d : Nat} {l0 : oV} {x : Int} {S : List oV} {σ : oSg} {Q : Option oV → (Nat → oC) → Prop} : oE d 18 0 [l0, .inl x] S σ Q = oE d 18 1 [l0, .inl x] (.inl x :: S) σ Q := pLdN (k := 1) f_18_0 rfl rfl rfl
theorem f_18_1 : oFet 18 1 = some (.ifCond .lt 18, 3) := by decide +kernel
theorem s_18_1 {d : Nat} {l0 l1 : oV} {x : Int} {S : List oV} {σ : oSg} {Q : Option oV → (Nat → oC) → Prop} : oE d 18 1 [l0, l1] (.inl x :: S) σ Q = if x < 0 then oE d 18 19 [l0, l1] S σ Q else oE d 18 4 [l0, l1] S σ Q := oIfLt f_18_1 (by decide)
theorem f_18_4 : oFet 18 4 = some (.iload_n 1, 1) := by decide +kernel
theorem s_18_4 {d : Nat} {l0 : oV} {x : Int} {S : List oV} {σ : oSg} {Q : Option oV → (Nat → oC) → Prop} : oE d 18 4 [l0, .inl x] S σ Q = oE d 18 5 [l0, .inl x] (.inl x :: S) σ Q := pLdN (k := 1) f_18_4 rfl rfl rfl
theorem f_18_5 : oFet 18 5 = some (.bipush 7, 2) := by decide +kernel
theorem s_18_5 {d : Nat} {l0 l1 : oV} {S : List oV} {σ : oSg} {Q : Option oV → (Nat → oC) → Prop} : oE d 18 5 [l0, l1] S σ Q = oE d 18 7 [l0, l1] (.inl (7) :: S) σ Q := pBip f_18_5 (by decide)
theorem f_18_7 : oFet 18 7 = some (.if_icmp .ge 12, 3) := by decide +kernel
theorem s_18_7 {d : Nat} {l0 l1 : oV} {x y : Int} {S : List oV} {σ : oSg} {Q : Option oV → (Nat → oC) → Prop} : oE d 18 7 [l0, l1] (.inl y :: .inl x :: S) σ Q = if y ≤ x then oE d 18 19 [l0, l1] S σ Q else oE d 18 10 [l0, l1] S σ Q := oCmpGe f_18_7 (by decide)
theorem f_18_10 : oFet 18 10 = some (.aload_n 0, 1) := by decide +kernel
theorem s_18_10 {d : Nat} {l1 : oV} {a : Nat} {S : List oV} {σ : oSg} {Q : Option oV → (Nat → oC) → Prop} : oE d 18 10 [.inr (.inr (.inl a)), l1] S σ Q = oE d 18 11 [.inr (.inr (.inl a)), l1] (.inr (.inr (.inl a)) :: S) σ Q := pLdN (k := 0) f_18_10 rfl rfl rfl
theorem f_18_11 : oFet 18 11 = some (.getfield 18, 3) := by decide +kernel
theorem s_18_11 {d : Nat} {l0 l1 : oV} {a : Nat} {S : List oV} {σ : oSg} {Q : Option oV → (Nat → oC) → Prop} (hk : oKd a = some 1) : oE d 18 11 [l0, l1] (.inr (.inr (.inl a)) :: S) σ Q = oE d 18 14 [l0, l1] (.inr (.inr (.inl (oRf a 1))) :: S) σ Q := pGfR f_18_11 ow_18 fl_1_18 rfl (by decide) hk
theorem f_18_14 : oFet 18 14 = some (.iload_n 1, 1) := by decide +kernel
theorem s_18_14 {d : Nat} {l0 : oV} {x : Int} {S : List oV} {σ : oSg} {Q : Option oV → (Nat → oC) → Prop} : oE d 18 14 [l0, .inl x] S σ Q = oE d 18 15 [l0, .inl x] (.inl x :: S) σ Q := pLdN (k := 1) f_18_14 rfl rfl rfl
theorem f_18_15 : oFet 18 15 = some (.iaload, 1) := by decide +kernel
theorem s_18_15 {d : Nat} {l0 l1 : oV} {a : Nat} {i : Int} {S : List oV} {σ : oSg} {Q : Option oV → (Nat → oC) → Prop} (hk : oAk a = some 0) (h0 : 0 ≤ i) (h1 : i < (oLn a : Int)) : oE d 18 15 [l0, l1] (.inl i :: .inr (.inr (.inl a)) :: S) σ Q = oE d 18 16 [l0, l1] (.inl (σ.2 a i.toNat) :: S) σ Q := oIal f_18_15 hk h0 h1
theorem f_18_16 : oFet 18 16 = some (.goto 4, 3) := by decide +kernel
theorem s_18_16 {d : Nat} {l0 l1 : oV} {S : List oV} {σ : oSg} {Q : Option oV → (Nat → oC) → Prop} : oE d 18 16 [l0, l1] S σ Q = oE d 18 20 [l0, l1] S σ Q := pGoto f_18_16 (by decide)
theorem f_18_19 : oFet 18 19 = some (.iconst (-1), 1) := by decide +kernel
theorem s_18_19 {d : Nat} {l0 l1 : oV} {S : List oV} {σ : oSg} {Q : Option oV → (Nat → oC) → Prop} : oE d 18 19 [l0, l1] S σ Q = oE d 18 20 [l0, l1] (.inl (-1) :: S) σ Q := pKst f_18_19 (by decide)
theorem f_18_20 : oFet 18 20 = some (.ireturn, 1) := by decide +kernel
theorem s_18_20 {d : Nat} {l0 l1 : oV} {x : Int} {σ : oSg} {Q : Option oV → (Nat → oC) → Prop} : oE d 18 20 [l0, l1] [.inl x] σ Q = Q (some (.inl x)) (oBld σ) := oIret f_18_20 rt_18
theorem ow_19 : (oMt 19).2.2.2.2.1 = 1 := by decide +kernel
theorem rt_19 : (oMt 19).2.2.2.1 = none := by decide +kernel
theorem nl_19 : (oMt 19).2.2.1 = 3 := by decide +kernel
theorem f_19_0 : oFet 19 0 = some (.aload_n 0, 1) := by decide +kernel
theorem s_19_0 {d : Nat} {l1 l2 : oV} {a : Nat} {S : List oV} {σ : oSg} {Q : Option oV → (Nat → oC) → Prop} : oE d 19 0 [.inr (.inr (.inl a)), l1, l2] S σ Q = oE d 19 1 [.inr (.inr (.inl a)), l1, l2] (.inr (.inr (.inl a)) :: S) σ Q := pLdN (k := 0) f_19_0 rfl rfl rfl
theorem f_19_1 : oFet 19 1 = some (.iload_n 1, 1) := by decide +kernel
theorem s_19_1 {d : Nat} {l0 l2 : oV} {x : Int} {S : List oV} {σ : oSg} {Q : Option oV → (Nat → oC) → Prop} : oE d 19 1 [l0, .inl x, l2] S σ Q = oE d 19 2 [l0, .inl x, l2] (.inl x :: S) σ Q := pLdN (k := 1) f_19_1 rfl rfl rfl
theorem f_19_2 : oFet 19 2 = some (.invokevirtual 49, 3) := by decide +kernel
theorem c_19_2 {d : Nat} {l0 l1 l2 : oV} {x0 : oV} {a : Nat} {v : Option oV} {τ : oSg} {S : List oV} {σ : oSg} {Q : Option oV → (Nat → oC) → Prop} (hm : oMi d 18 [.inr (.inr (.inl a)), x0] σ v τ) (hk : oKd a = some 1) (hs : oSmall S = true) : oE d 19 2 [l0, l1, l2] (x0 :: .inr (.inr (.inl a)) :: S) σ Q = oE d 19 5 [l0, l1, l2] (v.toList ++ S) τ Q := pCallV f_19_2 ow_19 lk_1_49 mt_18 rfl rfl rfl hk hs hm
theorem f_19_5 : oFet 19 5 = some (.istore_n 2, 1) := by decide +kernel
theorem s_19_5 {d : Nat} {l0 l1 l2 : oV} {x : Int} {S : List oV} {σ : oSg} {Q : Option oV → (Nat → oC) → Prop} (c2 : oCat l2 = 1) (c1 : oCat l1 = 1)  : oE d 19 5 [l0, l1, l2] (.inl x :: S) σ Q = oE d 19 6 [l0, l1, .inl x] S σ Q := pSt (i := 2) f_19_5 rfl rfl (show (2 : Nat) < 3 by decide) (oC1n c1) (oC1n c2) rfl
theorem f_19_6 : oFet 19 6 = some (.aload_n 0, 1) := by decide +kernel
theorem s_19_6 {d : Nat} {l1 l2 : oV} {a : Nat} {S : List oV} {σ : oSg} {Q : Option oV → (Nat → oC) → Prop} : oE d 19 6 [.inr (.inr (.inl a)), l1, l2] S σ Q = oE d 19 7 [.inr (.inr (.inl a)), l1, l2] (.inr (.inr (.inl a)) :: S) σ Q := pLdN (k := 0) f_19_6 rfl rfl rfl
theorem f_19_7 : oFet 19 7 = some (.getfield 12, 3) := by decide +kernel
theorem s_19_7 {d : Nat} {l0 l1 l2 : oV} {a : Nat} {S : List oV} {σ : oSg} {Q : Option oV → (Nat → oC) → Prop} (hk : oKd a = some 1) : oE d 19 7 [l0, l1, l2] (.inr (.inr (.inl a)) :: S) σ Q = oE d 19 10 [l0, l1, l2] (.inr (.inr (.inl (oRf a 0))) :: S) σ Q := pGfR f_19_7 ow_19 fl_1_12 rfl (by decide) hk
theorem f_19_10 : oFet 19 10 = some (.iload_n 1, 1) := by decide +kernel
theorem s_19_10 {d : Nat} {l0 l2 : oV} {x : Int} {S : List oV} {σ : oSg} {Q : Option oV → (Nat → oC) → Prop} : oE d 19 10 [l0, .inl x, l2] S σ Q = oE d 19 11 [l0, .inl x, l2] (.inl x :: S) σ Q := pLdN (k := 1) f_19_10 rfl rfl rfl
theorem f_19_11 : oFet 19 11 = some (.invokevirtual 57, 3) := by decide +kernel
theorem c_19_11 {d : Nat} {l0 l1 l2 : oV} {x0 : oV} {a : Nat} {v : Option oV} {τ : oSg} {S : List oV} {σ : oSg} {Q : Option oV → (Nat → oC) → Prop} (hm : oMi d 15 [.inr (.inr (.inl a)), x0] σ v τ) (hk : oKd a = some 4) (hs : oSmall S = true) : oE d 19 11 [l0, l1, l2] (x0 :: .inr (.inr (.inl a)) :: S) σ Q = oE d 19 14 [l0, l1, l2] (v.toList ++ S) τ Q := pCallV f_19_11 ow_19 lk_1_57 mt_15 rfl rfl rfl hk hs hm
theorem f_19_14 : oFet 19 14 = some (.ifCond .eq 28, 3) := by decide +kernel
theorem s_19_14 {d : Nat} {l0 l1 l2 : oV} {x : Int} {S : List oV} {σ : oSg} {Q : Option oV → (Nat → oC) → Prop} : oE d 19 14 [l0, l1, l2] (.inl x :: S) σ Q = if x = 0 then oE d 19 42 [l0, l1, l2] S σ Q else oE d 19 17 [l0, l1, l2] S σ Q := oIfEq f_19_14 (by decide)
theorem f_19_17 : oFet 19 17 = some (.aload_n 0, 1) := by decide +kernel
theorem s_19_17 {d : Nat} {l1 l2 : oV} {a : Nat} {S : List oV} {σ : oSg} {Q : Option oV → (Nat → oC) → Prop} : oE d 19 17 [.inr (.inr (.inl a)), l1, l2] S σ Q = oE d 19 18 [.inr (.inr (.inl a)), l1, l2] (.inr (.inr (.inl a)) :: S) σ Q := pLdN (k := 0) f_19_17 rfl rfl rfl
theorem f_19_18 : oFet 19 18 = some (.getfield 12, 3) := by decide +kernel
theorem s_19_18 {d : Nat} {l0 l1 l2 : oV} {a : Nat} {S : List oV} {σ : oSg} {Q : Option oV → (Nat → oC) → Prop} (hk : oKd a = some 1) : oE d 19 18 [l0, l1, l2] (.inr (.inr (.inl a)) :: S) σ Q = oE d 19 21 [l0, l1, l2] (.inr (.inr (.inl (oRf a 0))) :: S) σ Q := pGfR f_19_18 ow_19 fl_1_12 rfl (by decide) hk
theorem f_19_21 : oFet 19 21 = some (.iload_n 2, 1) := by decide +kernel
theorem s_19_21 {d : Nat} {l0 l1 : oV} {x : Int} {S : List oV} {σ : oSg} {Q : Option oV → (Nat → oC) → Prop} : oE d 19 21 [l0, l1, .inl x] S σ Q = oE d 19 22 [l0, l1, .inl x] (.inl x :: S) σ Q := pLdN (k := 2) f_19_21 rfl rfl rfl
theorem f_19_22 : oFet 19 22 = some (.invokevirtual 57, 3) := by decide +kernel
theorem c_19_22 {d : Nat} {l0 l1 l2 : oV} {x0 : oV} {a : Nat} {v : Option oV} {τ : oSg} {S : List oV} {σ : oSg} {Q : Option oV → (Nat → oC) → Prop} (hm : oMi d 15 [.inr (.inr (.inl a)), x0] σ v τ) (hk : oKd a = some 4) (hs : oSmall S = true) : oE d 19 22 [l0, l1, l2] (x0 :: .inr (.inr (.inl a)) :: S) σ Q = oE d 19 25 [l0, l1, l2] (v.toList ++ S) τ Q := pCallV f_19_22 ow_19 lk_1_57 mt_15 rfl rfl rfl hk hs hm
theorem f_19_25 : oFet 19 25 = some (.ifCond .eq 17, 3) := by decide +kernel
theorem s_19_25 {d : Nat} {l0 l1 l2 : oV} {x : Int} {S : List oV} {σ : oSg} {Q : Option oV → (Nat → oC) → Prop} : oE d 19 25 [l0, l1, l2] (.inl x :: S) σ Q = if x = 0 then oE d 19 42 [l0, l1, l2] S σ Q else oE d 19 28 [l0, l1, l2] S σ Q := oIfEq f_19_25 (by decide)
theorem f_19_28 : oFet 19 28 = some (.aload_n 0, 1) := by decide +kernel
theorem s_19_28 {d : Nat} {l1 l2 : oV} {a : Nat} {S : List oV} {σ : oSg} {Q : Option oV → (Nat → oC) → Prop} : oE d 19 28 [.inr (.inr (.inl a)), l1, l2] S σ Q = oE d 19 29 [.inr (.inr (.inl a)), l1, l2] (.inr (.inr (.inl a)) :: S) σ Q := pLdN (k := 0) f_19_28 rfl rfl rfl
theorem f_19_29 : oFet 19 29 = some (.getfield 18, 3) := by decide +kernel
theorem s_19_29 {d : Nat} {l0 l1 l2 : oV} {a : Nat} {S : List oV} {σ : oSg} {Q : Option oV → (Nat → oC) → Prop} (hk : oKd a = some 1) : oE d 19 29 [l0, l1, l2] (.inr (.inr (.inl a)) :: S) σ Q = oE d 19 32 [l0, l1, l2] (.inr (.inr (.inl (oRf a 1))) :: S) σ Q := pGfR f_19_29 ow_19 fl_1_18 rfl (by decide) hk
theorem f_19_32 : oFet 19 32 = some (.iload_n 1, 1) := by decide +kernel
theorem s_19_32 {d : Nat} {l0 l2 : oV} {x : Int} {S : List oV} {σ : oSg} {Q : Option oV → (Nat → oC) → Prop} : oE d 19 32 [l0, .inl x, l2] S σ Q = oE d 19 33 [l0, .inl x, l2] (.inl x :: S) σ Q := pLdN (k := 1) f_19_32 rfl rfl rfl
theorem f_19_33 : oFet 19 33 = some (.iconst (-1), 1) := by decide +kernel
theorem s_19_33 {d : Nat} {l0 l1 l2 : oV} {S : List oV} {σ : oSg} {Q : Option oV → (Nat → oC) → Prop} : oE d 19 33 [l0, l1, l2] S σ Q = oE d 19 34 [l0, l1, l2] (.inl (-1) :: S) σ Q := pKst f_19_33 (by decide)
theorem f_19_34 : oFet 19 34 = some (.iastore, 1) := by decide +kernel
theorem s_19_34 {d : Nat} {l0 l1 l2 : oV} {a : Nat} {i v : Int} {S : List oV} {σ : oSg} {Q : Option oV → (Nat → oC) → Prop} (hk : oAk a = some 0) (h0 : 0 ≤ i) (h1 : i < (oLn a : Int)) : oE d 19 34 [l0, l1, l2] (.inl v :: .inl i :: .inr (.inr (.inl a)) :: S) σ Q = oE d 19 35 [l0, l1, l2] S (oSA σ a i.toNat v) Q := oIas f_19_34 hk h0 h1
theorem f_19_35 : oFet 19 35 = some (.aload_n 0, 1) := by decide +kernel
theorem s_19_35 {d : Nat} {l1 l2 : oV} {a : Nat} {S : List oV} {σ : oSg} {Q : Option oV → (Nat → oC) → Prop} : oE d 19 35 [.inr (.inr (.inl a)), l1, l2] S σ Q = oE d 19 36 [.inr (.inr (.inl a)), l1, l2] (.inr (.inr (.inl a)) :: S) σ Q := pLdN (k := 0) f_19_35 rfl rfl rfl
theorem f_19_36 : oFet 19 36 = some (.getfield 18, 3) := by decide +kernel
theorem s_19_36 {d : Nat} {l0 l1 l2 : oV} {a : Nat} {S : List oV} {σ : oSg} {Q : Option oV → (Nat → oC) → Prop} (hk : oKd a = some 1) : oE d 19 36 [l0, l1, l2] (.inr (.inr (.inl a)) :: S) σ Q = oE d 19 39 [l0, l1, l2] (.inr (.inr (.inl (oRf a 1))) :: S) σ Q := pGfR f_19_36 ow_19 fl_1_18 rfl (by decide) hk
theorem f_19_39 : oFet 19 39 = some (.iload_n 2, 1) := by decide +kernel
theorem s_19_39 {d : Nat} {l0 l1 : oV} {x : Int} {S : List oV} {σ : oSg} {Q : Option oV → (Nat → oC) → Prop} : oE d 19 39 [l0, l1, .inl x] S σ Q = oE d 19 40 [l0, l1, .inl x] (.inl x :: S) σ Q := pLdN (k := 2) f_19_39 rfl rfl rfl
theorem f_19_40 : oFet 19 40 = some (.iconst (-1), 1) := by decide +kernel
theorem s_19_40 {d : Nat} {l0 l1 l2 : oV} {S : List oV} {σ : oSg} {Q : Option oV → (Nat → oC) → Prop} : oE d 19 40 [l0, l1, l2] S σ Q = oE d 19 41 [l0, l1, l2] (.inl (-1) :: S) σ Q := pKst f_19_40 (by decide)
theorem f_19_41 : oFet 19 41 = some (.iastore, 1) := by decide +kernel
theorem s_19_41 {d : Nat} {l0 l1 l2 : oV} {a : Nat} {i v : Int} {S : List oV} {σ : oSg} {Q : Option oV → (Nat → oC) → Prop} (hk : oAk a = some 0) (h0 : 0 ≤ i) (h1 : i < (oLn a : Int)) : oE d 19 41 [l0, l1, l2] (.inl v :: .inl i :: .inr (.inr (.inl a)) :: S) σ Q = oE d 19 42 [l0, l1, l2] S (oSA σ a i.toNat v) Q := oIas f_19_41 hk h0 h1
theorem f_19_42 : oFet 19 42 = some (.return_, 1) := by decide +kernel
theorem s_19_42 {d : Nat} {l0 l1 l2 : oV} {σ : oSg} {Q : Option oV → (Nat → oC) → Prop} : oE d 19 42 [l0, l1, l2] [] σ Q = Q none (oBld σ) := oVret f_19_42 rt_19
theorem ow_20 : (oMt 20).2.2.2.2.1 = 10 := by decide +kernel
theorem rt_20 : (oMt 20).2.2.2.1 = some .int := by decide +kernel
theorem nl_20 : (oMt 20).2.2.1 = 3 := by decide +kernel
theorem f_20_0 : oFet 20 0 = some (.aload_n 0, 1) := by decide +kernel
theorem s_20_0 {d : Nat} {l1 l2 : oV} {a : Nat} {S : List oV} {σ : oSg} {Q : Option oV → (Nat → oC) → Prop} : oE d 20 0 [.inr (.inr (.inl a)), l1, l2] S σ Q = oE d 20 1 [.inr (.inr (.inl a)), l1, l2] (.inr (.inr (.inl a)) :: S) σ Q := pLdN (k := 0) f_20_0 rfl rfl rfl
theorem f_20_1 : oFet 20 1 = some (.getfield 12, 3) := by decide +kernel
theorem s_20_1 {d : Nat} {l0 l1 l2 : oV} {a : Nat} {S : List oV} {σ : oSg} {Q : Option oV → (Nat → oC) → Prop} (hk : oKd a = some 10) : oE d 20 1 [l0, l1, l2] (.inr (.inr (.inl a)) :: S) σ Q = oE d 20 4 [l0, l1, l2] (.inr (.inr (.inl (oRf a 0))) :: S) σ Q := pGfR f_20_1 ow_20 fl_10_12 rfl (by decide) hk
theorem f_20_4 : oFet 20 4 = some (.getfield 73, 3) := by decide +kernel
theorem s_20_4 {d : Nat} {l0 l1 l2 : oV} {a : Nat} {S : List oV} {σ : oSg} {Q : Option oV → (Nat → oC) → Prop} (hk : oKd a = some 1) : oE d 20 4 [l0, l1, l2] (.inr (.inr (.inl a)) :: S) σ Q = oE d 20 7 [l0, l1, l2] (.inr (.inr (.inl (oRf a 0))) :: S) σ Q := pGfR f_20_4 ow_20 fl_10_73 rfl (by decide) hk
theorem f_20_7 : oFet 20 7 = some (.iload_n 1, 1) := by decide +kernel
theorem s_20_7 {d : Nat} {l0 l2 : oV} {x : Int} {S : List oV} {σ : oSg} {Q : Option oV → (Nat → oC) → Prop} : oE d 20 7 [l0, .inl x, l2] S σ Q = oE d 20 8 [l0, .inl x, l2] (.inl x :: S) σ Q := pLdN (k := 1) f_20_7 rfl rfl rfl
theorem f_20_8 : oFet 20 8 = some (.iload_n 2, 1) := by decide +kernel
theorem s_20_8 {d : Nat} {l0 l1 : oV} {x : Int} {S : List oV} {σ : oSg} {Q : Option oV → (Nat → oC) → Prop} : oE d 20 8 [l0, l1, .inl x] S σ Q = oE d 20 9 [l0, l1, .inl x] (.inl x :: S) σ Q := pLdN (k := 2) f_20_8 rfl rfl rfl
theorem f_20_9 : oFet 20 9 = some (.invokevirtual 80, 3) := by decide +kernel
theorem c_20_9 {d : Nat} {l0 l1 l2 : oV} {x0 x1 : oV} {a : Nat} {v : Option oV} {τ : oSg} {S : List oV} {σ : oSg} {Q : Option oV → (Nat → oC) → Prop} (hm : oMi d 14 [.inr (.inr (.inl a)), x0, x1] σ v τ) (hk : oKd a = some 4) (hs : oSmall S = true) : oE d 20 9 [l0, l1, l2] (x1 :: x0 :: .inr (.inr (.inl a)) :: S) σ Q = oE d 20 12 [l0, l1, l2] (v.toList ++ S) τ Q := pCallV f_20_9 ow_20 lk_10_80 mt_14 rfl rfl rfl hk hs hm
theorem f_20_12 : oFet 20 12 = some (.ifCond .eq 18, 3) := by decide +kernel
theorem s_20_12 {d : Nat} {l0 l1 l2 : oV} {x : Int} {S : List oV} {σ : oSg} {Q : Option oV → (Nat → oC) → Prop} : oE d 20 12 [l0, l1, l2] (.inl x :: S) σ Q = if x = 0 then oE d 20 30 [l0, l1, l2] S σ Q else oE d 20 15 [l0, l1, l2] S σ Q := oIfEq f_20_12 (by decide)
theorem f_20_15 : oFet 20 15 = some (.aload_n 0, 1) := by decide +kernel
theorem s_20_15 {d : Nat} {l1 l2 : oV} {a : Nat} {S : List oV} {σ : oSg} {Q : Option oV → (Nat → oC) → Prop} : oE d 20 15 [.inr (.inr (.inl a)), l1, l2] S σ Q = oE d 20 16 [.inr (.inr (.inl a)), l1, l2] (.inr (.inr (.inl a)) :: S) σ Q := pLdN (k := 0) f_20_15 rfl rfl rfl
theorem f_20_16 : oFet 20 16 = some (.getfield 12, 3) := by decide +kernel
theorem s_20_16 {d : Nat} {l0 l1 l2 : oV} {a : Nat} {S : List oV} {σ : oSg} {Q : Option oV → (Nat → oC) → Prop} (hk : oKd a = some 10) : oE d 20 16 [l0, l1, l2] (.inr (.inr (.inl a)) :: S) σ Q = oE d 20 19 [l0, l1, l2] (.inr (.inr (.inl (oRf a 0))) :: S) σ Q := pGfR f_20_16 ow_20 fl_10_12 rfl (by decide) hk
theorem f_20_19 : oFet 20 19 = some (.getfield 73, 3) := by decide +kernel
theorem s_20_19 {d : Nat} {l0 l1 l2 : oV} {a : Nat} {S : List oV} {σ : oSg} {Q : Option oV → (Nat → oC) → Prop} (hk : oKd a = some 1) : oE d 20 19 [l0, l1, l2] (.inr (.inr (.inl a)) :: S) σ Q = oE d 20 22 [l0, l1, l2] (.inr (.inr (.inl (oRf a 0))) :: S) σ Q := pGfR f_20_19 ow_20 fl_10_73 rfl (by decide) hk
theorem f_20_22 : oFet 20 22 = some (.iload_n 1, 1) := by decide +kernel
theorem s_20_22 {d : Nat} {l0 l2 : oV} {x : Int} {S : List oV} {σ : oSg} {Q : Option oV → (Nat → oC) → Prop} : oE d 20 22 [l0, .inl x, l2] S σ Q = oE d 20 23 [l0, .inl x, l2] (.inl x :: S) σ Q := pLdN (k := 1) f_20_22 rfl rfl rfl
theorem f_20_23 : oFet 20 23 = some (.iload_n 2, 1) := by decide +kernel
theorem s_20_23 {d : Nat} {l0 l1 : oV} {x : Int} {S : List oV} {σ : oSg} {Q : Option oV → (Nat → oC) → Prop} : oE d 20 23 [l0, l1, .inl x] S σ Q = oE d 20 24 [l0, l1, .inl x] (.inl x :: S) σ Q := pLdN (k := 2) f_20_23 rfl rfl rfl
theorem f_20_24 : oFet 20 24 = some (.invokevirtual 84, 3) := by decide +kernel
theorem c_20_24 {d : Nat} {l0 l1 l2 : oV} {x0 x1 : oV} {a : Nat} {v : Option oV} {τ : oSg} {S : List oV} {σ : oSg} {Q : Option oV → (Nat → oC) → Prop} (hm : oMi d 16 [.inr (.inr (.inl a)), x0, x1] σ v τ) (hk : oKd a = some 4) (hs : oSmall S = true) : oE d 20 24 [l0, l1, l2] (x1 :: x0 :: .inr (.inr (.inl a)) :: S) σ Q = oE d 20 27 [l0, l1, l2] (v.toList ++ S) τ Q := pCallV f_20_24 ow_20 lk_10_84 mt_16 rfl rfl rfl hk hs hm
theorem f_20_27 : oFet 20 27 = some (.goto 4, 3) := by decide +kernel
theorem s_20_27 {d : Nat} {l0 l1 l2 : oV} {S : List oV} {σ : oSg} {Q : Option oV → (Nat → oC) → Prop} : oE d 20 27 [l0, l1, l2] S σ Q = oE d 20 31 [l0, l1, l2] S σ Q := pGoto f_20_27 (by decide)
theorem f_20_30 : oFet 20 30 = some (.iconst (-1), 1) := by decide +kernel
theorem s_20_30 {d : Nat} {l0 l1 l2 : oV} {S : List oV} {σ : oSg} {Q : Option oV → (Nat → oC) → Prop} : oE d 20 30 [l0, l1, l2] S σ Q = oE d 20 31 [l0, l1, l2] (.inl (-1) :: S) σ Q := pKst f_20_30 (by decide)
theorem f_20_31 : oFet 20 31 = some (.ireturn, 1) := by decide +kernel
theorem s_20_31 {d : Nat} {l0 l1 l2 : oV} {x : Int} {σ : oSg} {Q : Option oV → (Nat → oC) → Prop} : oE d 20 31 [l0, l1, l2] [.inl x] σ Q = Q (some (.inl x)) (oBld σ) := oIret f_20_31 rt_20
theorem ow_21 : (oMt 21).2.2.2.2.1 = 10 := by decide +kernel
theorem rt_21 : (oMt 21).2.2.2.1 = some .int := by decide +kernel
theorem nl_21 : (oMt 21).2.2.1 = 3 := by decide +kernel
theorem f_21_0 : oFet 21 0 = some (.aload_n 0, 1) := by decide +kernel
theorem s_21_0 {d : Nat} {l1 l2 : oV} {a : Nat} {S : List oV} {σ : oSg} {Q : Option oV → (Nat → oC) → Prop} : oE d 21 0 [.inr (.inr (.inl a)), l1, l2] S σ Q = oE d 21 1 [.inr (.inr (.inl a)), l1, l2] (.inr (.inr (.inl a)) :: S) σ Q := pLdN (k := 0) f_21_0 rfl rfl rfl
theorem f_21_1 : oFet 21 1 = some (.getfield 12, 3) := by decide +kernel
theorem s_21_1 {d : Nat} {l0 l1 l2 : oV} {a : Nat} {S : List oV} {σ : oSg} {Q : Option oV → (Nat → oC) → Prop} (hk : oKd a = some 10) : oE d 21 1 [l0, l1, l2] (.inr (.inr (.inl a)) :: S) σ Q = oE d 21 4 [l0, l1, l2] (.inr (.inr (.inl (oRf a 0))) :: S) σ Q := pGfR f_21_1 ow_21 fl_10_12 rfl (by decide) hk
theorem f_21_4 : oFet 21 4 = some (.getfield 73, 3) := by decide +kernel
theorem s_21_4 {d : Nat} {l0 l1 l2 : oV} {a : Nat} {S : List oV} {σ : oSg} {Q : Option oV → (Nat → oC) → Prop} (hk : oKd a = some 1) : oE d 21 4 [l0, l1, l2] (.inr (.inr (.inl a)) :: S) σ Q = oE d 21 7 [l0, l1, l2] (.inr (.inr (.inl (oRf a 0))) :: S) σ Q := pGfR f_21_4 ow_21 fl_10_73 rfl (by decide) hk
theorem f_21_7 : oFet 21 7 = some (.iload_n 1, 1) := by decide +kernel
theorem s_21_7 {d : Nat} {l0 l2 : oV} {x : Int} {S : List oV} {σ : oSg} {Q : Option oV → (Nat → oC) → Prop} : oE d 21 7 [l0, .inl x, l2] S σ Q = oE d 21 8 [l0, .inl x, l2] (.inl x :: S) σ Q := pLdN (k := 1) f_21_7 rfl rfl rfl
theorem f_21_8 : oFet 21 8 = some (.iload_n 2, 1) := by decide +kernel
theorem s_21_8 {d : Nat} {l0 l1 : oV} {x : Int} {S : List oV} {σ : oSg} {Q : Option oV → (Nat → oC) → Prop} : oE d 21 8 [l0, l1, .inl x] S σ Q = oE d 21 9 [l0, l1, .inl x] (.inl x :: S) σ Q := pLdN (k := 2) f_21_8 rfl rfl rfl
theorem f_21_9 : oFet 21 9 = some (.invokevirtual 80, 3) := by decide +kernel
theorem c_21_9 {d : Nat} {l0 l1 l2 : oV} {x0 x1 : oV} {a : Nat} {v : Option oV} {τ : oSg} {S : List oV} {σ : oSg} {Q : Option oV → (Nat → oC) → Prop} (hm : oMi d 14 [.inr (.inr (.inl a)), x0, x1] σ v τ) (hk : oKd a = some 4) (hs : oSmall S = true) : oE d 21 9 [l0, l1, l2] (x1 :: x0 :: .inr (.inr (.inl a)) :: S) σ Q = oE d 21 12 [l0, l1, l2] (v.toList ++ S) τ Q := pCallV f_21_9 ow_21 lk_10_80 mt_14 rfl rfl rfl hk hs hm
theorem f_21_12 : oFet 21 12 = some (.ifCond .ne 5, 3) := by decide +kernel
theorem s_21_12 {d : Nat} {l0 l1 l2 : oV} {x : Int} {S : List oV} {σ : oSg} {Q : Option oV → (Nat → oC) → Prop} : oE d 21 12 [l0, l1, l2] (.inl x :: S) σ Q = if ¬ x = 0 then oE d 21 17 [l0, l1, l2] S σ Q else oE d 21 15 [l0, l1, l2] S σ Q := oIfNe f_21_12 (by decide)
theorem f_21_15 : oFet 21 15 = some (.iconst (-1), 1) := by decide +kernel
theorem s_21_15 {d : Nat} {l0 l1 l2 : oV} {S : List oV} {σ : oSg} {Q : Option oV → (Nat → oC) → Prop} : oE d 21 15 [l0, l1, l2] S σ Q = oE d 21 16 [l0, l1, l2] (.inl (-1) :: S) σ Q := pKst f_21_15 (by decide)
theorem f_21_16 : oFet 21 16 = some (.ireturn, 1) := by decide +kernel
theorem s_21_16 {d : Nat} {l0 l1 l2 : oV} {x : Int} {σ : oSg} {Q : Option oV → (Nat → oC) → Prop} : oE d 21 16 [l0, l1, l2] [.inl x] σ Q = Q (some (.inl x)) (oBld σ) := oIret f_21_16 rt_21
theorem f_21_17 : oFet 21 17 = some (.aload_n 0, 1) := by decide +kernel
theorem s_21_17 {d : Nat} {l1 l2 : oV} {a : Nat} {S : List oV} {σ : oSg} {Q : Option oV → (Nat → oC) → Prop} : oE d 21 17 [.inr (.inr (.inl a)), l1, l2] S σ Q = oE d 21 18 [.inr (.inr (.inl a)), l1, l2] (.inr (.inr (.inl a)) :: S) σ Q := pLdN (k := 0) f_21_17 rfl rfl rfl
theorem f_21_18 : oFet 21 18 = some (.getfield 12, 3) := by decide +kernel
theorem s_21_18 {d : Nat} {l0 l1 l2 : oV} {a : Nat} {S : List oV} {σ : oSg} {Q : Option oV → (Nat → oC) → Prop} (hk : oKd a = some 10) : oE d 21 18 [l0, l1, l2] (.inr (.inr (.inl a)) :: S) σ Q = oE d 21 21 [l0, l1, l2] (.inr (.inr (.inl (oRf a 0))) :: S) σ Q := pGfR f_21_18 ow_21 fl_10_12 rfl (by decide) hk
theorem f_21_21 : oFet 21 21 = some (.getfield 73, 3) := by decide +kernel
theorem s_21_21 {d : Nat} {l0 l1 l2 : oV} {a : Nat} {S : List oV} {σ : oSg} {Q : Option oV → (Nat → oC) → Prop} (hk : oKd a = some 1) : oE d 21 21 [l0, l1, l2] (.inr (.inr (.inl a)) :: S) σ Q = oE d 21 24 [l0, l1, l2] (.inr (.inr (.inl (oRf a 0))) :: S) σ Q := pGfR f_21_21 ow_21 fl_10_73 rfl (by decide) hk
theorem f_21_24 : oFet 21 24 = some (.iload_n 1, 1) := by decide +kernel
theorem s_21_24 {d : Nat} {l0 l2 : oV} {x : Int} {S : List oV} {σ : oSg} {Q : Option oV → (Nat → oC) → Prop} : oE d 21 24 [l0, .inl x, l2] S σ Q = oE d 21 25 [l0, .inl x, l2] (.inl x :: S) σ Q := pLdN (k := 1) f_21_24 rfl rfl rfl
theorem f_21_25 : oFet 21 25 = some (.iload_n 2, 1) := by decide +kernel
theorem s_21_25 {d : Nat} {l0 l1 : oV} {x : Int} {S : List oV} {σ : oSg} {Q : Option oV → (Nat → oC) → Prop} : oE d 21 25 [l0, l1, .inl x] S σ Q = oE d 21 26 [l0, l1, .inl x] (.inl x :: S) σ Q := pLdN (k := 2) f_21_25 rfl rfl rfl
theorem f_21_26 : oFet 21 26 = some (.invokevirtual 100, 3) := by decide +kernel
theorem c_21_26 {d : Nat} {l0 l1 l2 : oV} {x0 x1 : oV} {a : Nat} {v : Option oV} {τ : oSg} {S : List oV} {σ : oSg} {Q : Option oV → (Nat → oC) → Prop} (hm : oMi d 22 [.inr (.inr (.inl a)), x0, x1] σ v τ) (hk : oKd a = some 4) (hs : oSmall S = true) : oE d 21 26 [l0, l1, l2] (x1 :: x0 :: .inr (.inr (.inl a)) :: S) σ Q = oE d 21 29 [l0, l1, l2] (v.toList ++ S) τ Q := pCallV f_21_26 ow_21 lk_10_100 mt_22 rfl rfl rfl hk hs hm
theorem f_21_29 : oFet 21 29 = some (.ifCond .eq 25, 3) := by decide +kernel
theorem s_21_29 {d : Nat} {l0 l1 l2 : oV} {x : Int} {S : List oV} {σ : oSg} {Q : Option oV → (Nat → oC) → Prop} : oE d 21 29 [l0, l1, l2] (.inl x :: S) σ Q = if x = 0 then oE d 21 54 [l0, l1, l2] S σ Q else oE d 21 32 [l0, l1, l2] S σ Q := oIfEq f_21_29 (by decide)
theorem f_21_32 : oFet 21 32 = some (.aload_n 0, 1) := by decide +kernel
theorem s_21_32 {d : Nat} {l1 l2 : oV} {a : Nat} {S : List oV} {σ : oSg} {Q : Option oV → (Nat → oC) → Prop} : oE d 21 32 [.inr (.inr (.inl a)), l1, l2] S σ Q = oE d 21 33 [.inr (.inr (.inl a)), l1, l2] (.inr (.inr (.inl a)) :: S) σ Q := pLdN (k := 0) f_21_32 rfl rfl rfl
theorem f_21_33 : oFet 21 33 = some (.getfield 12, 3) := by decide +kernel
theorem s_21_33 {d : Nat} {l0 l1 l2 : oV} {a : Nat} {S : List oV} {σ : oSg} {Q : Option oV → (Nat → oC) → Prop} (hk : oKd a = some 10) : oE d 21 33 [l0, l1, l2] (.inr (.inr (.inl a)) :: S) σ Q = oE d 21 36 [l0, l1, l2] (.inr (.inr (.inl (oRf a 0))) :: S) σ Q := pGfR f_21_33 ow_21 fl_10_12 rfl (by decide) hk
theorem f_21_36 : oFet 21 36 = some (.iload_n 1, 1) := by decide +kernel
theorem s_21_36 {d : Nat} {l0 l2 : oV} {x : Int} {S : List oV} {σ : oSg} {Q : Option oV → (Nat → oC) → Prop} : oE d 21 36 [l0, .inl x, l2] S σ Q = oE d 21 37 [l0, .inl x, l2] (.inl x :: S) σ Q := pLdN (k := 1) f_21_36 rfl rfl rfl
theorem f_21_37 : oFet 21 37 = some (.invokevirtual 103, 3) := by decide +kernel
theorem c_21_37 {d : Nat} {l0 l1 l2 : oV} {x0 : oV} {a : Nat} {v : Option oV} {τ : oSg} {S : List oV} {σ : oSg} {Q : Option oV → (Nat → oC) → Prop} (hm : oMi d 23 [.inr (.inr (.inl a)), x0] σ v τ) (hk : oKd a = some 1) (hs : oSmall S = true) : oE d 21 37 [l0, l1, l2] (x0 :: .inr (.inr (.inl a)) :: S) σ Q = oE d 21 40 [l0, l1, l2] (v.toList ++ S) τ Q := pCallV f_21_37 ow_21 lk_10_103 mt_23 rfl rfl rfl hk hs hm
theorem f_21_40 : oFet 21 40 = some (.ifCond .eq 14, 3) := by decide +kernel
theorem s_21_40 {d : Nat} {l0 l1 l2 : oV} {x : Int} {S : List oV} {σ : oSg} {Q : Option oV → (Nat → oC) → Prop} : oE d 21 40 [l0, l1, l2] (.inl x :: S) σ Q = if x = 0 then oE d 21 54 [l0, l1, l2] S σ Q else oE d 21 43 [l0, l1, l2] S σ Q := oIfEq f_21_40 (by decide)
theorem f_21_43 : oFet 21 43 = some (.aload_n 0, 1) := by decide +kernel
theorem s_21_43 {d : Nat} {l1 l2 : oV} {a : Nat} {S : List oV} {σ : oSg} {Q : Option oV → (Nat → oC) → Prop} : oE d 21 43 [.inr (.inr (.inl a)), l1, l2] S σ Q = oE d 21 44 [.inr (.inr (.inl a)), l1, l2] (.inr (.inr (.inl a)) :: S) σ Q := pLdN (k := 0) f_21_43 rfl rfl rfl
theorem f_21_44 : oFet 21 44 = some (.getfield 12, 3) := by decide +kernel
theorem s_21_44 {d : Nat} {l0 l1 l2 : oV} {a : Nat} {S : List oV} {σ : oSg} {Q : Option oV → (Nat → oC) → Prop} (hk : oKd a = some 10) : oE d 21 44 [l0, l1, l2] (.inr (.inr (.inl a)) :: S) σ Q = oE d 21 47 [l0, l1, l2] (.inr (.inr (.inl (oRf a 0))) :: S) σ Q := pGfR f_21_44 ow_21 fl_10_12 rfl (by decide) hk
theorem f_21_47 : oFet 21 47 = some (.iload_n 2, 1) := by decide +kernel
theorem s_21_47 {d : Nat} {l0 l1 : oV} {x : Int} {S : List oV} {σ : oSg} {Q : Option oV → (Nat → oC) → Prop} : oE d 21 47 [l0, l1, .inl x] S σ Q = oE d 21 48 [l0, l1, .inl x] (.inl x :: S) σ Q := pLdN (k := 2) f_21_47 rfl rfl rfl
theorem f_21_48 : oFet 21 48 = some (.invokevirtual 103, 3) := by decide +kernel
theorem c_21_48 {d : Nat} {l0 l1 l2 : oV} {x0 : oV} {a : Nat} {v : Option oV} {τ : oSg} {S : List oV} {σ : oSg} {Q : Option oV → (Nat → oC) → Prop} (hm : oMi d 23 [.inr (.inr (.inl a)), x0] σ v τ) (hk : oKd a = some 1) (hs : oSmall S = true) : oE d 21 48 [l0, l1, l2] (x0 :: .inr (.inr (.inl a)) :: S) σ Q = oE d 21 51 [l0, l1, l2] (v.toList ++ S) τ Q := pCallV f_21_48 ow_21 lk_10_103 mt_23 rfl rfl rfl hk hs hm
theorem f_21_51 : oFet 21 51 = some (.ifCond .ne 6, 3) := by decide +kernel
theorem s_21_51 {d : Nat} {l0 l1 l2 : oV} {x : Int} {S : List oV} {σ : oSg} {Q : Option oV → (Nat → oC) → Prop} : oE d 21 51 [l0, l1, l2] (.inl x :: S) σ Q = if ¬ x = 0 then oE d 21 57 [l0, l1, l2] S σ Q else oE d 21 54 [l0, l1, l2] S σ Q := oIfNe f_21_51 (by decide)
theorem f_21_54 : oFet 21 54 = some (.bipush (-3), 2) := by decide +kernel
theorem s_21_54 {d : Nat} {l0 l1 l2 : oV} {S : List oV} {σ : oSg} {Q : Option oV → (Nat → oC) → Prop} : oE d 21 54 [l0, l1, l2] S σ Q = oE d 21 56 [l0, l1, l2] (.inl (-3) :: S) σ Q := pBip f_21_54 (by decide)
theorem f_21_56 : oFet 21 56 = some (.ireturn, 1) := by decide +kernel
theorem s_21_56 {d : Nat} {l0 l1 l2 : oV} {x : Int} {σ : oSg} {Q : Option oV → (Nat → oC) → Prop} : oE d 21 56 [l0, l1, l2] [.inl x] σ Q = Q (some (.inl x)) (oBld σ) := oIret f_21_56 rt_21
theorem f_21_57 : oFet 21 57 = some (.aload_n 0, 1) := by decide +kernel
theorem s_21_57 {d : Nat} {l1 l2 : oV} {a : Nat} {S : List oV} {σ : oSg} {Q : Option oV → (Nat → oC) → Prop} : oE d 21 57 [.inr (.inr (.inl a)), l1, l2] S σ Q = oE d 21 58 [.inr (.inr (.inl a)), l1, l2] (.inr (.inr (.inl a)) :: S) σ Q := pLdN (k := 0) f_21_57 rfl rfl rfl
theorem f_21_58 : oFet 21 58 = some (.getfield 12, 3) := by decide +kernel
theorem s_21_58 {d : Nat} {l0 l1 l2 : oV} {a : Nat} {S : List oV} {σ : oSg} {Q : Option oV → (Nat → oC) → Prop} (hk : oKd a = some 10) : oE d 21 58 [l0, l1, l2] (.inr (.inr (.inl a)) :: S) σ Q = oE d 21 61 [l0, l1, l2] (.inr (.inr (.inl (oRf a 0))) :: S) σ Q := pGfR f_21_58 ow_21 fl_10_12 rfl (by decide) hk
theorem f_21_61 : oFet 21 61 = some (.iload_n 1, 1) := by decide +kernel
theorem s_21_61 {d : Nat} {l0 l2 : oV} {x : Int} {S : List oV} {σ : oSg} {Q : Option oV → (Nat → oC) → Prop} : oE d 21 61 [l0, .inl x, l2] S σ Q = oE d 21 62 [l0, .inl x, l2] (.inl x :: S) σ Q := pLdN (k := 1) f_21_61 rfl rfl rfl
theorem f_21_62 : oFet 21 62 = some (.iload_n 2, 1) := by decide +kernel
theorem s_21_62 {d : Nat} {l0 l1 : oV} {x : Int} {S : List oV} {σ : oSg} {Q : Option oV → (Nat → oC) → Prop} : oE d 21 62 [l0, l1, .inl x] S σ Q = oE d 21 63 [l0, l1, .inl x] (.inl x :: S) σ Q := pLdN (k := 2) f_21_62 rfl rfl rfl
theorem f_21_63 : oFet 21 63 = some (.invokevirtual 107, 3) := by decide +kernel
theorem c_21_63 {d : Nat} {l0 l1 l2 : oV} {x0 x1 : oV} {a : Nat} {v : Option oV} {τ : oSg} {S : List oV} {σ : oSg} {Q : Option oV → (Nat → oC) → Prop} (hm : oMi d 24 [.inr (.inr (.inl a)), x0, x1] σ v τ) (hk : oKd a = some 1) (hs : oSmall S = true) : oE d 21 63 [l0, l1, l2] (x1 :: x0 :: .inr (.inr (.inl a)) :: S) σ Q = oE d 21 66 [l0, l1, l2] (v.toList ++ S) τ Q := pCallV f_21_63 ow_21 lk_10_107 mt_24 rfl rfl rfl hk hs hm
theorem f_21_66 : oFet 21 66 = some (.aload_n 0, 1) := by decide +kernel
theorem s_21_66 {d : Nat} {l1 l2 : oV} {a : Nat} {S : List oV} {σ : oSg} {Q : Option oV → (Nat → oC) → Prop} : oE d 21 66 [.inr (.inr (.inl a)), l1, l2] S σ Q = oE d 21 67 [.inr (.inr (.inl a)), l1, l2] (.inr (.inr (.inl a)) :: S) σ Q := pLdN (k := 0) f_21_66 rfl rfl rfl
theorem f_21_67 : oFet 21 67 = some (.getfield 12, 3) := by decide +kernel
theorem s_21_67 {d : Nat} {l0 l1 l2 : oV} {a : Nat} {S : List oV} {σ : oSg} {Q : Option oV → (Nat → oC) → Prop} (hk : oKd a = some 10) : oE d 21 67 [l0, l1, l2] (.inr (.inr (.inl a)) :: S) σ Q = oE d 21 70 [l0, l1, l2] (.inr (.inr (.inl (oRf a 0))) :: S) σ Q := pGfR f_21_67 ow_21 fl_10_12 rfl (by decide) hk
theorem f_21_70 : oFet 21 70 = some (.invokevirtual 111, 3) := by decide +kernel
theorem c_21_70 {d : Nat} {l0 l1 l2 : oV} {a : Nat} {v : Option oV} {τ : oSg} {S : List oV} {σ : oSg} {Q : Option oV → (Nat → oC) → Prop} (hm : oMi d 25 [.inr (.inr (.inl a))] σ v τ) (hk : oKd a = some 1) (hs : oSmall S = true) : oE d 21 70 [l0, l1, l2] (.inr (.inr (.inl a)) :: S) σ Q = oE d 21 73 [l0, l1, l2] (v.toList ++ S) τ Q := pCallV f_21_70 ow_21 lk_10_111 mt_25 rfl rfl rfl hk hs hm
theorem f_21_73 : oFet 21 73 = some (.ireturn, 1) := by decide +kernel
theorem s_21_73 {d : Nat} {l0 l1 l2 : oV} {x : Int} {σ : oSg} {Q : Option oV → (Nat → oC) → Prop} : oE d 21 73 [l0, l1, l2] [.inl x] σ Q = Q (some (.inl x)) (oBld σ) := oIret f_21_73 rt_21
theorem ow_22 : (oMt 22).2.2.2.2.1 = 4 := by decide +kernel
theorem rt_22 : (oMt 22).2.2.2.1 = some .boolean := by decide +kernel
theorem nl_22 : (oMt 22).2.2.1 = 3 := by decide +kernel
theorem f_22_0 : oFet 22 0 = some (.aload_n 0, 1) := by decide +kernel
theorem s_22_0 {d : Nat} {l1 l2 : oV} {a : Nat} {S : List oV} {σ : oSg} {Q : Option oV → (Nat → oC) → Prop} : oE d 22 0 [.inr (.inr (.inl a)), l1, l2] S σ Q = oE d 22 1 [.inr (.inr (.inl a)), l1, l2] (.inr (.inr (.inl a)) :: S) σ Q := pLdN (k := 0) f_22_0 rfl rfl rfl
theorem f_22_1 : oFet 22 1 = some (.iload_n 1, 1) := by decide +kernel
theorem s_22_1 {d : Nat} {l0 l2 : oV} {x : Int} {S : List oV} {σ : oSg} {Q : Option oV → (Nat → oC) → Prop} : oE d 22 1 [l0, .inl x, l2] S σ Q = oE d 22 2 [l0, .inl x, l2] (.inl x :: S) σ Q := pLdN (k := 1) f_22_1 rfl rfl rfl
theorem f_22_2 : oFet 22 2 = some (.iload_n 2, 1) := by decide +kernel
theorem s_22_2 {d : Nat} {l0 l1 : oV} {x : Int} {S : List oV} {σ : oSg} {Q : Option oV → (Nat → oC) → Prop} : oE d 22 2 [l0, l1, .inl x] S σ Q = oE d 22 3 [l0, l1, .inl x] (.inl x :: S) σ Q := pLdN (k := 2) f_22_2 rfl rfl rfl
theorem f_22_3 : oFet 22 3 = some (.invokevirtual 23, 3) := by decide +kernel
theorem c_22_3 {d : Nat} {l0 l1 l2 : oV} {x0 x1 : oV} {a : Nat} {v : Option oV} {τ : oSg} {S : List oV} {σ : oSg} {Q : Option oV → (Nat → oC) → Prop} (hm : oMi d 16 [.inr (.inr (.inl a)), x0, x1] σ v τ) (hk : oKd a = some 4) (hs : oSmall S = true) : oE d 22 3 [l0, l1, l2] (x1 :: x0 :: .inr (.inr (.inl a)) :: S) σ Q = oE d 22 6 [l0, l1, l2] (v.toList ++ S) τ Q := pCallV f_22_3 ow_22 lk_4_23 mt_16 rfl rfl rfl hk hs hm
theorem f_22_6 : oFet 22 6 = some (.ifCond .le 7, 3) := by decide +kernel
theorem s_22_6 {d : Nat} {l0 l1 l2 : oV} {x : Int} {S : List oV} {σ : oSg} {Q : Option oV → (Nat → oC) → Prop} : oE d 22 6 [l0, l1, l2] (.inl x :: S) σ Q = if x ≤ 0 then oE d 22 13 [l0, l1, l2] S σ Q else oE d 22 9 [l0, l1, l2] S σ Q := oIfLe f_22_6 (by decide)
theorem f_22_9 : oFet 22 9 = some (.iconst 1, 1) := by decide +kernel
theorem s_22_9 {d : Nat} {l0 l1 l2 : oV} {S : List oV} {σ : oSg} {Q : Option oV → (Nat → oC) → Prop} : oE d 22 9 [l0, l1, l2] S σ Q = oE d 22 10 [l0, l1, l2] (.inl (1) :: S) σ Q := pKst f_22_9 (by decide)
theorem f_22_10 : oFet 22 10 = some (.goto 4, 3) := by decide +kernel
theorem s_22_10 {d : Nat} {l0 l1 l2 : oV} {S : List oV} {σ : oSg} {Q : Option oV → (Nat → oC) → Prop} : oE d 22 10 [l0, l1, l2] S σ Q = oE d 22 14 [l0, l1, l2] S σ Q := pGoto f_22_10 (by decide)
theorem f_22_13 : oFet 22 13 = some (.iconst 0, 1) := by decide +kernel
theorem s_22_13 {d : Nat} {l0 l1 l2 : oV} {S : List oV} {σ : oSg} {Q : Option oV → (Nat → oC) → Prop} : oE d 22 13 [l0, l1, l2] S σ Q = oE d 22 14 [l0, l1, l2] (.inl (0) :: S) σ Q := pKst f_22_13 (by decide)
theorem f_22_14 : oFet 22 14 = some (.ireturn, 1) := by decide +kernel
theorem s_22_14 {d : Nat} {l0 l1 l2 : oV} {x : Int} {σ : oSg} {Q : Option oV → (Nat → oC) → Prop} (hx : x = 0 ∨ x = 1) : oE d 22 14 [l0, l1, l2] [.inl x] σ Q = Q (some (.inl x)) (oBld σ) := oZret f_22_14 rt_22 hx
theorem ow_23 : (oMt 23).2.2.2.2.1 = 1 := by decide +kernel
theorem rt_23 : (oMt 23).2.2.2.1 = some .boolean := by decide +kernel
theorem nl_23 : (oMt 23).2.2.1 = 2 := by decide +kernel
theorem f_23_0 : oFet 23 0 = some (.aload_n 0, 1) := by decide +kernel
theorem s_23_0 {d : Nat} {l1 : oV} {a : Nat} {S : List oV} {σ : oSg} {Q : Option oV → (Nat → oC) → Prop} : oE d 23 0 [.inr (.inr (.inl a)), l1] S σ Q = oE d 23 1 [.inr (.inr (.inl a)), l1] (.inr (.inr (.inl a)) :: S) σ Q := pLdN (k := 0) f_23_0 rfl rfl rfl
theorem f_23_1 : oFet 23 1 = some (.iload_n 1, 1) := by decide +kernel
theorem s_23_1 {d : Nat} {l0 : oV} {x : Int} {S : List oV} {σ : oSg} {Q : Option oV → (Nat → oC) → Prop} : oE d 23 1 [l0, .inl x] S σ Q = oE d 23 2 [l0, .inl x] (.inl x :: S) σ Q := pLdN (k := 1) f_23_1 rfl rfl rfl
theorem f_23_2 : oFet 23 2 = some (.invokevirtual 49, 3) := by decide +kernel
theorem c_23_2 {d : Nat} {l0 l1 : oV} {x0 : oV} {a : Nat} {v : Option oV} {τ : oSg} {S : List oV} {σ : oSg} {Q : Option oV → (Nat → oC) → Prop} (hm : oMi d 18 [.inr (.inr (.inl a)), x0] σ v τ) (hk : oKd a = some 1) (hs : oSmall S = true) : oE d 23 2 [l0, l1] (x0 :: .inr (.inr (.inl a)) :: S) σ Q = oE d 23 5 [l0, l1] (v.toList ++ S) τ Q := pCallV f_23_2 ow_23 lk_1_49 mt_18 rfl rfl rfl hk hs hm
theorem f_23_5 : oFet 23 5 = some (.ifCond .ge 7, 3) := by decide +kernel
theorem s_23_5 {d : Nat} {l0 l1 : oV} {x : Int} {S : List oV} {σ : oSg} {Q : Option oV → (Nat → oC) → Prop} : oE d 23 5 [l0, l1] (.inl x :: S) σ Q = if 0 ≤ x then oE d 23 12 [l0, l1] S σ Q else oE d 23 8 [l0, l1] S σ Q := oIfGe f_23_5 (by decide)
theorem f_23_8 : oFet 23 8 = some (.iconst 1, 1) := by decide +kernel
theorem s_23_8 {d : Nat} {l0 l1 : oV} {S : List oV} {σ : oSg} {Q : Option oV → (Nat → oC) → Prop} : oE d 23 8 [l0, l1] S σ Q = oE d 23 9 [l0, l1] (.inl (1) :: S) σ Q := pKst f_23_8 (by decide)
theorem f_23_9 : oFet 23 9 = some (.goto 4, 3) := by decide +kernel
theorem s_23_9 {d : Nat} {l0 l1 : oV} {S : List oV} {σ : oSg} {Q : Option oV → (Nat → oC) → Prop} : oE d 23 9 [l0, l1] S σ Q = oE d 23 13 [l0, l1] S σ Q := pGoto f_23_9 (by decide)
theorem f_23_12 : oFet 23 12 = some (.iconst 0, 1) := by decide +kernel
theorem s_23_12 {d : Nat} {l0 l1 : oV} {S : List oV} {σ : oSg} {Q : Option oV → (Nat → oC) → Prop} : oE d 23 12 [l0, l1] S σ Q = oE d 23 13 [l0, l1] (.inl (0) :: S) σ Q := pKst f_23_12 (by decide)
theorem f_23_13 : oFet 23 13 = some (.ireturn, 1) := by decide +kernel
theorem s_23_13 {d : Nat} {l0 l1 : oV} {x : Int} {σ : oSg} {Q : Option oV → (Nat → oC) → Prop} (hx : x = 0 ∨ x = 1) : oE d 23 13 [l0, l1] [.inl x] σ Q = Q (some (.inl x)) (oBld σ) := oZret f_23_13 rt_23 hx
theorem ow_24 : (oMt 24).2.2.2.2.1 = 1 := by decide +kernel
theorem rt_24 : (oMt 24).2.2.2.1 = none := by decide +kernel
theorem nl_24 : (oMt 24).2.2.1 = 3 := by decide +kernel
theorem f_24_0 : oFet 24 0 = some (.aload_n 0, 1) := by decide +kernel
theorem s_24_0 {d : Nat} {l1 l2 : oV} {a : Nat} {S : List oV} {σ : oSg} {Q : Option oV → (Nat → oC) → Prop} : oE d 24 0 [.inr (.inr (.inl a)), l1, l2] S σ Q = oE d 24 1 [.inr (.inr (.inl a)), l1, l2] (.inr (.inr (.inl a)) :: S) σ Q := pLdN (k := 0) f_24_0 rfl rfl rfl
theorem f_24_1 : oFet 24 1 = some (.getfield 12, 3) := by decide +kernel
theorem s_24_1 {d : Nat} {l0 l1 l2 : oV} {a : Nat} {S : List oV} {σ : oSg} {Q : Option oV → (Nat → oC) → Prop} (hk : oKd a = some 1) : oE d 24 1 [l0, l1, l2] (.inr (.inr (.inl a)) :: S) σ Q = oE d 24 4 [l0, l1, l2] (.inr (.inr (.inl (oRf a 0))) :: S) σ Q := pGfR f_24_1 ow_24 fl_1_12 rfl (by decide) hk
theorem f_24_4 : oFet 24 4 = some (.iload_n 1, 1) := by decide +kernel
theorem s_24_4 {d : Nat} {l0 l2 : oV} {x : Int} {S : List oV} {σ : oSg} {Q : Option oV → (Nat → oC) → Prop} : oE d 24 4 [l0, .inl x, l2] S σ Q = oE d 24 5 [l0, .inl x, l2] (.inl x :: S) σ Q := pLdN (k := 1) f_24_4 rfl rfl rfl
theorem f_24_5 : oFet 24 5 = some (.iload_n 2, 1) := by decide +kernel
theorem s_24_5 {d : Nat} {l0 l1 : oV} {x : Int} {S : List oV} {σ : oSg} {Q : Option oV → (Nat → oC) → Prop} : oE d 24 5 [l0, l1, .inl x] S σ Q = oE d 24 6 [l0, l1, .inl x] (.inl x :: S) σ Q := pLdN (k := 2) f_24_5 rfl rfl rfl
theorem f_24_6 : oFet 24 6 = some (.invokevirtual 53, 3) := by decide +kernel
theorem c_24_6 {d : Nat} {l0 l1 l2 : oV} {x0 x1 : oV} {a : Nat} {v : Option oV} {τ : oSg} {S : List oV} {σ : oSg} {Q : Option oV → (Nat → oC) → Prop} (hm : oMi d 14 [.inr (.inr (.inl a)), x0, x1] σ v τ) (hk : oKd a = some 4) (hs : oSmall S = true) : oE d 24 6 [l0, l1, l2] (x1 :: x0 :: .inr (.inr (.inl a)) :: S) σ Q = oE d 24 9 [l0, l1, l2] (v.toList ++ S) τ Q := pCallV f_24_6 ow_24 lk_1_53 mt_14 rfl rfl rfl hk hs hm
theorem f_24_9 : oFet 24 9 = some (.ifCond .eq 17, 3) := by decide +kernel
theorem s_24_9 {d : Nat} {l0 l1 l2 : oV} {x : Int} {S : List oV} {σ : oSg} {Q : Option oV → (Nat → oC) → Prop} : oE d 24 9 [l0, l1, l2] (.inl x :: S) σ Q = if x = 0 then oE d 24 26 [l0, l1, l2] S σ Q else oE d 24 12 [l0, l1, l2] S σ Q := oIfEq f_24_9 (by decide)
theorem f_24_12 : oFet 24 12 = some (.aload_n 0, 1) := by decide +kernel
theorem s_24_12 {d : Nat} {l1 l2 : oV} {a : Nat} {S : List oV} {σ : oSg} {Q : Option oV → (Nat → oC) → Prop} : oE d 24 12 [.inr (.inr (.inl a)), l1, l2] S σ Q = oE d 24 13 [.inr (.inr (.inl a)), l1, l2] (.inr (.inr (.inl a)) :: S) σ Q := pLdN (k := 0) f_24_12 rfl rfl rfl
theorem f_24_13 : oFet 24 13 = some (.getfield 18, 3) := by decide +kernel
theorem s_24_13 {d : Nat} {l0 l1 l2 : oV} {a : Nat} {S : List oV} {σ : oSg} {Q : Option oV → (Nat → oC) → Prop} (hk : oKd a = some 1) : oE d 24 13 [l0, l1, l2] (.inr (.inr (.inl a)) :: S) σ Q = oE d 24 16 [l0, l1, l2] (.inr (.inr (.inl (oRf a 1))) :: S) σ Q := pGfR f_24_13 ow_24 fl_1_18 rfl (by decide) hk
theorem f_24_16 : oFet 24 16 = some (.iload_n 1, 1) := by decide +kernel
theorem s_24_16 {d : Nat} {l0 l2 : oV} {x : Int} {S : List oV} {σ : oSg} {Q : Option oV → (Nat → oC) → Prop} : oE d 24 16 [l0, .inl x, l2] S σ Q = oE d 24 17 [l0, .inl x, l2] (.inl x :: S) σ Q := pLdN (k := 1) f_24_16 rfl rfl rfl
theorem f_24_17 : oFet 24 17 = some (.iload_n 2, 1) := by decide +kernel
theorem s_24_17 {d : Nat} {l0 l1 : oV} {x : Int} {S : List oV} {σ : oSg} {Q : Option oV → (Nat → oC) → Prop} : oE d 24 17 [l0, l1, .inl x] S σ Q = oE d 24 18 [l0, l1, .inl x] (.inl x :: S) σ Q := pLdN (k := 2) f_24_17 rfl rfl rfl
theorem f_24_18 : oFet 24 18 = some (.iastore, 1) := by decide +kernel
theorem s_24_18 {d : Nat} {l0 l1 l2 : oV} {a : Nat} {i v : Int} {S : List oV} {σ : oSg} {Q : Option oV → (Nat → oC) → Prop} (hk : oAk a = some 0) (h0 : 0 ≤ i) (h1 : i < (oLn a : Int)) : oE d 24 18 [l0, l1, l2] (.inl v :: .inl i :: .inr (.inr (.inl a)) :: S) σ Q = oE d 24 19 [l0, l1, l2] S (oSA σ a i.toNat v) Q := oIas f_24_18 hk h0 h1
theorem f_24_19 : oFet 24 19 = some (.aload_n 0, 1) := by decide +kernel
theorem s_24_19 {d : Nat} {l1 l2 : oV} {a : Nat} {S : List oV} {σ : oSg} {Q : Option oV → (Nat → oC) → Prop} : oE d 24 19 [.inr (.inr (.inl a)), l1, l2] S σ Q = oE d 24 20 [.inr (.inr (.inl a)), l1, l2] (.inr (.inr (.inl a)) :: S) σ Q := pLdN (k := 0) f_24_19 rfl rfl rfl
theorem f_24_20 : oFet 24 20 = some (.getfield 18, 3) := by decide +kernel
theorem s_24_20 {d : Nat} {l0 l1 l2 : oV} {a : Nat} {S : List oV} {σ : oSg} {Q : Option oV → (Nat → oC) → Prop} (hk : oKd a = some 1) : oE d 24 20 [l0, l1, l2] (.inr (.inr (.inl a)) :: S) σ Q = oE d 24 23 [l0, l1, l2] (.inr (.inr (.inl (oRf a 1))) :: S) σ Q := pGfR f_24_20 ow_24 fl_1_18 rfl (by decide) hk
theorem f_24_23 : oFet 24 23 = some (.iload_n 2, 1) := by decide +kernel
theorem s_24_23 {d : Nat} {l0 l1 : oV} {x : Int} {S : List oV} {σ : oSg} {Q : Option oV → (Nat → oC) → Prop} : oE d 24 23 [l0, l1, .inl x] S σ Q = oE d 24 24 [l0, l1, .inl x] (.inl x :: S) σ Q := pLdN (k := 2) f_24_23 rfl rfl rfl
theorem f_24_24 : oFet 24 24 = some (.iload_n 1, 1) := by decide +kernel
theorem s_24_24 {d : Nat} {l0 l2 : oV} {x : Int} {S : List oV} {σ : oSg} {Q : Option oV → (Nat → oC) → Prop} : oE d 24 24 [l0, .inl x, l2] S σ Q = oE d 24 25 [l0, .inl x, l2] (.inl x :: S) σ Q := pLdN (k := 1) f_24_24 rfl rfl rfl
theorem f_24_25 : oFet 24 25 = some (.iastore, 1) := by decide +kernel
theorem s_24_25 {d : Nat} {l0 l1 l2 : oV} {a : Nat} {i v : Int} {S : List oV} {σ : oSg} {Q : Option oV → (Nat → oC) → Prop} (hk : oAk a = some 0) (h0 : 0 ≤ i) (h1 : i < (oLn a : Int)) : oE d 24 25 [l0, l1, l2] (.inl v :: .inl i :: .inr (.inr (.inl a)) :: S) σ Q = oE d 24 26 [l0, l1, l2] S (oSA σ a i.toNat v) Q := oIas f_24_25 hk h0 h1
theorem f_24_26 : oFet 24 26 = some (.return_, 1) := by decide +kernel
theorem s_24_26 {d : Nat} {l0 l1 l2 : oV} {σ : oSg} {Q : Option oV → (Nat → oC) → Prop} : oE d 24 26 [l0, l1, l2] [] σ Q = Q none (oBld σ) := oVret f_24_26 rt_24
theorem ow_25 : (oMt 25).2.2.2.2.1 = 1 := by decide +kernel
theorem rt_25 : (oMt 25).2.2.2.1 = some .int := by decide +kernel
theorem nl_25 : (oMt 25).2.2.1 = 1 := by decide +kernel
theorem f_25_0 : oFet 25 0 = some (.aload_n 0, 1) := by decide +kernel
theorem s_25_0 {d : Nat} {a : Nat} {S : List oV} {σ : oSg} {Q : Option oV → (Nat → oC) → Prop} : oE d 25 0 [.inr (.inr (.inl a))] S σ Q = oE d 25 1 [.inr (.inr (.inl a))] (.inr (.inr (.inl a)) :: S) σ Q := pLdN (k := 0) f_25_0 rfl rfl rfl
theorem f_25_1 : oFet 25 1 = some (.aload_n 0, 1) := by decide +kernel
theorem s_25_1 {d : Nat} {a : Nat} {S : List oV} {σ : oSg} {Q : Option oV → (Nat → oC) → Prop} : oE d 25 1 [.inr (.inr (.inl a))] S σ Q = oE d 25 2 [.inr (.inr (.inl a))] (.inr (.inr (.inl a)) :: S) σ Q := pLdN (k := 0) f_25_1 rfl rfl rfl
theorem f_25_2 : oFet 25 2 = some (.getfield 12, 3) := by decide +kernel
theorem s_25_2 {d : Nat} {l0 : oV} {a : Nat} {S : List oV} {σ : oSg} {Q : Option oV → (Nat → oC) → Prop} (hk : oKd a = some 1) : oE d 25 2 [l0] (.inr (.inr (.inl a)) :: S) σ Q = oE d 25 5 [l0] (.inr (.inr (.inl (oRf a 0))) :: S) σ Q := pGfR f_25_2 ow_25 fl_1_12 rfl (by decide) hk
theorem f_25_5 : oFet 25 5 = some (.invokevirtual 77, 3) := by decide +kernel
theorem c_25_5 {d : Nat} {l0 : oV} {a : Nat} {v : Option oV} {τ : oSg} {S : List oV} {σ : oSg} {Q : Option oV → (Nat → oC) → Prop} (hm : oMi d 26 [.inr (.inr (.inl a))] σ v τ) (hk : oKd a = some 4) (hs : oSmall S = true) : oE d 25 5 [l0] (.inr (.inr (.inl a)) :: S) σ Q = oE d 25 8 [l0] (v.toList ++ S) τ Q := pCallV f_25_5 ow_25 lk_1_77 mt_26 rfl rfl rfl hk hs hm
theorem f_25_8 : oFet 25 8 = some (.invokevirtual 81, 3) := by decide +kernel
theorem c_25_8 {d : Nat} {l0 : oV} {x0 : oV} {a : Nat} {v : Option oV} {τ : oSg} {S : List oV} {σ : oSg} {Q : Option oV → (Nat → oC) → Prop} (hm : oMi d 27 [.inr (.inr (.inl a)), x0] σ v τ) (hk : oKd a = some 1) (hs : oSmall S = true) : oE d 25 8 [l0] (x0 :: .inr (.inr (.inl a)) :: S) σ Q = oE d 25 11 [l0] (v.toList ++ S) τ Q := pCallV f_25_8 ow_25 lk_1_81 mt_27 rfl rfl rfl hk hs hm
theorem f_25_11 : oFet 25 11 = some (.ireturn, 1) := by decide +kernel
theorem s_25_11 {d : Nat} {l0 : oV} {x : Int} {σ : oSg} {Q : Option oV → (Nat → oC) → Prop} : oE d 25 11 [l0] [.inl x] σ Q = Q (some (.inl x)) (oBld σ) := oIret f_25_11 rt_25
theorem ow_26 : (oMt 26).2.2.2.2.1 = 4 := by decide +kernel
theorem rt_26 : (oMt 26).2.2.2.1 = some .int := by decide +kernel
theorem nl_26 : (oMt 26).2.2.1 = 1 := by decide +kernel
theorem f_26_0 : oFet 26 0 = some (.iconst 1, 1) := by decide +kernel
theorem s_26_0 {d : Nat} {l0 : oV} {S : List oV} {σ : oSg} {Q : Option oV → (Nat → oC) → Prop} : oE d 26 0 [l0] S σ Q = oE d 26 1 [l0] (.inl (1) :: S) σ Q := pKst f_26_0 (by decide)
theorem f_26_1 : oFet 26 1 = some (.aload_n 0, 1) := by decide +kernel
theorem s_26_1 {d : Nat} {a : Nat} {S : List oV} {σ : oSg} {Q : Option oV → (Nat → oC) → Prop} : oE d 26 1 [.inr (.inr (.inl a))] S σ Q = oE d 26 2 [.inr (.inr (.inl a))] (.inr (.inr (.inl a)) :: S) σ Q := pLdN (k := 0) f_26_1 rfl rfl rfl
theorem f_26_2 : oFet 26 2 = some (.getfield 15, 3) := by decide +kernel
theorem s_26_2 {d : Nat} {l0 : oV} {a : Nat} {S : List oV} {σ : oSg} {Q : Option oV → (Nat → oC) → Prop} (hk : oKd a = some 4) : oE d 26 2 [l0] (.inr (.inr (.inl a)) :: S) σ Q = oE d 26 5 [l0] (.inl (σ.1 a 0) :: S) σ Q := pGfI f_26_2 ow_26 fl_4_15 rfl (by decide) hk
theorem f_26_5 : oFet 26 5 = some (.ishl, 1) := by decide +kernel
theorem s_26_5 {d : Nat} {l0 : oV} {x y : Int} {S : List oV} {σ : oSg} {Q : Option oV → (Nat → oC) → Prop} : oE d 26 5 [l0] (.inl y :: .inl x :: S) σ Q = oE d 26 6 [l0] (.inl (oShl x y) :: S) σ Q := oS3 f_26_5 rfl rfl rfl
theorem f_26_6 : oFet 26 6 = some (.iconst 1, 1) := by decide +kernel
theorem s_26_6 {d : Nat} {l0 : oV} {S : List oV} {σ : oSg} {Q : Option oV → (Nat → oC) → Prop} : oE d 26 6 [l0] S σ Q = oE d 26 7 [l0] (.inl (1) :: S) σ Q := pKst f_26_6 (by decide)
theorem f_26_7 : oFet 26 7 = some (.isub, 1) := by decide +kernel
theorem s_26_7 {d : Nat} {l0 : oV} {x y : Int} {S : List oV} {σ : oSg} {Q : Option oV → (Nat → oC) → Prop} : oE d 26 7 [l0] (.inl y :: .inl x :: S) σ Q = oE d 26 8 [l0] (.inl (oSub x y) :: S) σ Q := oS3 f_26_7 rfl rfl rfl
theorem f_26_8 : oFet 26 8 = some (.ireturn, 1) := by decide +kernel
theorem s_26_8 {d : Nat} {l0 : oV} {x : Int} {σ : oSg} {Q : Option oV → (Nat → oC) → Prop} : oE d 26 8 [l0] [.inl x] σ Q = Q (some (.inl x)) (oBld σ) := oIret f_26_8 rt_26
theorem ow_27 : (oMt 27).2.2.2.2.1 = 1 := by decide +kernel
theorem rt_27 : (oMt 27).2.2.2.1 = some .int := by decide +kernel
theorem nl_27 : (oMt 27).2.2.1 = 5 := by decide +kernel
theorem f_27_0 : oFet 27 0 = some (.iconst 0, 1) := by decide +kernel
theorem s_27_0 {d : Nat} {l0 l1 l2 l3 l4 : oV} {S : List oV} {σ : oSg} {Q : Option oV → (Nat → oC) → Prop} : oE d 27 0 [l0, l1, l2, l3, l4] S σ Q = oE d 27 1 [l0, l1, l2, l3, l4] (.inl (0) :: S) σ Q := pKst f_27_0 (by decide)
theorem f_27_1 : oFet 27 1 = some (.istore_n 2, 1) := by decide +kernel
theorem s_27_1 {d : Nat} {l0 l1 l2 l3 l4 : oV} {x : Int} {S : List oV} {σ : oSg} {Q : Option oV → (Nat → oC) → Prop} (c2 : oCat l2 = 1) (c1 : oCat l1 = 1)  : oE d 27 1 [l0, l1, l2, l3, l4] (.inl x :: S) σ Q = oE d 27 2 [l0, l1, .inl x, l3, l4] S σ Q := pSt (i := 2) f_27_1 rfl rfl (show (2 : Nat) < 5 by decide) (oC1n c1) (oC1n c2) rfl
theorem f_27_2 : oFet 27 2 = some (.iconst 0, 1) := by decide +kernel
theorem s_27_2 {d : Nat} {l0 l1 l2 l3 l4 : oV} {S : List oV} {σ : oSg} {Q : Option oV → (Nat → oC) → Prop} : oE d 27 2 [l0, l1, l2, l3, l4] S σ Q = oE d 27 3 [l0, l1, l2, l3, l4] (.inl (0) :: S) σ Q := pKst f_27_2 (by decide)
theorem f_27_3 : oFet 27 3 = some (.istore_n 3, 1) := by decide +kernel
theorem s_27_3 {d : Nat} {l0 l1 l2 l3 l4 : oV} {x : Int} {S : List oV} {σ : oSg} {Q : Option oV → (Nat → oC) → Prop} (c3 : oCat l3 = 1) (c2 : oCat l2 = 1)  : oE d 27 3 [l0, l1, l2, l3, l4] (.inl x :: S) σ Q = oE d 27 4 [l0, l1, l2, .inl x, l4] S σ Q := pSt (i := 3) f_27_3 rfl rfl (show (3 : Nat) < 5 by decide) (oC1n c2) (oC1n c3) rfl
theorem f_27_4 : oFet 27 4 = some (.iload_n 3, 1) := by decide +kernel
theorem s_27_4 {d : Nat} {l0 l1 l2 l4 : oV} {x : Int} {S : List oV} {σ : oSg} {Q : Option oV → (Nat → oC) → Prop} : oE d 27 4 [l0, l1, l2, .inl x, l4] S σ Q = oE d 27 5 [l0, l1, l2, .inl x, l4] (.inl x :: S) σ Q := pLdN (k := 3) f_27_4 rfl rfl rfl
theorem f_27_5 : oFet 27 5 = some (.aload_n 0, 1) := by decide +kernel
theorem s_27_5 {d : Nat} {l1 l2 l3 l4 : oV} {a : Nat} {S : List oV} {σ : oSg} {Q : Option oV → (Nat → oC) → Prop} : oE d 27 5 [.inr (.inr (.inl a)), l1, l2, l3, l4] S σ Q = oE d 27 6 [.inr (.inr (.inl a)), l1, l2, l3, l4] (.inr (.inr (.inl a)) :: S) σ Q := pLdN (k := 0) f_27_5 rfl rfl rfl
theorem f_27_6 : oFet 27 6 = some (.getfield 12, 3) := by decide +kernel
theorem s_27_6 {d : Nat} {l0 l1 l2 l3 l4 : oV} {a : Nat} {S : List oV} {σ : oSg} {Q : Option oV → (Nat → oC) → Prop} (hk : oKd a = some 1) : oE d 27 6 [l0, l1, l2, l3, l4] (.inr (.inr (.inl a)) :: S) σ Q = oE d 27 9 [l0, l1, l2, l3, l4] (.inr (.inr (.inl (oRf a 0))) :: S) σ Q := pGfR f_27_6 ow_27 fl_1_12 rfl (by decide) hk
theorem f_27_9 : oFet 27 9 = some (.getfield 84, 3) := by decide +kernel
theorem s_27_9 {d : Nat} {l0 l1 l2 l3 l4 : oV} {a : Nat} {S : List oV} {σ : oSg} {Q : Option oV → (Nat → oC) → Prop} (hk : oKd a = some 4) : oE d 27 9 [l0, l1, l2, l3, l4] (.inr (.inr (.inl a)) :: S) σ Q = oE d 27 12 [l0, l1, l2, l3, l4] (.inl (σ.1 a 0) :: S) σ Q := pGfI f_27_9 ow_27 fl_1_84 rfl (by decide) hk
theorem f_27_12 : oFet 27 12 = some (.if_icmp .ge 42, 3) := by decide +kernel
theorem s_27_12 {d : Nat} {l0 l1 l2 l3 l4 : oV} {x y : Int} {S : List oV} {σ : oSg} {Q : Option oV → (Nat → oC) → Prop} : oE d 27 12 [l0, l1, l2, l3, l4] (.inl y :: .inl x :: S) σ Q = if y ≤ x then oE d 27 54 [l0, l1, l2, l3, l4] S σ Q else oE d 27 15 [l0, l1, l2, l3, l4] S σ Q := oCmpGe f_27_12 (by decide)
theorem f_27_15 : oFet 27 15 = some (.aload_n 0, 1) := by decide +kernel
theorem s_27_15 {d : Nat} {l1 l2 l3 l4 : oV} {a : Nat} {S : List oV} {σ : oSg} {Q : Option oV → (Nat → oC) → Prop} : oE d 27 15 [.inr (.inr (.inl a)), l1, l2, l3, l4] S σ Q = oE d 27 16 [.inr (.inr (.inl a)), l1, l2, l3, l4] (.inr (.inr (.inl a)) :: S) σ Q := pLdN (k := 0) f_27_15 rfl rfl rfl
theorem f_27_16 : oFet 27 16 = some (.iload_n 3, 1) := by decide +kernel
theorem s_27_16 {d : Nat} {l0 l1 l2 l4 : oV} {x : Int} {S : List oV} {σ : oSg} {Q : Option oV → (Nat → oC) → Prop} : oE d 27 16 [l0, l1, l2, .inl x, l4] S σ Q = oE d 27 17 [l0, l1, l2, .inl x, l4] (.inl x :: S) σ Q := pLdN (k := 3) f_27_16 rfl rfl rfl
theorem f_27_17 : oFet 27 17 = some (.invokevirtual 49, 3) := by decide +kernel
theorem c_27_17 {d : Nat} {l0 l1 l2 l3 l4 : oV} {x0 : oV} {a : Nat} {v : Option oV} {τ : oSg} {S : List oV} {σ : oSg} {Q : Option oV → (Nat → oC) → Prop} (hm : oMi d 18 [.inr (.inr (.inl a)), x0] σ v τ) (hk : oKd a = some 1) (hs : oSmall S = true) : oE d 27 17 [l0, l1, l2, l3, l4] (x0 :: .inr (.inr (.inl a)) :: S) σ Q = oE d 27 20 [l0, l1, l2, l3, l4] (v.toList ++ S) τ Q := pCallV f_27_17 ow_27 lk_1_49 mt_18 rfl rfl rfl hk hs hm
theorem f_27_20 : oFet 27 20 = some (.istore 4, 2) := by decide +kernel
theorem s_27_20 {d : Nat} {l0 l1 l2 l3 l4 : oV} {x : Int} {S : List oV} {σ : oSg} {Q : Option oV → (Nat → oC) → Prop} (c4 : oCat l4 = 1) (c3 : oCat l3 = 1)  : oE d 27 20 [l0, l1, l2, l3, l4] (.inl x :: S) σ Q = oE d 27 22 [l0, l1, l2, l3, .inl x] S σ Q := pSt (i := 4) f_27_20 rfl rfl (show (4 : Nat) < 5 by decide) (oC1n c3) (oC1n c4) rfl
theorem f_27_22 : oFet 27 22 = some (.iload 4, 2) := by decide +kernel
theorem s_27_22 {d : Nat} {l0 l1 l2 l3 : oV} {x : Int} {S : List oV} {σ : oSg} {Q : Option oV → (Nat → oC) → Prop} : oE d 27 22 [l0, l1, l2, l3, .inl x] S σ Q = oE d 27 24 [l0, l1, l2, l3, .inl x] (.inl x :: S) σ Q := pLd (i := 4) f_27_22 rfl rfl rfl
theorem f_27_24 : oFet 27 24 = some (.iload_n 3, 1) := by decide +kernel
theorem s_27_24 {d : Nat} {l0 l1 l2 l4 : oV} {x : Int} {S : List oV} {σ : oSg} {Q : Option oV → (Nat → oC) → Prop} : oE d 27 24 [l0, l1, l2, .inl x, l4] S σ Q = oE d 27 25 [l0, l1, l2, .inl x, l4] (.inl x :: S) σ Q := pLdN (k := 3) f_27_24 rfl rfl rfl
theorem f_27_25 : oFet 27 25 = some (.if_icmp .le 23, 3) := by decide +kernel
theorem s_27_25 {d : Nat} {l0 l1 l2 l3 l4 : oV} {x y : Int} {S : List oV} {σ : oSg} {Q : Option oV → (Nat → oC) → Prop} : oE d 27 25 [l0, l1, l2, l3, l4] (.inl y :: .inl x :: S) σ Q = if x ≤ y then oE d 27 48 [l0, l1, l2, l3, l4] S σ Q else oE d 27 28 [l0, l1, l2, l3, l4] S σ Q := oCmpLe f_27_25 (by decide)
theorem f_27_28 : oFet 27 28 = some (.iload_n 3, 1) := by decide +kernel
theorem s_27_28 {d : Nat} {l0 l1 l2 l4 : oV} {x : Int} {S : List oV} {σ : oSg} {Q : Option oV → (Nat → oC) → Prop} : oE d 27 28 [l0, l1, l2, .inl x, l4] S σ Q = oE d 27 29 [l0, l1, l2, .inl x, l4] (.inl x :: S) σ Q := pLdN (k := 3) f_27_28 rfl rfl rfl
theorem f_27_29 : oFet 27 29 = some (.iload_n 1, 1) := by decide +kernel
theorem s_27_29 {d : Nat} {l0 l2 l3 l4 : oV} {x : Int} {S : List oV} {σ : oSg} {Q : Option oV → (Nat → oC) → Prop} : oE d 27 29 [l0, .inl x, l2, l3, l4] S σ Q = oE d 27 30 [l0, .inl x, l2, l3, l4] (.inl x :: S) σ Q := pLdN (k := 1) f_27_29 rfl rfl rfl
theorem f_27_30 : oFet 27 30 = some (.invokestatic 87, 3) := by decide +kernel
theorem c_27_30 {d : Nat} {l0 l1 l2 l3 l4 : oV} {x0 x1 : oV} {v : Option oV} {τ : oSg} {S : List oV} {σ : oSg} {Q : Option oV → (Nat → oC) → Prop} (hm : oMi d 28 [x0, x1] σ v τ) (hs : oSmall S = true) : oE d 27 30 [l0, l1, l2, l3, l4] (x1 :: x0 :: S) σ Q = oE d 27 33 [l0, l1, l2, l3, l4] (v.toList ++ S) τ Q := pCallS f_27_30 ow_27 lk_1_87 mt_28 rfl rfl rfl hs hm
theorem f_27_33 : oFet 27 33 = some (.ifCond .eq 15, 3) := by decide +kernel
theorem s_27_33 {d : Nat} {l0 l1 l2 l3 l4 : oV} {x : Int} {S : List oV} {σ : oSg} {Q : Option oV → (Nat → oC) → Prop} : oE d 27 33 [l0, l1, l2, l3, l4] (.inl x :: S) σ Q = if x = 0 then oE d 27 48 [l0, l1, l2, l3, l4] S σ Q else oE d 27 36 [l0, l1, l2, l3, l4] S σ Q := oIfEq f_27_33 (by decide)
theorem f_27_36 : oFet 27 36 = some (.iload 4, 2) := by decide +kernel
theorem s_27_36 {d : Nat} {l0 l1 l2 l3 : oV} {x : Int} {S : List oV} {σ : oSg} {Q : Option oV → (Nat → oC) → Prop} : oE d 27 36 [l0, l1, l2, l3, .inl x] S σ Q = oE d 27 38 [l0, l1, l2, l3, .inl x] (.inl x :: S) σ Q := pLd (i := 4) f_27_36 rfl rfl rfl
theorem f_27_38 : oFet 27 38 = some (.iload_n 1, 1) := by decide +kernel
theorem s_27_38 {d : Nat} {l0 l2 l3 l4 : oV} {x : Int} {S : List oV} {σ : oSg} {Q : Option oV → (Nat → oC) → Prop} : oE d 27 38 [l0, .inl x, l2, l3, l4] S σ Q = oE d 27 39 [l0, .inl x, l2, l3, l4] (.inl x :: S) σ Q := pLdN (k := 1) f_27_38 rfl rfl rfl
theorem f_27_39 : oFet 27 39 = some (.invokestatic 87, 3) := by decide +kernel
theorem c_27_39 {d : Nat} {l0 l1 l2 l3 l4 : oV} {x0 x1 : oV} {v : Option oV} {τ : oSg} {S : List oV} {σ : oSg} {Q : Option oV → (Nat → oC) → Prop} (hm : oMi d 28 [x0, x1] σ v τ) (hs : oSmall S = true) : oE d 27 39 [l0, l1, l2, l3, l4] (x1 :: x0 :: S) σ Q = oE d 27 42 [l0, l1, l2, l3, l4] (v.toList ++ S) τ Q := pCallS f_27_39 ow_27 lk_1_87 mt_28 rfl rfl rfl hs hm
theorem f_27_42 : oFet 27 42 = some (.ifCond .eq 6, 3) := by decide +kernel
theorem s_27_42 {d : Nat} {l0 l1 l2 l3 l4 : oV} {x : Int} {S : List oV} {σ : oSg} {Q : Option oV → (Nat → oC) → Prop} : oE d 27 42 [l0, l1, l2, l3, l4] (.inl x :: S) σ Q = if x = 0 then oE d 27 48 [l0, l1, l2, l3, l4] S σ Q else oE d 27 45 [l0, l1, l2, l3, l4] S σ Q := oIfEq f_27_42 (by decide)
theorem f_27_45 : oFet 27 45 = some (.iinc 2 1, 3) := by decide +kernel
theorem s_27_45 {d : Nat} {l0 l1 l3 l4 : oV} {x : Int} {S : List oV} {σ : oSg} {Q : Option oV → (Nat → oC) → Prop} (c1 : oCat l1 = 1)  : oE d 27 45 [l0, l1, .inl x, l3, l4] S σ Q = oE d 27 48 [l0, l1, .inl (oAdd x (1)), l3, l4] S σ Q := pInc f_27_45 rfl (show (2 : Nat) < 5 by decide) (oC1n c1) (oC1n (v := .inl x) rfl) rfl
theorem f_27_48 : oFet 27 48 = some (.iinc 3 1, 3) := by decide +kernel
theorem s_27_48 {d : Nat} {l0 l1 l2 l4 : oV} {x : Int} {S : List oV} {σ : oSg} {Q : Option oV → (Nat → oC) → Prop} (c2 : oCat l2 = 1)  : oE d 27 48 [l0, l1, l2, .inl x, l4] S σ Q = oE d 27 51 [l0, l1, l2, .inl (oAdd x (1)), l4] S σ Q := pInc f_27_48 rfl (show (3 : Nat) < 5 by decide) (oC1n c2) (oC1n (v := .inl x) rfl) rfl
theorem f_27_51 : oFet 27 51 = some (.goto (-47), 3) := by decide +kernel
theorem s_27_51 {d : Nat} {l0 l1 l2 l3 l4 : oV} {S : List oV} {σ : oSg} {Q : Option oV → (Nat → oC) → Prop} : oE d 27 51 [l0, l1, l2, l3, l4] S σ Q = oE d 27 4 [l0, l1, l2, l3, l4] S σ Q := pGoto f_27_51 (by decide)
theorem f_27_54 : oFet 27 54 = some (.iload_n 2, 1) := by decide +kernel
theorem s_27_54 {d : Nat} {l0 l1 l3 l4 : oV} {x : Int} {S : List oV} {σ : oSg} {Q : Option oV → (Nat → oC) → Prop} : oE d 27 54 [l0, l1, .inl x, l3, l4] S σ Q = oE d 27 55 [l0, l1, .inl x, l3, l4] (.inl x :: S) σ Q := pLdN (k := 2) f_27_54 rfl rfl rfl
theorem f_27_55 : oFet 27 55 = some (.ireturn, 1) := by decide +kernel
theorem s_27_55 {d : Nat} {l0 l1 l2 l3 l4 : oV} {x : Int} {σ : oSg} {Q : Option oV → (Nat → oC) → Prop} : oE d 27 55 [l0, l1, l2, l3, l4] [.inl x] σ Q = Q (some (.inl x)) (oBld σ) := oIret f_27_55 rt_27
theorem ow_28 : (oMt 28).2.2.2.2.1 = 1 := by decide +kernel
theorem rt_28 : (oMt 28).2.2.2.1 = some .boolean := by decide +kernel
theorem nl_28 : (oMt 28).2.2.1 = 2 := by decide +kernel
theorem f_28_0 : oFet 28 0 = some (.iload_n 1, 1) := by decide +kernel
theorem s_28_0 {d : Nat} {l0 : oV} {x : Int} {S : List oV} {σ : oSg} {Q : Option oV → (Nat → oC) → Prop} : oE d 28 0 [l0, .inl x] S σ Q = oE d 28 1 [l0, .inl x] (.inl x :: S) σ Q := pLdN (k := 1) f_28_0 rfl rfl rfl
theorem f_28_1 : oFet 28 1 = some (.iload_n 0, 1) := by decide +kernel
theorem s_28_1 {d : Nat} {l1 : oV} {x : Int} {S : List oV} {σ : oSg} {Q : Option oV → (Nat → oC) → Prop} : oE d 28 1 [.inl x, l1] S σ Q = oE d 28 2 [.inl x, l1] (.inl x :: S) σ Q := pLdN (k := 0) f_28_1 rfl rfl rfl
theorem f_28_2 : oFet 28 2 = some (.ishr, 1) := by decide +kernel
theorem s_28_2 {d : Nat} {l0 l1 : oV} {x y : Int} {S : List oV} {σ : oSg} {Q : Option oV → (Nat → oC) → Prop} : oE d 28 2 [l0, l1] (.inl y :: .inl x :: S) σ Q = oE d 28 3 [l0, l1] (.inl (oShr x y) :: S) σ Q := oS3 f_28_2 rfl rfl rfl
theorem f_28_3 : oFet 28 3 = some (.iconst 1, 1) := by decide +kernel
theorem s_28_3 {d : Nat} {l0 l1 : oV} {S : List oV} {σ : oSg} {Q : Option oV → (Nat → oC) → Prop} : oE d 28 3 [l0, l1] S σ Q = oE d 28 4 [l0, l1] (.inl (1) :: S) σ Q := pKst f_28_3 (by decide)
theorem f_28_4 : oFet 28 4 = some (.iand, 1) := by decide +kernel
theorem s_28_4 {d : Nat} {l0 l1 : oV} {x y : Int} {S : List oV} {σ : oSg} {Q : Option oV → (Nat → oC) → Prop} : oE d 28 4 [l0, l1] (.inl y :: .inl x :: S) σ Q = oE d 28 5 [l0, l1] (.inl (oAnd x y) :: S) σ Q := oS3 f_28_4 rfl rfl rfl
theorem f_28_5 : oFet 28 5 = some (.ifCond .eq 7, 3) := by decide +kernel
theorem s_28_5 {d : Nat} {l0 l1 : oV} {x : Int} {S : List oV} {σ : oSg} {Q : Option oV → (Nat → oC) → Prop} : oE d 28 5 [l0, l1] (.inl x :: S) σ Q = if x = 0 then oE d 28 12 [l0, l1] S σ Q else oE d 28 8 [l0, l1] S σ Q := oIfEq f_28_5 (by decide)
theorem f_28_8 : oFet 28 8 = some (.iconst 1, 1) := by decide +kernel
theorem s_28_8 {d : Nat} {l0 l1 : oV} {S : List oV} {σ : oSg} {Q : Option oV → (Nat → oC) → Prop} : oE d 28 8 [l0, l1] S σ Q = oE d 28 9 [l0, l1] (.inl (1) :: S) σ Q := pKst f_28_8 (by decide)
theorem f_28_9 : oFet 28 9 = some (.goto 4, 3) := by decide +kernel
theorem s_28_9 {d : Nat} {l0 l1 : oV} {S : List oV} {σ : oSg} {Q : Option oV → (Nat → oC) → Prop} : oE d 28 9 [l0, l1] S σ Q = oE d 28 13 [l0, l1] S σ Q := pGoto f_28_9 (by decide)
theorem f_28_12 : oFet 28 12 = some (.iconst 0, 1) := by decide +kernel
theorem s_28_12 {d : Nat} {l0 l1 : oV} {S : List oV} {σ : oSg} {Q : Option oV → (Nat → oC) → Prop} : oE d 28 12 [l0, l1] S σ Q = oE d 28 13 [l0, l1] (.inl (0) :: S) σ Q := pKst f_28_12 (by decide)
theorem f_28_13 : oFet 28 13 = some (.ireturn, 1) := by decide +kernel
theorem s_28_13 {d : Nat} {l0 l1 : oV} {x : Int} {σ : oSg} {Q : Option oV → (Nat → oC) → Prop} (hx : x = 0 ∨ x = 1) : oE d 28 13 [l0, l1] [.inl x] σ Q = Q (some (.inl x)) (oBld σ) := oZret f_28_13 rt_28 hx
theorem ow_29 : (oMt 29).2.2.2.2.1 = 10 := by decide +kernel
theorem rt_29 : (oMt 29).2.2.2.1 = some .int := by decide +kernel
theorem nl_29 : (oMt 29).2.2.1 = 3 := by decide +kernel
theorem f_29_0 : oFet 29 0 = some (.aload_n 0, 1) := by decide +kernel
theorem s_29_0 {d : Nat} {l1 l2 : oV} {a : Nat} {S : List oV} {σ : oSg} {Q : Option oV → (Nat → oC) → Prop} : oE d 29 0 [.inr (.inr (.inl a)), l1, l2] S σ Q = oE d 29 1 [.inr (.inr (.inl a)), l1, l2] (.inr (.inr (.inl a)) :: S) σ Q := pLdN (k := 0) f_29_0 rfl rfl rfl
theorem f_29_1 : oFet 29 1 = some (.getfield 12, 3) := by decide +kernel
theorem s_29_1 {d : Nat} {l0 l1 l2 : oV} {a : Nat} {S : List oV} {σ : oSg} {Q : Option oV → (Nat → oC) → Prop} (hk : oKd a = some 10) : oE d 29 1 [l0, l1, l2] (.inr (.inr (.inl a)) :: S) σ Q = oE d 29 4 [l0, l1, l2] (.inr (.inr (.inl (oRf a 0))) :: S) σ Q := pGfR f_29_1 ow_29 fl_10_12 rfl (by decide) hk
theorem f_29_4 : oFet 29 4 = some (.getfield 73, 3) := by decide +kernel
theorem s_29_4 {d : Nat} {l0 l1 l2 : oV} {a : Nat} {S : List oV} {σ : oSg} {Q : Option oV → (Nat → oC) → Prop} (hk : oKd a = some 1) : oE d 29 4 [l0, l1, l2] (.inr (.inr (.inl a)) :: S) σ Q = oE d 29 7 [l0, l1, l2] (.inr (.inr (.inl (oRf a 0))) :: S) σ Q := pGfR f_29_4 ow_29 fl_10_73 rfl (by decide) hk
theorem f_29_7 : oFet 29 7 = some (.iload_n 1, 1) := by decide +kernel
theorem s_29_7 {d : Nat} {l0 l2 : oV} {x : Int} {S : List oV} {σ : oSg} {Q : Option oV → (Nat → oC) → Prop} : oE d 29 7 [l0, .inl x, l2] S σ Q = oE d 29 8 [l0, .inl x, l2] (.inl x :: S) σ Q := pLdN (k := 1) f_29_7 rfl rfl rfl
theorem f_29_8 : oFet 29 8 = some (.invokevirtual 115, 3) := by decide +kernel
theorem c_29_8 {d : Nat} {l0 l1 l2 : oV} {x0 : oV} {a : Nat} {v : Option oV} {τ : oSg} {S : List oV} {σ : oSg} {Q : Option oV → (Nat → oC) → Prop} (hm : oMi d 15 [.inr (.inr (.inl a)), x0] σ v τ) (hk : oKd a = some 4) (hs : oSmall S = true) : oE d 29 8 [l0, l1, l2] (x0 :: .inr (.inr (.inl a)) :: S) σ Q = oE d 29 11 [l0, l1, l2] (v.toList ++ S) τ Q := pCallV f_29_8 ow_29 lk_10_115 mt_15 rfl rfl rfl hk hs hm
theorem f_29_11 : oFet 29 11 = some (.ifCond .ne 5, 3) := by decide +kernel
theorem s_29_11 {d : Nat} {l0 l1 l2 : oV} {x : Int} {S : List oV} {σ : oSg} {Q : Option oV → (Nat → oC) → Prop} : oE d 29 11 [l0, l1, l2] (.inl x :: S) σ Q = if ¬ x = 0 then oE d 29 16 [l0, l1, l2] S σ Q else oE d 29 14 [l0, l1, l2] S σ Q := oIfNe f_29_11 (by decide)
theorem f_29_14 : oFet 29 14 = some (.iconst (-1), 1) := by decide +kernel
theorem s_29_14 {d : Nat} {l0 l1 l2 : oV} {S : List oV} {σ : oSg} {Q : Option oV → (Nat → oC) → Prop} : oE d 29 14 [l0, l1, l2] S σ Q = oE d 29 15 [l0, l1, l2] (.inl (-1) :: S) σ Q := pKst f_29_14 (by decide)
theorem f_29_15 : oFet 29 15 = some (.ireturn, 1) := by decide +kernel
theorem s_29_15 {d : Nat} {l0 l1 l2 : oV} {x : Int} {σ : oSg} {Q : Option oV → (Nat → oC) → Prop} : oE d 29 15 [l0, l1, l2] [.inl x] σ Q = Q (some (.inl x)) (oBld σ) := oIret f_29_15 rt_29
theorem f_29_16 : oFet 29 16 = some (.aload_n 0, 1) := by decide +kernel
theorem s_29_16 {d : Nat} {l1 l2 : oV} {a : Nat} {S : List oV} {σ : oSg} {Q : Option oV → (Nat → oC) → Prop} : oE d 29 16 [.inr (.inr (.inl a)), l1, l2] S σ Q = oE d 29 17 [.inr (.inr (.inl a)), l1, l2] (.inr (.inr (.inl a)) :: S) σ Q := pLdN (k := 0) f_29_16 rfl rfl rfl
theorem f_29_17 : oFet 29 17 = some (.getfield 12, 3) := by decide +kernel
theorem s_29_17 {d : Nat} {l0 l1 l2 : oV} {a : Nat} {S : List oV} {σ : oSg} {Q : Option oV → (Nat → oC) → Prop} (hk : oKd a = some 10) : oE d 29 17 [l0, l1, l2] (.inr (.inr (.inl a)) :: S) σ Q = oE d 29 20 [l0, l1, l2] (.inr (.inr (.inl (oRf a 0))) :: S) σ Q := pGfR f_29_17 ow_29 fl_10_12 rfl (by decide) hk
theorem f_29_20 : oFet 29 20 = some (.iload_n 1, 1) := by decide +kernel
theorem s_29_20 {d : Nat} {l0 l2 : oV} {x : Int} {S : List oV} {σ : oSg} {Q : Option oV → (Nat → oC) → Prop} : oE d 29 20 [l0, .inl x, l2] S σ Q = oE d 29 21 [l0, .inl x, l2] (.inl x :: S) σ Q := pLdN (k := 1) f_29_20 rfl rfl rfl
theorem f_29_21 : oFet 29 21 = some (.invokevirtual 92, 3) := by decide +kernel
theorem c_29_21 {d : Nat} {l0 l1 l2 : oV} {x0 : oV} {a : Nat} {v : Option oV} {τ : oSg} {S : List oV} {σ : oSg} {Q : Option oV → (Nat → oC) → Prop} (hm : oMi d 18 [.inr (.inr (.inl a)), x0] σ v τ) (hk : oKd a = some 1) (hs : oSmall S = true) : oE d 29 21 [l0, l1, l2] (x0 :: .inr (.inr (.inl a)) :: S) σ Q = oE d 29 24 [l0, l1, l2] (v.toList ++ S) τ Q := pCallV f_29_21 ow_29 lk_10_92 mt_18 rfl rfl rfl hk hs hm
theorem f_29_24 : oFet 29 24 = some (.istore_n 2, 1) := by decide +kernel
theorem s_29_24 {d : Nat} {l0 l1 l2 : oV} {x : Int} {S : List oV} {σ : oSg} {Q : Option oV → (Nat → oC) → Prop} (c2 : oCat l2 = 1) (c1 : oCat l1 = 1)  : oE d 29 24 [l0, l1, l2] (.inl x :: S) σ Q = oE d 29 25 [l0, l1, .inl x] S σ Q := pSt (i := 2) f_29_24 rfl rfl (show (2 : Nat) < 3 by decide) (oC1n c1) (oC1n c2) rfl
theorem f_29_25 : oFet 29 25 = some (.aload_n 0, 1) := by decide +kernel
theorem s_29_25 {d : Nat} {l1 l2 : oV} {a : Nat} {S : List oV} {σ : oSg} {Q : Option oV → (Nat → oC) → Prop} : oE d 29 25 [.inr (.inr (.inl a)), l1, l2] S σ Q = oE d 29 26 [.inr (.inr (.inl a)), l1, l2] (.inr (.inr (.inl a)) :: S) σ Q := pLdN (k := 0) f_29_25 rfl rfl rfl
theorem f_29_26 : oFet 29 26 = some (.getfield 12, 3) := by decide +kernel
theorem s_29_26 {d : Nat} {l0 l1 l2 : oV} {a : Nat} {S : List oV} {σ : oSg} {Q : Option oV → (Nat → oC) → Prop} (hk : oKd a = some 10) : oE d 29 26 [l0, l1, l2] (.inr (.inr (.inl a)) :: S) σ Q = oE d 29 29 [l0, l1, l2] (.inr (.inr (.inl (oRf a 0))) :: S) σ Q := pGfR f_29_26 ow_29 fl_10_12 rfl (by decide) hk
theorem f_29_29 : oFet 29 29 = some (.iload_n 1, 1) := by decide +kernel
theorem s_29_29 {d : Nat} {l0 l2 : oV} {x : Int} {S : List oV} {σ : oSg} {Q : Option oV → (Nat → oC) → Prop} : oE d 29 29 [l0, .inl x, l2] S σ Q = oE d 29 30 [l0, .inl x, l2] (.inl x :: S) σ Q := pLdN (k := 1) f_29_29 rfl rfl rfl
theorem f_29_30 : oFet 29 30 = some (.invokevirtual 96, 3) := by decide +kernel
theorem c_29_30 {d : Nat} {l0 l1 l2 : oV} {x0 : oV} {a : Nat} {v : Option oV} {τ : oSg} {S : List oV} {σ : oSg} {Q : Option oV → (Nat → oC) → Prop} (hm : oMi d 19 [.inr (.inr (.inl a)), x0] σ v τ) (hk : oKd a = some 1) (hs : oSmall S = true) : oE d 29 30 [l0, l1, l2] (x0 :: .inr (.inr (.inl a)) :: S) σ Q = oE d 29 33 [l0, l1, l2] (v.toList ++ S) τ Q := pCallV f_29_30 ow_29 lk_10_96 mt_19 rfl rfl rfl hk hs hm
theorem f_29_33 : oFet 29 33 = some (.iload_n 2, 1) := by decide +kernel
theorem s_29_33 {d : Nat} {l0 l1 : oV} {x : Int} {S : List oV} {σ : oSg} {Q : Option oV → (Nat → oC) → Prop} : oE d 29 33 [l0, l1, .inl x] S σ Q = oE d 29 34 [l0, l1, .inl x] (.inl x :: S) σ Q := pLdN (k := 2) f_29_33 rfl rfl rfl
theorem f_29_34 : oFet 29 34 = some (.invokestatic 118, 3) := by decide +kernel
theorem c_29_34 {d : Nat} {l0 l1 l2 : oV} {x0 : oV} {v : Option oV} {τ : oSg} {S : List oV} {σ : oSg} {Q : Option oV → (Nat → oC) → Prop} (hm : oMi d 30 [x0] σ v τ) (hs : oSmall S = true) : oE d 29 34 [l0, l1, l2] (x0 :: S) σ Q = oE d 29 37 [l0, l1, l2] (v.toList ++ S) τ Q := pCallS f_29_34 ow_29 lk_10_118 mt_30 rfl rfl rfl hs hm
theorem f_29_37 : oFet 29 37 = some (.ireturn, 1) := by decide +kernel
theorem s_29_37 {d : Nat} {l0 l1 l2 : oV} {x : Int} {σ : oSg} {Q : Option oV → (Nat → oC) → Prop} : oE d 29 37 [l0, l1, l2] [.inl x] σ Q = Q (some (.inl x)) (oBld σ) := oIret f_29_37 rt_29
theorem ow_30 : (oMt 30).2.2.2.2.1 = 10 := by decide +kernel
theorem rt_30 : (oMt 30).2.2.2.1 = some .int := by decide +kernel
theorem nl_30 : (oMt 30).2.2.1 = 1 := by decide +kernel
theorem f_30_0 : oFet 30 0 = some (.iload_n 0, 1) := by decide +kernel
theorem s_30_0 {d : Nat} {x : Int} {S : List oV} {σ : oSg} {Q : Option oV → (Nat → oC) → Prop} : oE d 30 0 [.inl x] S σ Q = oE d 30 1 [.inl x] (.inl x :: S) σ Q := pLdN (k := 0) f_30_0 rfl rfl rfl
theorem f_30_1 : oFet 30 1 = some (.ifCond .ge 8, 3) := by decide +kernel
theorem s_30_1 {d : Nat} {l0 : oV} {x : Int} {S : List oV} {σ : oSg} {Q : Option oV → (Nat → oC) → Prop} : oE d 30 1 [l0] (.inl x :: S) σ Q = if 0 ≤ x then oE d 30 9 [l0] S σ Q else oE d 30 4 [l0] S σ Q := oIfGe f_30_1 (by decide)
theorem f_30_4 : oFet 30 4 = some (.bipush (-5), 2) := by decide +kernel
theorem s_30_4 {d : Nat} {l0 : oV} {S : List oV} {σ : oSg} {Q : Option oV → (Nat → oC) → Prop} : oE d 30 4 [l0] S σ Q = oE d 30 6 [l0] (.inl (-5) :: S) σ Q := pBip f_30_4 (by decide)
theorem f_30_6 : oFet 30 6 = some (.goto 4, 3) := by decide +kernel
theorem s_30_6 {d : Nat} {l0 : oV} {S : List oV} {σ : oSg} {Q : Option oV → (Nat → oC) → Prop} : oE d 30 6 [l0] S σ Q = oE d 30 10 [l0] S σ Q := pGoto f_30_6 (by decide)
theorem f_30_9 : oFet 30 9 = some (.iload_n 0, 1) := by decide +kernel
theorem s_30_9 {d : Nat} {x : Int} {S : List oV} {σ : oSg} {Q : Option oV → (Nat → oC) → Prop} : oE d 30 9 [.inl x] S σ Q = oE d 30 10 [.inl x] (.inl x :: S) σ Q := pLdN (k := 0) f_30_9 rfl rfl rfl
theorem f_30_10 : oFet 30 10 = some (.ireturn, 1) := by decide +kernel
theorem s_30_10 {d : Nat} {l0 : oV} {x : Int} {σ : oSg} {Q : Option oV → (Nat → oC) → Prop} : oE d 30 10 [l0] [.inl x] σ Q = Q (some (.inl x)) (oBld σ) := oIret f_30_10 rt_30
theorem ow_31 : (oMt 31).2.2.2.2.1 = 10 := by decide +kernel
theorem rt_31 : (oMt 31).2.2.2.1 = some .int := by decide +kernel
theorem nl_31 : (oMt 31).2.2.1 = 2 := by decide +kernel
theorem f_31_0 : oFet 31 0 = some (.iload_n 1, 1) := by decide +kernel
theorem s_31_0 {d : Nat} {l0 : oV} {x : Int} {S : List oV} {σ : oSg} {Q : Option oV → (Nat → oC) → Prop} : oE d 31 0 [l0, .inl x] S σ Q = oE d 31 1 [l0, .inl x] (.inl x :: S) σ Q := pLdN (k := 1) f_31_0 rfl rfl rfl
theorem f_31_1 : oFet 31 1 = some (.invokestatic 121, 3) := by decide +kernel
theorem c_31_1 {d : Nat} {l0 l1 : oV} {x0 : oV} {v : Option oV} {τ : oSg} {S : List oV} {σ : oSg} {Q : Option oV → (Nat → oC) → Prop} (hm : oMi d 32 [x0] σ v τ) (hs : oSmall S = true) : oE d 31 1 [l0, l1] (x0 :: S) σ Q = oE d 31 4 [l0, l1] (v.toList ++ S) τ Q := pCallS f_31_1 ow_31 lk_10_121 mt_32 rfl rfl rfl hs hm
theorem f_31_4 : oFet 31 4 = some (.ifCond .ne 6, 3) := by decide +kernel
theorem s_31_4 {d : Nat} {l0 l1 : oV} {x : Int} {S : List oV} {σ : oSg} {Q : Option oV → (Nat → oC) → Prop} : oE d 31 4 [l0, l1] (.inl x :: S) σ Q = if ¬ x = 0 then oE d 31 10 [l0, l1] S σ Q else oE d 31 7 [l0, l1] S σ Q := oIfNe f_31_4 (by decide)
theorem f_31_7 : oFet 31 7 = some (.bipush (-2), 2) := by decide +kernel
theorem s_31_7 {d : Nat} {l0 l1 : oV} {S : List oV} {σ : oSg} {Q : Option oV → (Nat → oC) → Prop} : oE d 31 7 [l0, l1] S σ Q = oE d 31 9 [l0, l1] (.inl (-2) :: S) σ Q := pBip f_31_7 (by decide)
theorem f_31_9 : oFet 31 9 = some (.ireturn, 1) := by decide +kernel
theorem s_31_9 {d : Nat} {l0 l1 : oV} {x : Int} {σ : oSg} {Q : Option oV → (Nat → oC) → Prop} : oE d 31 9 [l0, l1] [.inl x] σ Q = Q (some (.inl x)) (oBld σ) := oIret f_31_9 rt_31
theorem f_31_10 : oFet 31 10 = some (.aload_n 0, 1) := by decide +kernel
theorem s_31_10 {d : Nat} {l1 : oV} {a : Nat} {S : List oV} {σ : oSg} {Q : Option oV → (Nat → oC) → Prop} : oE d 31 10 [.inr (.inr (.inl a)), l1] S σ Q = oE d 31 11 [.inr (.inr (.inl a)), l1] (.inr (.inr (.inl a)) :: S) σ Q := pLdN (k := 0) f_31_10 rfl rfl rfl
theorem f_31_11 : oFet 31 11 = some (.getfield 45, 3) := by decide +kernel
theorem s_31_11 {d : Nat} {l0 l1 : oV} {a : Nat} {S : List oV} {σ : oSg} {Q : Option oV → (Nat → oC) → Prop} (hk : oKd a = some 10) : oE d 31 11 [l0, l1] (.inr (.inr (.inl a)) :: S) σ Q = oE d 31 14 [l0, l1] (.inr (.inr (.inl (oRf a 6))) :: S) σ Q := pGfR f_31_11 ow_31 fl_10_45 rfl (by decide) hk
theorem f_31_14 : oFet 31 14 = some (.aload_n 0, 1) := by decide +kernel
theorem s_31_14 {d : Nat} {l1 : oV} {a : Nat} {S : List oV} {σ : oSg} {Q : Option oV → (Nat → oC) → Prop} : oE d 31 14 [.inr (.inr (.inl a)), l1] S σ Q = oE d 31 15 [.inr (.inr (.inl a)), l1] (.inr (.inr (.inl a)) :: S) σ Q := pLdN (k := 0) f_31_14 rfl rfl rfl
theorem f_31_15 : oFet 31 15 = some (.getfield 12, 3) := by decide +kernel
theorem s_31_15 {d : Nat} {l0 l1 : oV} {a : Nat} {S : List oV} {σ : oSg} {Q : Option oV → (Nat → oC) → Prop} (hk : oKd a = some 10) : oE d 31 15 [l0, l1] (.inr (.inr (.inl a)) :: S) σ Q = oE d 31 18 [l0, l1] (.inr (.inr (.inl (oRf a 0))) :: S) σ Q := pGfR f_31_15 ow_31 fl_10_12 rfl (by decide) hk
theorem f_31_18 : oFet 31 18 = some (.getfield 73, 3) := by decide +kernel
theorem s_31_18 {d : Nat} {l0 l1 : oV} {a : Nat} {S : List oV} {σ : oSg} {Q : Option oV → (Nat → oC) → Prop} (hk : oKd a = some 1) : oE d 31 18 [l0, l1] (.inr (.inr (.inl a)) :: S) σ Q = oE d 31 21 [l0, l1] (.inr (.inr (.inl (oRf a 0))) :: S) σ Q := pGfR f_31_18 ow_31 fl_10_73 rfl (by decide) hk
theorem f_31_21 : oFet 31 21 = some (.iload_n 1, 1) := by decide +kernel
theorem s_31_21 {d : Nat} {l0 : oV} {x : Int} {S : List oV} {σ : oSg} {Q : Option oV → (Nat → oC) → Prop} : oE d 31 21 [l0, .inl x] S σ Q = oE d 31 22 [l0, .inl x] (.inl x :: S) σ Q := pLdN (k := 1) f_31_21 rfl rfl rfl
theorem f_31_22 : oFet 31 22 = some (.invokevirtual 124, 3) := by decide +kernel
theorem c_31_22 {d : Nat} {l0 l1 : oV} {x0 x1 : oV} {a : Nat} {v : Option oV} {τ : oSg} {S : List oV} {σ : oSg} {Q : Option oV → (Nat → oC) → Prop} (hm : oMi d 33 [.inr (.inr (.inl a)), x0, x1] σ v τ) (hk : oKd a = some 3) (hs : oSmall S = true) : oE d 31 22 [l0, l1] (x1 :: x0 :: .inr (.inr (.inl a)) :: S) σ Q = oE d 31 25 [l0, l1] (v.toList ++ S) τ Q := pCallV f_31_22 ow_31 lk_10_124 mt_33 rfl rfl rfl hk hs hm
theorem f_31_25 : oFet 31 25 = some (.aload_n 0, 1) := by decide +kernel
theorem s_31_25 {d : Nat} {l1 : oV} {a : Nat} {S : List oV} {σ : oSg} {Q : Option oV → (Nat → oC) → Prop} : oE d 31 25 [.inr (.inr (.inl a)), l1] S σ Q = oE d 31 26 [.inr (.inr (.inl a)), l1] (.inr (.inr (.inl a)) :: S) σ Q := pLdN (k := 0) f_31_25 rfl rfl rfl
theorem f_31_26 : oFet 31 26 = some (.getfield 12, 3) := by decide +kernel
theorem s_31_26 {d : Nat} {l0 l1 : oV} {a : Nat} {S : List oV} {σ : oSg} {Q : Option oV → (Nat → oC) → Prop} (hk : oKd a = some 10) : oE d 31 26 [l0, l1] (.inr (.inr (.inl a)) :: S) σ Q = oE d 31 29 [l0, l1] (.inr (.inr (.inl (oRf a 0))) :: S) σ Q := pGfR f_31_26 ow_31 fl_10_12 rfl (by decide) hk
theorem f_31_29 : oFet 31 29 = some (.aload_n 0, 1) := by decide +kernel
theorem s_31_29 {d : Nat} {l1 : oV} {a : Nat} {S : List oV} {σ : oSg} {Q : Option oV → (Nat → oC) → Prop} : oE d 31 29 [.inr (.inr (.inl a)), l1] S σ Q = oE d 31 30 [.inr (.inr (.inl a)), l1] (.inr (.inr (.inl a)) :: S) σ Q := pLdN (k := 0) f_31_29 rfl rfl rfl
theorem f_31_30 : oFet 31 30 = some (.getfield 45, 3) := by decide +kernel
theorem s_31_30 {d : Nat} {l0 l1 : oV} {a : Nat} {S : List oV} {σ : oSg} {Q : Option oV → (Nat → oC) → Prop} (hk : oKd a = some 10) : oE d 31 30 [l0, l1] (.inr (.inr (.inl a)) :: S) σ Q = oE d 31 33 [l0, l1] (.inr (.inr (.inl (oRf a 6))) :: S) σ Q := pGfR f_31_30 ow_31 fl_10_45 rfl (by decide) hk
theorem f_31_33 : oFet 31 33 = some (.invokevirtual 128, 3) := by decide +kernel
theorem c_31_33 {d : Nat} {l0 l1 : oV} {x0 : oV} {a : Nat} {v : Option oV} {τ : oSg} {S : List oV} {σ : oSg} {Q : Option oV → (Nat → oC) → Prop} (hm : oMi d 40 [.inr (.inr (.inl a)), x0] σ v τ) (hk : oKd a = some 1) (hs : oSmall S = true) : oE d 31 33 [l0, l1] (x0 :: .inr (.inr (.inl a)) :: S) σ Q = oE d 31 36 [l0, l1] (v.toList ++ S) τ Q := pCallV f_31_33 ow_31 lk_10_128 mt_40 rfl rfl rfl hk hs hm
theorem f_31_36 : oFet 31 36 = some (.aload_n 0, 1) := by decide +kernel
theorem s_31_36 {d : Nat} {l1 : oV} {a : Nat} {S : List oV} {σ : oSg} {Q : Option oV → (Nat → oC) → Prop} : oE d 31 36 [.inr (.inr (.inl a)), l1] S σ Q = oE d 31 37 [.inr (.inr (.inl a)), l1] (.inr (.inr (.inl a)) :: S) σ Q := pLdN (k := 0) f_31_36 rfl rfl rfl
theorem f_31_37 : oFet 31 37 = some (.getfield 45, 3) := by decide +kernel
theorem s_31_37 {d : Nat} {l0 l1 : oV} {a : Nat} {S : List oV} {σ : oSg} {Q : Option oV → (Nat → oC) → Prop} (hk : oKd a = some 10) : oE d 31 37 [l0, l1] (.inr (.inr (.inl a)) :: S) σ Q = oE d 31 40 [l0, l1] (.inr (.inr (.inl (oRf a 6))) :: S) σ Q := pGfR f_31_37 ow_31 fl_10_45 rfl (by decide) hk
theorem f_31_40 : oFet 31 40 = some (.getfield 132, 3) := by decide +kernel
theorem s_31_40 {d : Nat} {l0 l1 : oV} {a : Nat} {S : List oV} {σ : oSg} {Q : Option oV → (Nat → oC) → Prop} (hk : oKd a = some 3) : oE d 31 40 [l0, l1] (.inr (.inr (.inl a)) :: S) σ Q = oE d 31 43 [l0, l1] (.inl (σ.1 a 1) :: S) σ Q := pGfI f_31_40 ow_31 fl_10_132 rfl (by decide) hk
theorem f_31_43 : oFet 31 43 = some (.ireturn, 1) := by decide +kernel
theorem s_31_43 {d : Nat} {l0 l1 : oV} {x : Int} {σ : oSg} {Q : Option oV → (Nat → oC) → Prop} : oE d 31 43 [l0, l1] [.inl x] σ Q = Q (some (.inl x)) (oBld σ) := oIret f_31_43 rt_31
theorem ow_32 : (oMt 32).2.2.2.2.1 = 10 := by decide +kernel
theorem rt_32 : (oMt 32).2.2.2.1 = some .boolean := by decide +kernel
theorem nl_32 : (oMt 32).2.2.1 = 1 := by decide +kernel
theorem f_32_0 : oFet 32 0 = some (.iload_n 0, 1) := by decide +kernel
theorem s_32_0 {d : Nat} {x : Int} {S : List oV} {σ : oSg} {Q : Option oV → (Nat → oC) → Prop} : oE d 32 0 [.inl x] S σ Q = oE d 32 1 [.inl x] (.inl x :: S) σ Q := pLdN (k := 0) f_32_0 rfl rfl rfl
theorem f_32_1 : oFet 32 1 = some (.ifCond .eq 8, 3) := by decide +kernel
theorem s_32_1 {d : Nat} {l0 : oV} {x : Int} {S : List oV} {σ : oSg} {Q : Option oV → (Nat → oC) → Prop} : oE d 32 1 [l0] (.inl x :: S) σ Q = if x = 0 then oE d 32 9 [l0] S σ Q else oE d 32 4 [l0] S σ Q := oIfEq f_32_1 (by decide)
theorem f_32_4 : oFet 32 4 = some (.iload_n 0, 1) := by decide +kernel
theorem s_32_4 {d : Nat} {x : Int} {S : List oV} {σ : oSg} {Q : Option oV → (Nat → oC) → Prop} : oE d 32 4 [.inl x] S σ Q = oE d 32 5 [.inl x] (.inl x :: S) σ Q := pLdN (k := 0) f_32_4 rfl rfl rfl
theorem f_32_5 : oFet 32 5 = some (.iconst 1, 1) := by decide +kernel
theorem s_32_5 {d : Nat} {l0 : oV} {S : List oV} {σ : oSg} {Q : Option oV → (Nat → oC) → Prop} : oE d 32 5 [l0] S σ Q = oE d 32 6 [l0] (.inl (1) :: S) σ Q := pKst f_32_5 (by decide)
theorem f_32_6 : oFet 32 6 = some (.if_icmp .ne 7, 3) := by decide +kernel
theorem s_32_6 {d : Nat} {l0 : oV} {x y : Int} {S : List oV} {σ : oSg} {Q : Option oV → (Nat → oC) → Prop} : oE d 32 6 [l0] (.inl y :: .inl x :: S) σ Q = if ¬ x = y then oE d 32 13 [l0] S σ Q else oE d 32 9 [l0] S σ Q := oCmpNe f_32_6 (by decide)
theorem f_32_9 : oFet 32 9 = some (.iconst 1, 1) := by decide +kernel
theorem s_32_9 {d : Nat} {l0 : oV} {S : List oV} {σ : oSg} {Q : Option oV → (Nat → oC) → Prop} : oE d 32 9 [l0] S σ Q = oE d 32 10 [l0] (.inl (1) :: S) σ Q := pKst f_32_9 (by decide)
theorem f_32_10 : oFet 32 10 = some (.goto 4, 3) := by decide +kernel
theorem s_32_10 {d : Nat} {l0 : oV} {S : List oV} {σ : oSg} {Q : Option oV → (Nat → oC) → Prop} : oE d 32 10 [l0] S σ Q = oE d 32 14 [l0] S σ Q := pGoto f_32_10 (by decide)
theorem f_32_13 : oFet 32 13 = some (.iconst 0, 1) := by decide +kernel
theorem s_32_13 {d : Nat} {l0 : oV} {S : List oV} {σ : oSg} {Q : Option oV → (Nat → oC) → Prop} : oE d 32 13 [l0] S σ Q = oE d 32 14 [l0] (.inl (0) :: S) σ Q := pKst f_32_13 (by decide)
theorem f_32_14 : oFet 32 14 = some (.ireturn, 1) := by decide +kernel
theorem s_32_14 {d : Nat} {l0 : oV} {x : Int} {σ : oSg} {Q : Option oV → (Nat → oC) → Prop} (hx : x = 0 ∨ x = 1) : oE d 32 14 [l0] [.inl x] σ Q = Q (some (.inl x)) (oBld σ) := oZret f_32_14 rt_32 hx
theorem ow_33 : (oMt 33).2.2.2.2.1 = 3 := by decide +kernel
theorem rt_33 : (oMt 33).2.2.2.1 = none := by decide +kernel
theorem nl_33 : (oMt 33).2.2.1 = 3 := by decide +kernel
theorem f_33_0 : oFet 33 0 = some (.aload_n 0, 1) := by decide +kernel
theorem s_33_0 {d : Nat} {l1 l2 : oV} {a : Nat} {S : List oV} {σ : oSg} {Q : Option oV → (Nat → oC) → Prop} : oE d 33 0 [.inr (.inr (.inl a)), l1, l2] S σ Q = oE d 33 1 [.inr (.inr (.inl a)), l1, l2] (.inr (.inr (.inl a)) :: S) σ Q := pLdN (k := 0) f_33_0 rfl rfl rfl
theorem f_33_1 : oFet 33 1 = some (.iload_n 2, 1) := by decide +kernel
theorem s_33_1 {d : Nat} {l0 l1 : oV} {x : Int} {S : List oV} {σ : oSg} {Q : Option oV → (Nat → oC) → Prop} : oE d 33 1 [l0, l1, .inl x] S σ Q = oE d 33 2 [l0, l1, .inl x] (.inl x :: S) σ Q := pLdN (k := 2) f_33_1 rfl rfl rfl
theorem f_33_2 : oFet 33 2 = some (.iconst 1, 1) := by decide +kernel
theorem s_33_2 {d : Nat} {l0 l1 l2 : oV} {S : List oV} {σ : oSg} {Q : Option oV → (Nat → oC) → Prop} : oE d 33 2 [l0, l1, l2] S σ Q = oE d 33 3 [l0, l1, l2] (.inl (1) :: S) σ Q := pKst f_33_2 (by decide)
theorem f_33_3 : oFet 33 3 = some (.if_icmp .ne 8, 3) := by decide +kernel
theorem s_33_3 {d : Nat} {l0 l1 l2 : oV} {x y : Int} {S : List oV} {σ : oSg} {Q : Option oV → (Nat → oC) → Prop} : oE d 33 3 [l0, l1, l2] (.inl y :: .inl x :: S) σ Q = if ¬ x = y then oE d 33 11 [l0, l1, l2] S σ Q else oE d 33 6 [l0, l1, l2] S σ Q := oCmpNe f_33_3 (by decide)
theorem f_33_6 : oFet 33 6 = some (.bipush 100, 2) := by decide +kernel
theorem s_33_6 {d : Nat} {l0 l1 l2 : oV} {S : List oV} {σ : oSg} {Q : Option oV → (Nat → oC) → Prop} : oE d 33 6 [l0, l1, l2] S σ Q = oE d 33 8 [l0, l1, l2] (.inl (100) :: S) σ Q := pBip f_33_6 (by decide)
theorem f_33_8 : oFet 33 8 = some (.goto 4, 3) := by decide +kernel
theorem s_33_8 {d : Nat} {l0 l1 l2 : oV} {S : List oV} {σ : oSg} {Q : Option oV → (Nat → oC) → Prop} : oE d 33 8 [l0, l1, l2] S σ Q = oE d 33 12 [l0, l1, l2] S σ Q := pGoto f_33_8 (by decide)
theorem f_33_11 : oFet 33 11 = some (.iconst 0, 1) := by decide +kernel
theorem s_33_11 {d : Nat} {l0 l1 l2 : oV} {S : List oV} {σ : oSg} {Q : Option oV → (Nat → oC) → Prop} : oE d 33 11 [l0, l1, l2] S σ Q = oE d 33 12 [l0, l1, l2] (.inl (0) :: S) σ Q := pKst f_33_11 (by decide)
theorem f_33_12 : oFet 33 12 = some (.putfield 18, 3) := by decide +kernel
theorem s_33_12 {d : Nat} {l0 l1 l2 : oV} {a : Nat} {v : Int} {S : List oV} {σ : oSg} {Q : Option oV → (Nat → oC) → Prop} (hk : oKd a = some 3) : oE d 33 12 [l0, l1, l2] (.inl v :: .inr (.inr (.inl a)) :: S) σ Q = oE d 33 15 [l0, l1, l2] S (oSF σ a 2 v) Q := pPfI f_33_12 ow_33 fl_3_18 rfl (by decide) rfl rfl hk
theorem f_33_15 : oFet 33 15 = some (.aload_n 0, 1) := by decide +kernel
theorem s_33_15 {d : Nat} {l1 l2 : oV} {a : Nat} {S : List oV} {σ : oSg} {Q : Option oV → (Nat → oC) → Prop} : oE d 33 15 [.inr (.inr (.inl a)), l1, l2] S σ Q = oE d 33 16 [.inr (.inr (.inl a)), l1, l2] (.inr (.inr (.inl a)) :: S) σ Q := pLdN (k := 0) f_33_15 rfl rfl rfl
theorem f_33_16 : oFet 33 16 = some (.aload_n 1, 1) := by decide +kernel
theorem s_33_16 {d : Nat} {l0 l2 : oV} {a : Nat} {S : List oV} {σ : oSg} {Q : Option oV → (Nat → oC) → Prop} : oE d 33 16 [l0, .inr (.inr (.inl a)), l2] S σ Q = oE d 33 17 [l0, .inr (.inr (.inl a)), l2] (.inr (.inr (.inl a)) :: S) σ Q := pLdN (k := 1) f_33_16 rfl rfl rfl
theorem f_33_17 : oFet 33 17 = some (.invokevirtual 22, 3) := by decide +kernel
theorem c_33_17 {d : Nat} {l0 l1 l2 : oV} {x0 : oV} {a : Nat} {v : Option oV} {τ : oSg} {S : List oV} {σ : oSg} {Q : Option oV → (Nat → oC) → Prop} (hm : oMi d 34 [.inr (.inr (.inl a)), x0] σ v τ) (hk : oKd a = some 3) (hs : oSmall S = true) : oE d 33 17 [l0, l1, l2] (x0 :: .inr (.inr (.inl a)) :: S) σ Q = oE d 33 20 [l0, l1, l2] (v.toList ++ S) τ Q := pCallV f_33_17 ow_33 lk_3_22 mt_34 rfl rfl rfl hk hs hm
theorem f_33_20 : oFet 33 20 = some (.aload_n 0, 1) := by decide +kernel
theorem s_33_20 {d : Nat} {l1 l2 : oV} {a : Nat} {S : List oV} {σ : oSg} {Q : Option oV → (Nat → oC) → Prop} : oE d 33 20 [.inr (.inr (.inl a)), l1, l2] S σ Q = oE d 33 21 [.inr (.inr (.inl a)), l1, l2] (.inr (.inr (.inl a)) :: S) σ Q := pLdN (k := 0) f_33_20 rfl rfl rfl
theorem f_33_21 : oFet 33 21 = some (.aload_n 1, 1) := by decide +kernel
theorem s_33_21 {d : Nat} {l0 l2 : oV} {a : Nat} {S : List oV} {σ : oSg} {Q : Option oV → (Nat → oC) → Prop} : oE d 33 21 [l0, .inr (.inr (.inl a)), l2] S σ Q = oE d 33 22 [l0, .inr (.inr (.inl a)), l2] (.inr (.inr (.inl a)) :: S) σ Q := pLdN (k := 1) f_33_21 rfl rfl rfl
theorem f_33_22 : oFet 33 22 = some (.invokevirtual 26, 3) := by decide +kernel
theorem c_33_22 {d : Nat} {l0 l1 l2 : oV} {x0 : oV} {a : Nat} {v : Option oV} {τ : oSg} {S : List oV} {σ : oSg} {Q : Option oV → (Nat → oC) → Prop} (hm : oMi d 38 [.inr (.inr (.inl a)), x0] σ v τ) (hk : oKd a = some 3) (hs : oSmall S = true) : oE d 33 22 [l0, l1, l2] (x0 :: .inr (.inr (.inl a)) :: S) σ Q = oE d 33 25 [l0, l1, l2] (v.toList ++ S) τ Q := pCallV f_33_22 ow_33 lk_3_26 mt_38 rfl rfl rfl hk hs hm
theorem f_33_25 : oFet 33 25 = some (.return_, 1) := by decide +kernel
theorem s_33_25 {d : Nat} {l0 l1 l2 : oV} {σ : oSg} {Q : Option oV → (Nat → oC) → Prop} : oE d 33 25 [l0, l1, l2] [] σ Q = Q none (oBld σ) := oVret f_33_25 rt_33
theorem ow_34 : (oMt 34).2.2.2.2.1 = 3 := by decide +kernel
theorem rt_34 : (oMt 34).2.2.2.1 = none := by decide +kernel
theorem nl_34 : (oMt 34).2.2.1 = 8 := by decide +kernel
theorem f_34_0 : oFet 34 0 = some (.aload_n 1, 1) := by decide +kernel
theorem s_34_0 {d : Nat} {l0 l2 l3 l4 l5 l6 l7 : oV} {a : Nat} {S : List oV} {σ : oSg} {Q : Option oV → (Nat → oC) → Prop} : oE d 34 0 [l0, .inr (.inr (.inl a)), l2, l3, l4, l5, l6, l7] S σ Q = oE d 34 1 [l0, .inr (.inr (.inl a)), l2, l3, l4, l5, l6, l7] (.inr (.inr (.inl a)) :: S) σ Q := pLdN (k := 1) f_34_0 rfl rfl rfl
theorem f_34_1 : oFet 34 1 = some (.invokevirtual 29, 3) := by decide +kernel
theorem c_34_1 {d : Nat} {l0 l1 l2 l3 l4 l5 l6 l7 : oV} {a : Nat} {v : Option oV} {τ : oSg} {S : List oV} {σ : oSg} {Q : Option oV → (Nat → oC) → Prop} (hm : oMi d 26 [.inr (.inr (.inl a))] σ v τ) (hk : oKd a = some 4) (hs : oSmall S = true) : oE d 34 1 [l0, l1, l2, l3, l4, l5, l6, l7] (.inr (.inr (.inl a)) :: S) σ Q = oE d 34 4 [l0, l1, l2, l3, l4, l5, l6, l7] (v.toList ++ S) τ Q := pCallV f_34_1 ow_34 lk_3_29 mt_26 rfl rfl rfl hk hs hm
theorem f_34_4 : oFet 34 4 = some (.bipush 127, 2) := by decide +kernel
theorem s_34_4 {d : Nat} {l0 l1 l2 l3 l4 l5 l6 l7 : oV} {S : List oV} {σ : oSg} {Q : Option oV → (Nat → oC) → Prop} : oE d 34 4 [l0, l1, l2, l3, l4, l5, l6, l7] S σ Q = oE d 34 6 [l0, l1, l2, l3, l4, l5, l6, l7] (.inl (127) :: S) σ Q := pBip f_34_4 (by decide)
theorem f_34_6 : oFet 34 6 = some (.invokestatic 35, 3) := by decide +kernel
theorem s_34_6 {d : Nat} {l0 l1 l2 l3 l4 l5 l6 l7 : oV} {x y : Int} {S : List oV} {σ : oSg} {Q : Option oV → (Nat → oC) → Prop} (hs : oSmall S = true) : oE d 34 6 [l0, l1, l2, l3, l4, l5, l6, l7] (.inl y :: .inl x :: S) σ Q = oE d 34 9 [l0, l1, l2, l3, l4, l5, l6, l7] (.inl (if y < x then y else x) :: S) σ Q := pMin f_34_6 ow_34 lk_3_35 hs
theorem f_34_9 : oFet 34 9 = some (.istore_n 2, 1) := by decide +kernel
theorem s_34_9 {d : Nat} {l0 l1 l2 l3 l4 l5 l6 l7 : oV} {x : Int} {S : List oV} {σ : oSg} {Q : Option oV → (Nat → oC) → Prop} (c2 : oCat l2 = 1) (c1 : oCat l1 = 1)  : oE d 34 9 [l0, l1, l2, l3, l4, l5, l6, l7] (.inl x :: S) σ Q = oE d 34 10 [l0, l1, .inl x, l3, l4, l5, l6, l7] S σ Q := pSt (i := 2) f_34_9 rfl rfl (show (2 : Nat) < 8 by decide) (oC1n c1) (oC1n c2) rfl
theorem f_34_10 : oFet 34 10 = some (.aload_n 0, 1) := by decide +kernel
theorem s_34_10 {d : Nat} {l1 l2 l3 l4 l5 l6 l7 : oV} {a : Nat} {S : List oV} {σ : oSg} {Q : Option oV → (Nat → oC) → Prop} : oE d 34 10 [.inr (.inr (.inl a)), l1, l2, l3, l4, l5, l6, l7] S σ Q = oE d 34 11 [.inr (.inr (.inl a)), l1, l2, l3, l4, l5, l6, l7] (.inr (.inr (.inl a)) :: S) σ Q := pLdN (k := 0) f_34_10 rfl rfl rfl
theorem f_34_11 : oFet 34 11 = some (.getfield 15, 3) := by decide +kernel
theorem s_34_11 {d : Nat} {l0 l1 l2 l3 l4 l5 l6 l7 : oV} {a : Nat} {S : List oV} {σ : oSg} {Q : Option oV → (Nat → oC) → Prop} (hk : oKd a = some 3) : oE d 34 11 [l0, l1, l2, l3, l4, l5, l6, l7] (.inr (.inr (.inl a)) :: S) σ Q = oE d 34 14 [l0, l1, l2, l3, l4, l5, l6, l7] (.inr (.inr (.inl (oRf a 4))) :: S) σ Q := pGfR f_34_11 ow_34 fl_3_15 rfl (by decide) hk
theorem f_34_14 : oFet 34 14 = some (.iconst 0, 1) := by decide +kernel
theorem s_34_14 {d : Nat} {l0 l1 l2 l3 l4 l5 l6 l7 : oV} {S : List oV} {σ : oSg} {Q : Option oV → (Nat → oC) → Prop} : oE d 34 14 [l0, l1, l2, l3, l4, l5, l6, l7] S σ Q = oE d 34 15 [l0, l1, l2, l3, l4, l5, l6, l7] (.inl (0) :: S) σ Q := pKst f_34_14 (by decide)
theorem f_34_15 : oFet 34 15 = some (.iconst 0, 1) := by decide +kernel
theorem s_34_15 {d : Nat} {l0 l1 l2 l3 l4 l5 l6 l7 : oV} {S : List oV} {σ : oSg} {Q : Option oV → (Nat → oC) → Prop} : oE d 34 15 [l0, l1, l2, l3, l4, l5, l6, l7] S σ Q = oE d 34 16 [l0, l1, l2, l3, l4, l5, l6, l7] (.inl (0) :: S) σ Q := pKst f_34_15 (by decide)
theorem f_34_16 : oFet 34 16 = some (.iastore, 1) := by decide +kernel
theorem s_34_16 {d : Nat} {l0 l1 l2 l3 l4 l5 l6 l7 : oV} {a : Nat} {i v : Int} {S : List oV} {σ : oSg} {Q : Option oV → (Nat → oC) → Prop} (hk : oAk a = some 0) (h0 : 0 ≤ i) (h1 : i < (oLn a : Int)) : oE d 34 16 [l0, l1, l2, l3, l4, l5, l6, l7] (.inl v :: .inl i :: .inr (.inr (.inl a)) :: S) σ Q = oE d 34 17 [l0, l1, l2, l3, l4, l5, l6, l7] S (oSA σ a i.toNat v) Q := oIas f_34_16 hk h0 h1
theorem f_34_17 : oFet 34 17 = some (.iconst 1, 1) := by decide +kernel
theorem s_34_17 {d : Nat} {l0 l1 l2 l3 l4 l5 l6 l7 : oV} {S : List oV} {σ : oSg} {Q : Option oV → (Nat → oC) → Prop} : oE d 34 17 [l0, l1, l2, l3, l4, l5, l6, l7] S σ Q = oE d 34 18 [l0, l1, l2, l3, l4, l5, l6, l7] (.inl (1) :: S) σ Q := pKst f_34_17 (by decide)
theorem f_34_18 : oFet 34 18 = some (.istore_n 3, 1) := by decide +kernel
theorem s_34_18 {d : Nat} {l0 l1 l2 l3 l4 l5 l6 l7 : oV} {x : Int} {S : List oV} {σ : oSg} {Q : Option oV → (Nat → oC) → Prop} (c3 : oCat l3 = 1) (c2 : oCat l2 = 1)  : oE d 34 18 [l0, l1, l2, l3, l4, l5, l6, l7] (.inl x :: S) σ Q = oE d 34 19 [l0, l1, l2, .inl x, l4, l5, l6, l7] S σ Q := pSt (i := 3) f_34_18 rfl rfl (show (3 : Nat) < 8 by decide) (oC1n c2) (oC1n c3) rfl
theorem f_34_19 : oFet 34 19 = some (.iload_n 3, 1) := by decide +kernel
theorem s_34_19 {d : Nat} {l0 l1 l2 l4 l5 l6 l7 : oV} {x : Int} {S : List oV} {σ : oSg} {Q : Option oV → (Nat → oC) → Prop} : oE d 34 19 [l0, l1, l2, .inl x, l4, l5, l6, l7] S σ Q = oE d 34 20 [l0, l1, l2, .inl x, l4, l5, l6, l7] (.inl x :: S) σ Q := pLdN (k := 3) f_34_19 rfl rfl rfl
theorem f_34_20 : oFet 34 20 = some (.iload_n 2, 1) := by decide +kernel
theorem s_34_20 {d : Nat} {l0 l1 l3 l4 l5 l6 l7 : oV} {x : Int} {S : List oV} {σ : oSg} {Q : Option oV → (Nat → oC) → Prop} : oE d 34 20 [l0, l1, .inl x, l3, l4, l5, l6, l7] S σ Q = oE d 34 21 [l0, l1, .inl x, l3, l4, l5, l6, l7] (.inl x :: S) σ Q := pLdN (k := 2) f_34_20 rfl rfl rfl
theorem f_34_21 : oFet 34 21 = some (.if_icmp .gt 90, 3) := by decide +kernel
theorem s_34_21 {d : Nat} {l0 l1 l2 l3 l4 l5 l6 l7 : oV} {x y : Int} {S : List oV} {σ : oSg} {Q : Option oV → (Nat → oC) → Prop} : oE d 34 21 [l0, l1, l2, l3, l4, l5, l6, l7] (.inl y :: .inl x :: S) σ Q = if y < x then oE d 34 111 [l0, l1, l2, l3, l4, l5, l6, l7] S σ Q else oE d 34 24 [l0, l1, l2, l3, l4, l5, l6, l7] S σ Q := oCmpGt f_34_21 (by decide)
theorem f_34_24 : oFet 34 24 = some (.iload_n 3, 1) := by decide +kernel
theorem s_34_24 {d : Nat} {l0 l1 l2 l4 l5 l6 l7 : oV} {x : Int} {S : List oV} {σ : oSg} {Q : Option oV → (Nat → oC) → Prop} : oE d 34 24 [l0, l1, l2, .inl x, l4, l5, l6, l7] S σ Q = oE d 34 25 [l0, l1, l2, .inl x, l4, l5, l6, l7] (.inl x :: S) σ Q := pLdN (k := 3) f_34_24 rfl rfl rfl
theorem f_34_25 : oFet 34 25 = some (.iload_n 3, 1) := by decide +kernel
theorem s_34_25 {d : Nat} {l0 l1 l2 l4 l5 l6 l7 : oV} {x : Int} {S : List oV} {σ : oSg} {Q : Option oV → (Nat → oC) → Prop} : oE d 34 25 [l0, l1, l2, .inl x, l4, l5, l6, l7] S σ Q = oE d 34 26 [l0, l1, l2, .inl x, l4, l5, l6, l7] (.inl x :: S) σ Q := pLdN (k := 3) f_34_25 rfl rfl rfl
theorem f_34_26 : oFet 34 26 = some (.iconst 1, 1) := by decide +kernel
theorem s_34_26 {d : Nat} {l0 l1 l2 l3 l4 l5 l6 l7 : oV} {S : List oV} {σ : oSg} {Q : Option oV → (Nat → oC) → Prop} : oE d 34 26 [l0, l1, l2, l3, l4, l5, l6, l7] S σ Q = oE d 34 27 [l0, l1, l2, l3, l4, l5, l6, l7] (.inl (1) :: S) σ Q := pKst f_34_26 (by decide)
theorem f_34_27 : oFet 34 27 = some (.isub, 1) := by decide +kernel
theorem s_34_27 {d : Nat} {l0 l1 l2 l3 l4 l5 l6 l7 : oV} {x y : Int} {S : List oV} {σ : oSg} {Q : Option oV → (Nat → oC) → Prop} : oE d 34 27 [l0, l1, l2, l3, l4, l5, l6, l7] (.inl y :: .inl x :: S) σ Q = oE d 34 28 [l0, l1, l2, l3, l4, l5, l6, l7] (.inl (oSub x y) :: S) σ Q := oS3 f_34_27 rfl rfl rfl
theorem f_34_28 : oFet 34 28 = some (.iand, 1) := by decide +kernel
theorem s_34_28 {d : Nat} {l0 l1 l2 l3 l4 l5 l6 l7 : oV} {x y : Int} {S : List oV} {σ : oSg} {Q : Option oV → (Nat → oC) → Prop} : oE d 34 28 [l0, l1, l2, l3, l4, l5, l6, l7] (.inl y :: .inl x :: S) σ Q = oE d 34 29 [l0, l1, l2, l3, l4, l5, l6, l7] (.inl (oAnd x y) :: S) σ Q := oS3 f_34_28 rfl rfl rfl
theorem f_34_29 : oFet 34 29 = some (.istore 4, 2) := by decide +kernel
theorem s_34_29 {d : Nat} {l0 l1 l2 l3 l4 l5 l6 l7 : oV} {x : Int} {S : List oV} {σ : oSg} {Q : Option oV → (Nat → oC) → Prop} (c4 : oCat l4 = 1) (c3 : oCat l3 = 1)  : oE d 34 29 [l0, l1, l2, l3, l4, l5, l6, l7] (.inl x :: S) σ Q = oE d 34 31 [l0, l1, l2, l3, .inl x, l5, l6, l7] S σ Q := pSt (i := 4) f_34_29 rfl rfl (show (4 : Nat) < 8 by decide) (oC1n c3) (oC1n c4) rfl
theorem f_34_31 : oFet 34 31 = some (.iload_n 3, 1) := by decide +kernel
theorem s_34_31 {d : Nat} {l0 l1 l2 l4 l5 l6 l7 : oV} {x : Int} {S : List oV} {σ : oSg} {Q : Option oV → (Nat → oC) → Prop} : oE d 34 31 [l0, l1, l2, .inl x, l4, l5, l6, l7] S σ Q = oE d 34 32 [l0, l1, l2, .inl x, l4, l5, l6, l7] (.inl x :: S) σ Q := pLdN (k := 3) f_34_31 rfl rfl rfl
theorem f_34_32 : oFet 34 32 = some (.iload 4, 2) := by decide +kernel
theorem s_34_32 {d : Nat} {l0 l1 l2 l3 l5 l6 l7 : oV} {x : Int} {S : List oV} {σ : oSg} {Q : Option oV → (Nat → oC) → Prop} : oE d 34 32 [l0, l1, l2, l3, .inl x, l5, l6, l7] S σ Q = oE d 34 34 [l0, l1, l2, l3, .inl x, l5, l6, l7] (.inl x :: S) σ Q := pLd (i := 4) f_34_32 rfl rfl rfl
theorem f_34_34 : oFet 34 34 = some (.ixor, 1) := by decide +kernel
theorem s_34_34 {d : Nat} {l0 l1 l2 l3 l4 l5 l6 l7 : oV} {x y : Int} {S : List oV} {σ : oSg} {Q : Option oV → (Nat → oC) → Prop} : oE d 34 34 [l0, l1, l2, l3, l4, l5, l6, l7] (.inl y :: .inl x :: S) σ Q = oE d 34 35 [l0, l1, l2, l3, l4, l5, l6, l7] (.inl (oXor x y) :: S) σ Q := oS3 f_34_34 rfl rfl rfl
theorem f_34_35 : oFet 34 35 = some (.iconst 1, 1) := by decide +kernel
theorem s_34_35 {d : Nat} {l0 l1 l2 l3 l4 l5 l6 l7 : oV} {S : List oV} {σ : oSg} {Q : Option oV → (Nat → oC) → Prop} : oE d 34 35 [l0, l1, l2, l3, l4, l5, l6, l7] S σ Q = oE d 34 36 [l0, l1, l2, l3, l4, l5, l6, l7] (.inl (1) :: S) σ Q := pKst f_34_35 (by decide)
theorem f_34_36 : oFet 34 36 = some (.isub, 1) := by decide +kernel
theorem s_34_36 {d : Nat} {l0 l1 l2 l3 l4 l5 l6 l7 : oV} {x y : Int} {S : List oV} {σ : oSg} {Q : Option oV → (Nat → oC) → Prop} : oE d 34 36 [l0, l1, l2, l3, l4, l5, l6, l7] (.inl y :: .inl x :: S) σ Q = oE d 34 37 [l0, l1, l2, l3, l4, l5, l6, l7] (.inl (oSub x y) :: S) σ Q := oS3 f_34_36 rfl rfl rfl
theorem f_34_37 : oFet 34 37 = some (.invokestatic 41, 3) := by decide +kernel
theorem c_34_37 {d : Nat} {l0 l1 l2 l3 l4 l5 l6 l7 : oV} {x0 : oV} {v : Option oV} {τ : oSg} {S : List oV} {σ : oSg} {Q : Option oV → (Nat → oC) → Prop} (hm : oMi d 35 [x0] σ v τ) (hs : oSmall S = true) : oE d 34 37 [l0, l1, l2, l3, l4, l5, l6, l7] (x0 :: S) σ Q = oE d 34 40 [l0, l1, l2, l3, l4, l5, l6, l7] (v.toList ++ S) τ Q := pCallS f_34_37 ow_34 lk_3_41 mt_35 rfl rfl rfl hs hm
theorem f_34_40 : oFet 34 40 = some (.istore 5, 2) := by decide +kernel
theorem s_34_40 {d : Nat} {l0 l1 l2 l3 l4 l5 l6 l7 : oV} {x : Int} {S : List oV} {σ : oSg} {Q : Option oV → (Nat → oC) → Prop} (c5 : oCat l5 = 1) (c4 : oCat l4 = 1)  : oE d 34 40 [l0, l1, l2, l3, l4, l5, l6, l7] (.inl x :: S) σ Q = oE d 34 42 [l0, l1, l2, l3, l4, .inl x, l6, l7] S σ Q := pSt (i := 5) f_34_40 rfl rfl (show (5 : Nat) < 8 by decide) (oC1n c4) (oC1n c5) rfl
theorem f_34_42 : oFet 34 42 = some (.aload_n 0, 1) := by decide +kernel
theorem s_34_42 {d : Nat} {l1 l2 l3 l4 l5 l6 l7 : oV} {a : Nat} {S : List oV} {σ : oSg} {Q : Option oV → (Nat → oC) → Prop} : oE d 34 42 [.inr (.inr (.inl a)), l1, l2, l3, l4, l5, l6, l7] S σ Q = oE d 34 43 [.inr (.inr (.inl a)), l1, l2, l3, l4, l5, l6, l7] (.inr (.inr (.inl a)) :: S) σ Q := pLdN (k := 0) f_34_42 rfl rfl rfl
theorem f_34_43 : oFet 34 43 = some (.iload 4, 2) := by decide +kernel
theorem s_34_43 {d : Nat} {l0 l1 l2 l3 l5 l6 l7 : oV} {x : Int} {S : List oV} {σ : oSg} {Q : Option oV → (Nat → oC) → Prop} : oE d 34 43 [l0, l1, l2, l3, .inl x, l5, l6, l7] S σ Q = oE d 34 45 [l0, l1, l2, l3, .inl x, l5, l6, l7] (.inl x :: S) σ Q := pLd (i := 4) f_34_43 rfl rfl rfl
theorem f_34_45 : oFet 34 45 = some (.invokevirtual 47, 3) := by decide +kernel
theorem c_34_45 {d : Nat} {l0 l1 l2 l3 l4 l5 l6 l7 : oV} {x0 : oV} {a : Nat} {v : Option oV} {τ : oSg} {S : List oV} {σ : oSg} {Q : Option oV → (Nat → oC) → Prop} (hm : oMi d 36 [.inr (.inr (.inl a)), x0] σ v τ) (hk : oKd a = some 3) (hs : oSmall S = true) : oE d 34 45 [l0, l1, l2, l3, l4, l5, l6, l7] (x0 :: .inr (.inr (.inl a)) :: S) σ Q = oE d 34 48 [l0, l1, l2, l3, l4, l5, l6, l7] (v.toList ++ S) τ Q := pCallV f_34_45 ow_34 lk_3_47 mt_36 rfl rfl rfl hk hs hm
theorem f_34_48 : oFet 34 48 = some (.istore 6, 2) := by decide +kernel
theorem s_34_48 {d : Nat} {l0 l1 l2 l3 l4 l5 l6 l7 : oV} {x : Int} {S : List oV} {σ : oSg} {Q : Option oV → (Nat → oC) → Prop} (c6 : oCat l6 = 1) (c5 : oCat l5 = 1)  : oE d 34 48 [l0, l1, l2, l3, l4, l5, l6, l7] (.inl x :: S) σ Q = oE d 34 50 [l0, l1, l2, l3, l4, l5, .inl x, l7] S σ Q := pSt (i := 6) f_34_48 rfl rfl (show (6 : Nat) < 8 by decide) (oC1n c5) (oC1n c6) rfl
theorem f_34_50 : oFet 34 50 = some (.iload 5, 2) := by decide +kernel
theorem s_34_50 {d : Nat} {l0 l1 l2 l3 l4 l6 l7 : oV} {x : Int} {S : List oV} {σ : oSg} {Q : Option oV → (Nat → oC) → Prop} : oE d 34 50 [l0, l1, l2, l3, l4, .inl x, l6, l7] S σ Q = oE d 34 52 [l0, l1, l2, l3, l4, .inl x, l6, l7] (.inl x :: S) σ Q := pLd (i := 5) f_34_50 rfl rfl rfl
theorem f_34_52 : oFet 34 52 = some (.iconst 1, 1) := by decide +kernel
theorem s_34_52 {d : Nat} {l0 l1 l2 l3 l4 l5 l6 l7 : oV} {S : List oV} {σ : oSg} {Q : Option oV → (Nat → oC) → Prop} : oE d 34 52 [l0, l1, l2, l3, l4, l5, l6, l7] S σ Q = oE d 34 53 [l0, l1, l2, l3, l4, l5, l6, l7] (.inl (1) :: S) σ Q := pKst f_34_52 (by decide)
theorem f_34_53 : oFet 34 53 = some (.iadd, 1) := by decide +kernel
theorem s_34_53 {d : Nat} {l0 l1 l2 l3 l4 l5 l6 l7 : oV} {x y : Int} {S : List oV} {σ : oSg} {Q : Option oV → (Nat → oC) → Prop} : oE d 34 53 [l0, l1, l2, l3, l4, l5, l6, l7] (.inl y :: .inl x :: S) σ Q = oE d 34 54 [l0, l1, l2, l3, l4, l5, l6, l7] (.inl (oAdd x y) :: S) σ Q := oS3 f_34_53 rfl rfl rfl
theorem f_34_54 : oFet 34 54 = some (.istore 7, 2) := by decide +kernel
theorem s_34_54 {d : Nat} {l0 l1 l2 l3 l4 l5 l6 l7 : oV} {x : Int} {S : List oV} {σ : oSg} {Q : Option oV → (Nat → oC) → Prop} (c7 : oCat l7 = 1) (c6 : oCat l6 = 1)  : oE d 34 54 [l0, l1, l2, l3, l4, l5, l6, l7] (.inl x :: S) σ Q = oE d 34 56 [l0, l1, l2, l3, l4, l5, l6, .inl x] S σ Q := pSt (i := 7) f_34_54 rfl rfl (show (7 : Nat) < 8 by decide) (oC1n c6) (oC1n c7) rfl
theorem f_34_56 : oFet 34 56 = some (.iload 7, 2) := by decide +kernel
theorem s_34_56 {d : Nat} {l0 l1 l2 l3 l4 l5 l6 : oV} {x : Int} {S : List oV} {σ : oSg} {Q : Option oV → (Nat → oC) → Prop} : oE d 34 56 [l0, l1, l2, l3, l4, l5, l6, .inl x] S σ Q = oE d 34 58 [l0, l1, l2, l3, l4, l5, l6, .inl x] (.inl x :: S) σ Q := pLd (i := 7) f_34_56 rfl rfl rfl
theorem f_34_58 : oFet 34 58 = some (.bipush 7, 2) := by decide +kernel
theorem s_34_58 {d : Nat} {l0 l1 l2 l3 l4 l5 l6 l7 : oV} {S : List oV} {σ : oSg} {Q : Option oV → (Nat → oC) → Prop} : oE d 34 58 [l0, l1, l2, l3, l4, l5, l6, l7] S σ Q = oE d 34 60 [l0, l1, l2, l3, l4, l5, l6, l7] (.inl (7) :: S) σ Q := pBip f_34_58 (by decide)
theorem f_34_60 : oFet 34 60 = some (.if_icmp .ge 37, 3) := by decide +kernel
theorem s_34_60 {d : Nat} {l0 l1 l2 l3 l4 l5 l6 l7 : oV} {x y : Int} {S : List oV} {σ : oSg} {Q : Option oV → (Nat → oC) → Prop} : oE d 34 60 [l0, l1, l2, l3, l4, l5, l6, l7] (.inl y :: .inl x :: S) σ Q = if y ≤ x then oE d 34 97 [l0, l1, l2, l3, l4, l5, l6, l7] S σ Q else oE d 34 63 [l0, l1, l2, l3, l4, l5, l6, l7] S σ Q := oCmpGe f_34_60 (by decide)
theorem f_34_63 : oFet 34 63 = some (.iload 7, 2) := by decide +kernel
theorem s_34_63 {d : Nat} {l0 l1 l2 l3 l4 l5 l6 : oV} {x : Int} {S : List oV} {σ : oSg} {Q : Option oV → (Nat → oC) → Prop} : oE d 34 63 [l0, l1, l2, l3, l4, l5, l6, .inl x] S σ Q = oE d 34 65 [l0, l1, l2, l3, l4, l5, l6, .inl x] (.inl x :: S) σ Q := pLd (i := 7) f_34_63 rfl rfl rfl
theorem f_34_65 : oFet 34 65 = some (.iload 4, 2) := by decide +kernel
theorem s_34_65 {d : Nat} {l0 l1 l2 l3 l5 l6 l7 : oV} {x : Int} {S : List oV} {σ : oSg} {Q : Option oV → (Nat → oC) → Prop} : oE d 34 65 [l0, l1, l2, l3, .inl x, l5, l6, l7] S σ Q = oE d 34 67 [l0, l1, l2, l3, .inl x, l5, l6, l7] (.inl x :: S) σ Q := pLd (i := 4) f_34_65 rfl rfl rfl
theorem f_34_67 : oFet 34 67 = some (.invokestatic 50, 3) := by decide +kernel
theorem c_34_67 {d : Nat} {l0 l1 l2 l3 l4 l5 l6 l7 : oV} {x0 x1 : oV} {v : Option oV} {τ : oSg} {S : List oV} {σ : oSg} {Q : Option oV → (Nat → oC) → Prop} (hm : oMi d 28 [x0, x1] σ v τ) (hs : oSmall S = true) : oE d 34 67 [l0, l1, l2, l3, l4, l5, l6, l7] (x1 :: x0 :: S) σ Q = oE d 34 70 [l0, l1, l2, l3, l4, l5, l6, l7] (v.toList ++ S) τ Q := pCallS f_34_67 ow_34 lk_3_50 mt_28 rfl rfl rfl hs hm
theorem f_34_70 : oFet 34 70 = some (.ifCond .eq 21, 3) := by decide +kernel
theorem s_34_70 {d : Nat} {l0 l1 l2 l3 l4 l5 l6 l7 : oV} {x : Int} {S : List oV} {σ : oSg} {Q : Option oV → (Nat → oC) → Prop} : oE d 34 70 [l0, l1, l2, l3, l4, l5, l6, l7] (.inl x :: S) σ Q = if x = 0 then oE d 34 91 [l0, l1, l2, l3, l4, l5, l6, l7] S σ Q else oE d 34 73 [l0, l1, l2, l3, l4, l5, l6, l7] S σ Q := oIfEq f_34_70 (by decide)
theorem f_34_73 : oFet 34 73 = some (.iload 6, 2) := by decide +kernel
theorem s_34_73 {d : Nat} {l0 l1 l2 l3 l4 l5 l7 : oV} {x : Int} {S : List oV} {σ : oSg} {Q : Option oV → (Nat → oC) → Prop} : oE d 34 73 [l0, l1, l2, l3, l4, l5, .inl x, l7] S σ Q = oE d 34 75 [l0, l1, l2, l3, l4, l5, .inl x, l7] (.inl x :: S) σ Q := pLd (i := 6) f_34_73 rfl rfl rfl
theorem f_34_75 : oFet 34 75 = some (.aload_n 0, 1) := by decide +kernel
theorem s_34_75 {d : Nat} {l1 l2 l3 l4 l5 l6 l7 : oV} {a : Nat} {S : List oV} {σ : oSg} {Q : Option oV → (Nat → oC) → Prop} : oE d 34 75 [.inr (.inr (.inl a)), l1, l2, l3, l4, l5, l6, l7] S σ Q = oE d 34 76 [.inr (.inr (.inl a)), l1, l2, l3, l4, l5, l6, l7] (.inr (.inr (.inl a)) :: S) σ Q := pLdN (k := 0) f_34_75 rfl rfl rfl
theorem f_34_76 : oFet 34 76 = some (.aload_n 1, 1) := by decide +kernel
theorem s_34_76 {d : Nat} {l0 l2 l3 l4 l5 l6 l7 : oV} {a : Nat} {S : List oV} {σ : oSg} {Q : Option oV → (Nat → oC) → Prop} : oE d 34 76 [l0, .inr (.inr (.inl a)), l2, l3, l4, l5, l6, l7] S σ Q = oE d 34 77 [l0, .inr (.inr (.inl a)), l2, l3, l4, l5, l6, l7] (.inr (.inr (.inl a)) :: S) σ Q := pLdN (k := 1) f_34_76 rfl rfl rfl
theorem f_34_77 : oFet 34 77 = some (.iload 5, 2) := by decide +kernel
theorem s_34_77 {d : Nat} {l0 l1 l2 l3 l4 l6 l7 : oV} {x : Int} {S : List oV} {σ : oSg} {Q : Option oV → (Nat → oC) → Prop} : oE d 34 77 [l0, l1, l2, l3, l4, .inl x, l6, l7] S σ Q = oE d 34 79 [l0, l1, l2, l3, l4, .inl x, l6, l7] (.inl x :: S) σ Q := pLd (i := 5) f_34_77 rfl rfl rfl
theorem f_34_79 : oFet 34 79 = some (.iload 7, 2) := by decide +kernel
theorem s_34_79 {d : Nat} {l0 l1 l2 l3 l4 l5 l6 : oV} {x : Int} {S : List oV} {σ : oSg} {Q : Option oV → (Nat → oC) → Prop} : oE d 34 79 [l0, l1, l2, l3, l4, l5, l6, .inl x] S σ Q = oE d 34 81 [l0, l1, l2, l3, l4, l5, l6, .inl x] (.inl x :: S) σ Q := pLd (i := 7) f_34_79 rfl rfl rfl
theorem f_34_81 : oFet 34 81 = some (.iload 4, 2) := by decide +kernel
theorem s_34_81 {d : Nat} {l0 l1 l2 l3 l5 l6 l7 : oV} {x : Int} {S : List oV} {σ : oSg} {Q : Option oV → (Nat → oC) → Prop} : oE d 34 81 [l0, l1, l2, l3, .inl x, l5, l6, l7] S σ Q = oE d 34 83 [l0, l1, l2, l3, .inl x, l5, l6, l7] (.inl x :: S) σ Q := pLd (i := 4) f_34_81 rfl rfl rfl
theorem f_34_83 : oFet 34 83 = some (.invokevirtual 56, 3) := by decide +kernel
theorem c_34_83 {d : Nat} {l0 l1 l2 l3 l4 l5 l6 l7 : oV} {x0 x1 x2 x3 : oV} {a : Nat} {v : Option oV} {τ : oSg} {S : List oV} {σ : oSg} {Q : Option oV → (Nat → oC) → Prop} (hm : oMi d 37 [.inr (.inr (.inl a)), x0, x1, x2, x3] σ v τ) (hk : oKd a = some 3) (hs : oSmall S = true) : oE d 34 83 [l0, l1, l2, l3, l4, l5, l6, l7] (x3 :: x2 :: x1 :: x0 :: .inr (.inr (.inl a)) :: S) σ Q = oE d 34 86 [l0, l1, l2, l3, l4, l5, l6, l7] (v.toList ++ S) τ Q := pCallV f_34_83 ow_34 lk_3_56 mt_37 rfl rfl rfl hk hs hm
theorem f_34_86 : oFet 34 86 = some (.invokestatic 60, 3) := by decide +kernel
theorem s_34_86 {d : Nat} {l0 l1 l2 l3 l4 l5 l6 l7 : oV} {x y : Int} {S : List oV} {σ : oSg} {Q : Option oV → (Nat → oC) → Prop} (hs : oSmall S = true) : oE d 34 86 [l0, l1, l2, l3, l4, l5, l6, l7] (.inl y :: .inl x :: S) σ Q = oE d 34 89 [l0, l1, l2, l3, l4, l5, l6, l7] (.inl (if x < y then y else x) :: S) σ Q := pMax f_34_86 ow_34 lk_3_60 hs
theorem f_34_89 : oFet 34 89 = some (.istore 6, 2) := by decide +kernel
theorem s_34_89 {d : Nat} {l0 l1 l2 l3 l4 l5 l6 l7 : oV} {x : Int} {S : List oV} {σ : oSg} {Q : Option oV → (Nat → oC) → Prop} (c6 : oCat l6 = 1) (c5 : oCat l5 = 1)  : oE d 34 89 [l0, l1, l2, l3, l4, l5, l6, l7] (.inl x :: S) σ Q = oE d 34 91 [l0, l1, l2, l3, l4, l5, .inl x, l7] S σ Q := pSt (i := 6) f_34_89 rfl rfl (show (6 : Nat) < 8 by decide) (oC1n c5) (oC1n c6) rfl
theorem f_34_91 : oFet 34 91 = some (.iinc 7 1, 3) := by decide +kernel
theorem s_34_91 {d : Nat} {l0 l1 l2 l3 l4 l5 l6 : oV} {x : Int} {S : List oV} {σ : oSg} {Q : Option oV → (Nat → oC) → Prop} (c6 : oCat l6 = 1)  : oE d 34 91 [l0, l1, l2, l3, l4, l5, l6, .inl x] S σ Q = oE d 34 94 [l0, l1, l2, l3, l4, l5, l6, .inl (oAdd x (1))] S σ Q := pInc f_34_91 rfl (show (7 : Nat) < 8 by decide) (oC1n c6) (oC1n (v := .inl x) rfl) rfl
theorem f_34_94 : oFet 34 94 = some (.goto (-38), 3) := by decide +kernel
theorem s_34_94 {d : Nat} {l0 l1 l2 l3 l4 l5 l6 l7 : oV} {S : List oV} {σ : oSg} {Q : Option oV → (Nat → oC) → Prop} : oE d 34 94 [l0, l1, l2, l3, l4, l5, l6, l7] S σ Q = oE d 34 56 [l0, l1, l2, l3, l4, l5, l6, l7] S σ Q := pGoto f_34_94 (by decide)
theorem f_34_97 : oFet 34 97 = some (.aload_n 0, 1) := by decide +kernel
theorem s_34_97 {d : Nat} {l1 l2 l3 l4 l5 l6 l7 : oV} {a : Nat} {S : List oV} {σ : oSg} {Q : Option oV → (Nat → oC) → Prop} : oE d 34 97 [.inr (.inr (.inl a)), l1, l2, l3, l4, l5, l6, l7] S σ Q = oE d 34 98 [.inr (.inr (.inl a)), l1, l2, l3, l4, l5, l6, l7] (.inr (.inr (.inl a)) :: S) σ Q := pLdN (k := 0) f_34_97 rfl rfl rfl
theorem f_34_98 : oFet 34 98 = some (.getfield 15, 3) := by decide +kernel
theorem s_34_98 {d : Nat} {l0 l1 l2 l3 l4 l5 l6 l7 : oV} {a : Nat} {S : List oV} {σ : oSg} {Q : Option oV → (Nat → oC) → Prop} (hk : oKd a = some 3) : oE d 34 98 [l0, l1, l2, l3, l4, l5, l6, l7] (.inr (.inr (.inl a)) :: S) σ Q = oE d 34 101 [l0, l1, l2, l3, l4, l5, l6, l7] (.inr (.inr (.inl (oRf a 4))) :: S) σ Q := pGfR f_34_98 ow_34 fl_3_15 rfl (by decide) hk
theorem f_34_101 : oFet 34 101 = some (.iload_n 3, 1) := by decide +kernel
theorem s_34_101 {d : Nat} {l0 l1 l2 l4 l5 l6 l7 : oV} {x : Int} {S : List oV} {σ : oSg} {Q : Option oV → (Nat → oC) → Prop} : oE d 34 101 [l0, l1, l2, .inl x, l4, l5, l6, l7] S σ Q = oE d 34 102 [l0, l1, l2, .inl x, l4, l5, l6, l7] (.inl x :: S) σ Q := pLdN (k := 3) f_34_101 rfl rfl rfl
theorem f_34_102 : oFet 34 102 = some (.iload 6, 2) := by decide +kernel
theorem s_34_102 {d : Nat} {l0 l1 l2 l3 l4 l5 l7 : oV} {x : Int} {S : List oV} {σ : oSg} {Q : Option oV → (Nat → oC) → Prop} : oE d 34 102 [l0, l1, l2, l3, l4, l5, .inl x, l7] S σ Q = oE d 34 104 [l0, l1, l2, l3, l4, l5, .inl x, l7] (.inl x :: S) σ Q := pLd (i := 6) f_34_102 rfl rfl rfl
theorem f_34_104 : oFet 34 104 = some (.iastore, 1) := by decide +kernel
theorem s_34_104 {d : Nat} {l0 l1 l2 l3 l4 l5 l6 l7 : oV} {a : Nat} {i v : Int} {S : List oV} {σ : oSg} {Q : Option oV → (Nat → oC) → Prop} (hk : oAk a = some 0) (h0 : 0 ≤ i) (h1 : i < (oLn a : Int)) : oE d 34 104 [l0, l1, l2, l3, l4, l5, l6, l7] (.inl v :: .inl i :: .inr (.inr (.inl a)) :: S) σ Q = oE d 34 105 [l0, l1, l2, l3, l4, l5, l6, l7] S (oSA σ a i.toNat v) Q := oIas f_34_104 hk h0 h1
theorem f_34_105 : oFet 34 105 = some (.iinc 3 1, 3) := by decide +kernel
theorem s_34_105 {d : Nat} {l0 l1 l2 l4 l5 l6 l7 : oV} {x : Int} {S : List oV} {σ : oSg} {Q : Option oV → (Nat → oC) → Prop} (c2 : oCat l2 = 1)  : oE d 34 105 [l0, l1, l2, .inl x, l4, l5, l6, l7] S σ Q = oE d 34 108 [l0, l1, l2, .inl (oAdd x (1)), l4, l5, l6, l7] S σ Q := pInc f_34_105 rfl (show (3 : Nat) < 8 by decide) (oC1n c2) (oC1n (v := .inl x) rfl) rfl
theorem f_34_108 : oFet 34 108 = some (.goto (-89), 3) := by decide +kernel
theorem s_34_108 {d : Nat} {l0 l1 l2 l3 l4 l5 l6 l7 : oV} {S : List oV} {σ : oSg} {Q : Option oV → (Nat → oC) → Prop} : oE d 34 108 [l0, l1, l2, l3, l4, l5, l6, l7] S σ Q = oE d 34 19 [l0, l1, l2, l3, l4, l5, l6, l7] S σ Q := pGoto f_34_108 (by decide)
theorem f_34_111 : oFet 34 111 = some (.return_, 1) := by decide +kernel
theorem s_34_111 {d : Nat} {l0 l1 l2 l3 l4 l5 l6 l7 : oV} {σ : oSg} {Q : Option oV → (Nat → oC) → Prop} : oE d 34 111 [l0, l1, l2, l3, l4, l5, l6, l7] [] σ Q = Q none (oBld σ) := oVret f_34_111 rt_34
theorem ow_35 : (oMt 35).2.2.2.2.1 = 13 := by decide +kernel
theorem rt_35 : (oMt 35).2.2.2.1 = some .int := by decide +kernel
theorem nl_35 : (oMt 35).2.2.1 = 1 := by decide +kernel
theorem f_35_0 : oFet 35 0 = some (.iload_n 0, 1) := by decide +kernel
theorem s_35_0 {d : Nat} {x : Int} {S : List oV} {σ : oSg} {Q : Option oV → (Nat → oC) → Prop} : oE d 35 0 [.inl x] S σ Q = oE d 35 1 [.inl x] (.inl x :: S) σ Q := pLdN (k := 0) f_35_0 rfl rfl rfl
theorem f_35_1 : oFet 35 1 = some (.iload_n 0, 1) := by decide +kernel
theorem s_35_1 {d : Nat} {x : Int} {S : List oV} {σ : oSg} {Q : Option oV → (Nat → oC) → Prop} : oE d 35 1 [.inl x] S σ Q = oE d 35 2 [.inl x] (.inl x :: S) σ Q := pLdN (k := 0) f_35_1 rfl rfl rfl
theorem f_35_2 : oFet 35 2 = some (.iconst 1, 1) := by decide +kernel
theorem s_35_2 {d : Nat} {l0 : oV} {S : List oV} {σ : oSg} {Q : Option oV → (Nat → oC) → Prop} : oE d 35 2 [l0] S σ Q = oE d 35 3 [l0] (.inl (1) :: S) σ Q := pKst f_35_2 (by decide)
theorem f_35_3 : oFet 35 3 = some (.iushr, 1) := by decide +kernel
theorem s_35_3 {d : Nat} {l0 : oV} {x y : Int} {S : List oV} {σ : oSg} {Q : Option oV → (Nat → oC) → Prop} : oE d 35 3 [l0] (.inl y :: .inl x :: S) σ Q = oE d 35 4 [l0] (.inl (oUshr x y) :: S) σ Q := oS3 f_35_3 rfl rfl rfl
theorem f_35_4 : oFet 35 4 = some (.ldc_w 265, 3) := by decide +kernel
theorem s_35_4 {d : Nat} {l0 : oV} {S : List oV} {σ : oSg} {Q : Option oV → (Nat → oC) → Prop} : oE d 35 4 [l0] S σ Q = oE d 35 7 [l0] (.inl 1431655765 :: S) σ Q := pLdcW f_35_4 ow_35 (by decide +kernel)
theorem f_35_7 : oFet 35 7 = some (.iand, 1) := by decide +kernel
theorem s_35_7 {d : Nat} {l0 : oV} {x y : Int} {S : List oV} {σ : oSg} {Q : Option oV → (Nat → oC) → Prop} : oE d 35 7 [l0] (.inl y :: .inl x :: S) σ Q = oE d 35 8 [l0] (.inl (oAnd x y) :: S) σ Q := oS3 f_35_7 rfl rfl rfl
theorem f_35_8 : oFet 35 8 = some (.isub, 1) := by decide +kernel
theorem s_35_8 {d : Nat} {l0 : oV} {x y : Int} {S : List oV} {σ : oSg} {Q : Option oV → (Nat → oC) → Prop} : oE d 35 8 [l0] (.inl y :: .inl x :: S) σ Q = oE d 35 9 [l0] (.inl (oSub x y) :: S) σ Q := oS3 f_35_8 rfl rfl rfl
theorem f_35_9 : oFet 35 9 = some (.istore_n 0, 1) := by decide +kernel
theorem s_35_9 {d : Nat} {l0 : oV} {x : Int} {S : List oV} {σ : oSg} {Q : Option oV → (Nat → oC) → Prop} (c0 : oCat l0 = 1)  : oE d 35 9 [l0] (.inl x :: S) σ Q = oE d 35 10 [.inl x] S σ Q := pSt (i := 0) f_35_9 rfl rfl (show (0 : Nat) < 1 by decide) (oC1n c0) (oC1n c0) rfl
theorem f_35_10 : oFet 35 10 = some (.iload_n 0, 1) := by decide +kernel
theorem s_35_10 {d : Nat} {x : Int} {S : List oV} {σ : oSg} {Q : Option oV → (Nat → oC) → Prop} : oE d 35 10 [.inl x] S σ Q = oE d 35 11 [.inl x] (.inl x :: S) σ Q := pLdN (k := 0) f_35_10 rfl rfl rfl
theorem f_35_11 : oFet 35 11 = some (.ldc_w 266, 3) := by decide +kernel
theorem s_35_11 {d : Nat} {l0 : oV} {S : List oV} {σ : oSg} {Q : Option oV → (Nat → oC) → Prop} : oE d 35 11 [l0] S σ Q = oE d 35 14 [l0] (.inl 858993459 :: S) σ Q := pLdcW f_35_11 ow_35 (by decide +kernel)
theorem f_35_14 : oFet 35 14 = some (.iand, 1) := by decide +kernel
theorem s_35_14 {d : Nat} {l0 : oV} {x y : Int} {S : List oV} {σ : oSg} {Q : Option oV → (Nat → oC) → Prop} : oE d 35 14 [l0] (.inl y :: .inl x :: S) σ Q = oE d 35 15 [l0] (.inl (oAnd x y) :: S) σ Q := oS3 f_35_14 rfl rfl rfl
theorem f_35_15 : oFet 35 15 = some (.iload_n 0, 1) := by decide +kernel
theorem s_35_15 {d : Nat} {x : Int} {S : List oV} {σ : oSg} {Q : Option oV → (Nat → oC) → Prop} : oE d 35 15 [.inl x] S σ Q = oE d 35 16 [.inl x] (.inl x :: S) σ Q := pLdN (k := 0) f_35_15 rfl rfl rfl
theorem f_35_16 : oFet 35 16 = some (.iconst 2, 1) := by decide +kernel
theorem s_35_16 {d : Nat} {l0 : oV} {S : List oV} {σ : oSg} {Q : Option oV → (Nat → oC) → Prop} : oE d 35 16 [l0] S σ Q = oE d 35 17 [l0] (.inl (2) :: S) σ Q := pKst f_35_16 (by decide)
theorem f_35_17 : oFet 35 17 = some (.iushr, 1) := by decide +kernel
theorem s_35_17 {d : Nat} {l0 : oV} {x y : Int} {S : List oV} {σ : oSg} {Q : Option oV → (Nat → oC) → Prop} : oE d 35 17 [l0] (.inl y :: .inl x :: S) σ Q = oE d 35 18 [l0] (.inl (oUshr x y) :: S) σ Q := oS3 f_35_17 rfl rfl rfl
theorem f_35_18 : oFet 35 18 = some (.ldc_w 266, 3) := by decide +kernel
theorem s_35_18 {d : Nat} {l0 : oV} {S : List oV} {σ : oSg} {Q : Option oV → (Nat → oC) → Prop} : oE d 35 18 [l0] S σ Q = oE d 35 21 [l0] (.inl 858993459 :: S) σ Q := pLdcW f_35_18 ow_35 (by decide +kernel)
theorem f_35_21 : oFet 35 21 = some (.iand, 1) := by decide +kernel
theorem s_35_21 {d : Nat} {l0 : oV} {x y : Int} {S : List oV} {σ : oSg} {Q : Option oV → (Nat → oC) → Prop} : oE d 35 21 [l0] (.inl y :: .inl x :: S) σ Q = oE d 35 22 [l0] (.inl (oAnd x y) :: S) σ Q := oS3 f_35_21 rfl rfl rfl
theorem f_35_22 : oFet 35 22 = some (.iadd, 1) := by decide +kernel
theorem s_35_22 {d : Nat} {l0 : oV} {x y : Int} {S : List oV} {σ : oSg} {Q : Option oV → (Nat → oC) → Prop} : oE d 35 22 [l0] (.inl y :: .inl x :: S) σ Q = oE d 35 23 [l0] (.inl (oAdd x y) :: S) σ Q := oS3 f_35_22 rfl rfl rfl
theorem f_35_23 : oFet 35 23 = some (.istore_n 0, 1) := by decide +kernel
theorem s_35_23 {d : Nat} {l0 : oV} {x : Int} {S : List oV} {σ : oSg} {Q : Option oV → (Nat → oC) → Prop} (c0 : oCat l0 = 1)  : oE d 35 23 [l0] (.inl x :: S) σ Q = oE d 35 24 [.inl x] S σ Q := pSt (i := 0) f_35_23 rfl rfl (show (0 : Nat) < 1 by decide) (oC1n c0) (oC1n c0) rfl
theorem f_35_24 : oFet 35 24 = some (.iload_n 0, 1) := by decide +kernel
theorem s_35_24 {d : Nat} {x : Int} {S : List oV} {σ : oSg} {Q : Option oV → (Nat → oC) → Prop} : oE d 35 24 [.inl x] S σ Q = oE d 35 25 [.inl x] (.inl x :: S) σ Q := pLdN (k := 0) f_35_24 rfl rfl rfl
theorem f_35_25 : oFet 35 25 = some (.iload_n 0, 1) := by decide +kernel
theorem s_35_25 {d : Nat} {x : Int} {S : List oV} {σ : oSg} {Q : Option oV → (Nat → oC) → Prop} : oE d 35 25 [.inl x] S σ Q = oE d 35 26 [.inl x] (.inl x :: S) σ Q := pLdN (k := 0) f_35_25 rfl rfl rfl
theorem f_35_26 : oFet 35 26 = some (.iconst 4, 1) := by decide +kernel
theorem s_35_26 {d : Nat} {l0 : oV} {S : List oV} {σ : oSg} {Q : Option oV → (Nat → oC) → Prop} : oE d 35 26 [l0] S σ Q = oE d 35 27 [l0] (.inl (4) :: S) σ Q := pKst f_35_26 (by decide)
theorem f_35_27 : oFet 35 27 = some (.iushr, 1) := by decide +kernel
theorem s_35_27 {d : Nat} {l0 : oV} {x y : Int} {S : List oV} {σ : oSg} {Q : Option oV → (Nat → oC) → Prop} : oE d 35 27 [l0] (.inl y :: .inl x :: S) σ Q = oE d 35 28 [l0] (.inl (oUshr x y) :: S) σ Q := oS3 f_35_27 rfl rfl rfl
theorem f_35_28 : oFet 35 28 = some (.iadd, 1) := by decide +kernel
theorem s_35_28 {d : Nat} {l0 : oV} {x y : Int} {S : List oV} {σ : oSg} {Q : Option oV → (Nat → oC) → Prop} : oE d 35 28 [l0] (.inl y :: .inl x :: S) σ Q = oE d 35 29 [l0] (.inl (oAdd x y) :: S) σ Q := oS3 f_35_28 rfl rfl rfl
theorem f_35_29 : oFet 35 29 = some (.ldc_w 267, 3) := by decide +kernel
theorem s_35_29 {d : Nat} {l0 : oV} {S : List oV} {σ : oSg} {Q : Option oV → (Nat → oC) → Prop} : oE d 35 29 [l0] S σ Q = oE d 35 32 [l0] (.inl 252645135 :: S) σ Q := pLdcW f_35_29 ow_35 (by decide +kernel)
theorem f_35_32 : oFet 35 32 = some (.iand, 1) := by decide +kernel
theorem s_35_32 {d : Nat} {l0 : oV} {x y : Int} {S : List oV} {σ : oSg} {Q : Option oV → (Nat → oC) → Prop} : oE d 35 32 [l0] (.inl y :: .inl x :: S) σ Q = oE d 35 33 [l0] (.inl (oAnd x y) :: S) σ Q := oS3 f_35_32 rfl rfl rfl
theorem f_35_33 : oFet 35 33 = some (.istore_n 0, 1) := by decide +kernel
theorem s_35_33 {d : Nat} {l0 : oV} {x : Int} {S : List oV} {σ : oSg} {Q : Option oV → (Nat → oC) → Prop} (c0 : oCat l0 = 1)  : oE d 35 33 [l0] (.inl x :: S) σ Q = oE d 35 34 [.inl x] S σ Q := pSt (i := 0) f_35_33 rfl rfl (show (0 : Nat) < 1 by decide) (oC1n c0) (oC1n c0) rfl
theorem f_35_34 : oFet 35 34 = some (.iload_n 0, 1) := by decide +kernel
theorem s_35_34 {d : Nat} {x : Int} {S : List oV} {σ : oSg} {Q : Option oV → (Nat → oC) → Prop} : oE d 35 34 [.inl x] S σ Q = oE d 35 35 [.inl x] (.inl x :: S) σ Q := pLdN (k := 0) f_35_34 rfl rfl rfl
theorem f_35_35 : oFet 35 35 = some (.iload_n 0, 1) := by decide +kernel
theorem s_35_35 {d : Nat} {x : Int} {S : List oV} {σ : oSg} {Q : Option oV → (Nat → oC) → Prop} : oE d 35 35 [.inl x] S σ Q = oE d 35 36 [.inl x] (.inl x :: S) σ Q := pLdN (k := 0) f_35_35 rfl rfl rfl
theorem f_35_36 : oFet 35 36 = some (.bipush 8, 2) := by decide +kernel
theorem s_35_36 {d : Nat} {l0 : oV} {S : List oV} {σ : oSg} {Q : Option oV → (Nat → oC) → Prop} : oE d 35 36 [l0] S σ Q = oE d 35 38 [l0] (.inl (8) :: S) σ Q := pBip f_35_36 (by decide)
theorem f_35_38 : oFet 35 38 = some (.iushr, 1) := by decide +kernel
theorem s_35_38 {d : Nat} {l0 : oV} {x y : Int} {S : List oV} {σ : oSg} {Q : Option oV → (Nat → oC) → Prop} : oE d 35 38 [l0] (.inl y :: .inl x :: S) σ Q = oE d 35 39 [l0] (.inl (oUshr x y) :: S) σ Q := oS3 f_35_38 rfl rfl rfl
theorem f_35_39 : oFet 35 39 = some (.iadd, 1) := by decide +kernel
theorem s_35_39 {d : Nat} {l0 : oV} {x y : Int} {S : List oV} {σ : oSg} {Q : Option oV → (Nat → oC) → Prop} : oE d 35 39 [l0] (.inl y :: .inl x :: S) σ Q = oE d 35 40 [l0] (.inl (oAdd x y) :: S) σ Q := oS3 f_35_39 rfl rfl rfl
theorem f_35_40 : oFet 35 40 = some (.istore_n 0, 1) := by decide +kernel
theorem s_35_40 {d : Nat} {l0 : oV} {x : Int} {S : List oV} {σ : oSg} {Q : Option oV → (Nat → oC) → Prop} (c0 : oCat l0 = 1)  : oE d 35 40 [l0] (.inl x :: S) σ Q = oE d 35 41 [.inl x] S σ Q := pSt (i := 0) f_35_40 rfl rfl (show (0 : Nat) < 1 by decide) (oC1n c0) (oC1n c0) rfl
theorem f_35_41 : oFet 35 41 = some (.iload_n 0, 1) := by decide +kernel
theorem s_35_41 {d : Nat} {x : Int} {S : List oV} {σ : oSg} {Q : Option oV → (Nat → oC) → Prop} : oE d 35 41 [.inl x] S σ Q = oE d 35 42 [.inl x] (.inl x :: S) σ Q := pLdN (k := 0) f_35_41 rfl rfl rfl
theorem f_35_42 : oFet 35 42 = some (.iload_n 0, 1) := by decide +kernel
theorem s_35_42 {d : Nat} {x : Int} {S : List oV} {σ : oSg} {Q : Option oV → (Nat → oC) → Prop} : oE d 35 42 [.inl x] S σ Q = oE d 35 43 [.inl x] (.inl x :: S) σ Q := pLdN (k := 0) f_35_42 rfl rfl rfl
theorem f_35_43 : oFet 35 43 = some (.bipush 16, 2) := by decide +kernel
theorem s_35_43 {d : Nat} {l0 : oV} {S : List oV} {σ : oSg} {Q : Option oV → (Nat → oC) → Prop} : oE d 35 43 [l0] S σ Q = oE d 35 45 [l0] (.inl (16) :: S) σ Q := pBip f_35_43 (by decide)
theorem f_35_45 : oFet 35 45 = some (.iushr, 1) := by decide +kernel
theorem s_35_45 {d : Nat} {l0 : oV} {x y : Int} {S : List oV} {σ : oSg} {Q : Option oV → (Nat → oC) → Prop} : oE d 35 45 [l0] (.inl y :: .inl x :: S) σ Q = oE d 35 46 [l0] (.inl (oUshr x y) :: S) σ Q := oS3 f_35_45 rfl rfl rfl
theorem f_35_46 : oFet 35 46 = some (.iadd, 1) := by decide +kernel
theorem s_35_46 {d : Nat} {l0 : oV} {x y : Int} {S : List oV} {σ : oSg} {Q : Option oV → (Nat → oC) → Prop} : oE d 35 46 [l0] (.inl y :: .inl x :: S) σ Q = oE d 35 47 [l0] (.inl (oAdd x y) :: S) σ Q := oS3 f_35_46 rfl rfl rfl
theorem f_35_47 : oFet 35 47 = some (.istore_n 0, 1) := by decide +kernel
theorem s_35_47 {d : Nat} {l0 : oV} {x : Int} {S : List oV} {σ : oSg} {Q : Option oV → (Nat → oC) → Prop} (c0 : oCat l0 = 1)  : oE d 35 47 [l0] (.inl x :: S) σ Q = oE d 35 48 [.inl x] S σ Q := pSt (i := 0) f_35_47 rfl rfl (show (0 : Nat) < 1 by decide) (oC1n c0) (oC1n c0) rfl
theorem f_35_48 : oFet 35 48 = some (.iload_n 0, 1) := by decide +kernel
theorem s_35_48 {d : Nat} {x : Int} {S : List oV} {σ : oSg} {Q : Option oV → (Nat → oC) → Prop} : oE d 35 48 [.inl x] S σ Q = oE d 35 49 [.inl x] (.inl x :: S) σ Q := pLdN (k := 0) f_35_48 rfl rfl rfl
theorem f_35_49 : oFet 35 49 = some (.bipush 63, 2) := by decide +kernel
theorem s_35_49 {d : Nat} {l0 : oV} {S : List oV} {σ : oSg} {Q : Option oV → (Nat → oC) → Prop} : oE d 35 49 [l0] S σ Q = oE d 35 51 [l0] (.inl (63) :: S) σ Q := pBip f_35_49 (by decide)
theorem f_35_51 : oFet 35 51 = some (.iand, 1) := by decide +kernel
theorem s_35_51 {d : Nat} {l0 : oV} {x y : Int} {S : List oV} {σ : oSg} {Q : Option oV → (Nat → oC) → Prop} : oE d 35 51 [l0] (.inl y :: .inl x :: S) σ Q = oE d 35 52 [l0] (.inl (oAnd x y) :: S) σ Q := oS3 f_35_51 rfl rfl rfl
theorem f_35_52 : oFet 35 52 = some (.ireturn, 1) := by decide +kernel
theorem s_35_52 {d : Nat} {l0 : oV} {x : Int} {σ : oSg} {Q : Option oV → (Nat → oC) → Prop} : oE d 35 52 [l0] [.inl x] σ Q = Q (some (.inl x)) (oBld σ) := oIret f_35_52 rt_35
theorem ow_36 : (oMt 36).2.2.2.2.1 = 3 := by decide +kernel
theorem rt_36 : (oMt 36).2.2.2.1 = some .int := by decide +kernel
theorem nl_36 : (oMt 36).2.2.1 = 2 := by decide +kernel
theorem f_36_0 : oFet 36 0 = some (.iload_n 1, 1) := by decide +kernel
theorem s_36_0 {d : Nat} {l0 : oV} {x : Int} {S : List oV} {σ : oSg} {Q : Option oV → (Nat → oC) → Prop} : oE d 36 0 [l0, .inl x] S σ Q = oE d 36 1 [l0, .inl x] (.inl x :: S) σ Q := pLdN (k := 1) f_36_0 rfl rfl rfl
theorem f_36_1 : oFet 36 1 = some (.ifCond .lt 19, 3) := by decide +kernel
theorem s_36_1 {d : Nat} {l0 l1 : oV} {x : Int} {S : List oV} {σ : oSg} {Q : Option oV → (Nat → oC) → Prop} : oE d 36 1 [l0, l1] (.inl x :: S) σ Q = if x < 0 then oE d 36 20 [l0, l1] S σ Q else oE d 36 4 [l0, l1] S σ Q := oIfLt f_36_1 (by decide)
theorem f_36_4 : oFet 36 4 = some (.iload_n 1, 1) := by decide +kernel
theorem s_36_4 {d : Nat} {l0 : oV} {x : Int} {S : List oV} {σ : oSg} {Q : Option oV → (Nat → oC) → Prop} : oE d 36 4 [l0, .inl x] S σ Q = oE d 36 5 [l0, .inl x] (.inl x :: S) σ Q := pLdN (k := 1) f_36_4 rfl rfl rfl
theorem f_36_5 : oFet 36 5 = some (.sipush 128, 3) := by decide +kernel
theorem s_36_5 {d : Nat} {l0 l1 : oV} {S : List oV} {σ : oSg} {Q : Option oV → (Nat → oC) → Prop} : oE d 36 5 [l0, l1] S σ Q = oE d 36 8 [l0, l1] (.inl (128) :: S) σ Q := pSip f_36_5 (by decide)
theorem f_36_8 : oFet 36 8 = some (.if_icmp .ge 12, 3) := by decide +kernel
theorem s_36_8 {d : Nat} {l0 l1 : oV} {x y : Int} {S : List oV} {σ : oSg} {Q : Option oV → (Nat → oC) → Prop} : oE d 36 8 [l0, l1] (.inl y :: .inl x :: S) σ Q = if y ≤ x then oE d 36 20 [l0, l1] S σ Q else oE d 36 11 [l0, l1] S σ Q := oCmpGe f_36_8 (by decide)
theorem f_36_11 : oFet 36 11 = some (.aload_n 0, 1) := by decide +kernel
theorem s_36_11 {d : Nat} {l1 : oV} {a : Nat} {S : List oV} {σ : oSg} {Q : Option oV → (Nat → oC) → Prop} : oE d 36 11 [.inr (.inr (.inl a)), l1] S σ Q = oE d 36 12 [.inr (.inr (.inl a)), l1] (.inr (.inr (.inl a)) :: S) σ Q := pLdN (k := 0) f_36_11 rfl rfl rfl
theorem f_36_12 : oFet 36 12 = some (.getfield 15, 3) := by decide +kernel
theorem s_36_12 {d : Nat} {l0 l1 : oV} {a : Nat} {S : List oV} {σ : oSg} {Q : Option oV → (Nat → oC) → Prop} (hk : oKd a = some 3) : oE d 36 12 [l0, l1] (.inr (.inr (.inl a)) :: S) σ Q = oE d 36 15 [l0, l1] (.inr (.inr (.inl (oRf a 4))) :: S) σ Q := pGfR f_36_12 ow_36 fl_3_15 rfl (by decide) hk
theorem f_36_15 : oFet 36 15 = some (.iload_n 1, 1) := by decide +kernel
theorem s_36_15 {d : Nat} {l0 : oV} {x : Int} {S : List oV} {σ : oSg} {Q : Option oV → (Nat → oC) → Prop} : oE d 36 15 [l0, .inl x] S σ Q = oE d 36 16 [l0, .inl x] (.inl x :: S) σ Q := pLdN (k := 1) f_36_15 rfl rfl rfl
theorem f_36_16 : oFet 36 16 = some (.iaload, 1) := by decide +kernel
theorem s_36_16 {d : Nat} {l0 l1 : oV} {a : Nat} {i : Int} {S : List oV} {σ : oSg} {Q : Option oV → (Nat → oC) → Prop} (hk : oAk a = some 0) (h0 : 0 ≤ i) (h1 : i < (oLn a : Int)) : oE d 36 16 [l0, l1] (.inl i :: .inr (.inr (.inl a)) :: S) σ Q = oE d 36 17 [l0, l1] (.inl (σ.2 a i.toNat) :: S) σ Q := oIal f_36_16 hk h0 h1
theorem f_36_17 : oFet 36 17 = some (.goto 4, 3) := by decide +kernel
theorem s_36_17 {d : Nat} {l0 l1 : oV} {S : List oV} {σ : oSg} {Q : Option oV → (Nat → oC) → Prop} : oE d 36 17 [l0, l1] S σ Q = oE d 36 21 [l0, l1] S σ Q := pGoto f_36_17 (by decide)
theorem f_36_20 : oFet 36 20 = some (.iconst 0, 1) := by decide +kernel
theorem s_36_20 {d : Nat} {l0 l1 : oV} {S : List oV} {σ : oSg} {Q : Option oV → (Nat → oC) → Prop} : oE d 36 20 [l0, l1] S σ Q = oE d 36 21 [l0, l1] (.inl (0) :: S) σ Q := pKst f_36_20 (by decide)
theorem f_36_21 : oFet 36 21 = some (.ireturn, 1) := by decide +kernel
theorem s_36_21 {d : Nat} {l0 l1 : oV} {x : Int} {σ : oSg} {Q : Option oV → (Nat → oC) → Prop} : oE d 36 21 [l0, l1] [.inl x] σ Q = Q (some (.inl x)) (oBld σ) := oIret f_36_21 rt_36
theorem ow_37 : (oMt 37).2.2.2.2.1 = 3 := by decide +kernel
theorem rt_37 : (oMt 37).2.2.2.1 = some .int := by decide +kernel
theorem nl_37 : (oMt 37).2.2.1 = 6 := by decide +kernel
theorem f_37_0 : oFet 37 0 = some (.aload_n 1, 1) := by decide +kernel
theorem s_37_0 {d : Nat} {l0 l2 l3 l4 l5 : oV} {a : Nat} {S : List oV} {σ : oSg} {Q : Option oV → (Nat → oC) → Prop} : oE d 37 0 [l0, .inr (.inr (.inl a)), l2, l3, l4, l5] S σ Q = oE d 37 1 [l0, .inr (.inr (.inl a)), l2, l3, l4, l5] (.inr (.inr (.inl a)) :: S) σ Q := pLdN (k := 1) f_37_0 rfl rfl rfl
theorem f_37_1 : oFet 37 1 = some (.iload_n 2, 1) := by decide +kernel
theorem s_37_1 {d : Nat} {l0 l1 l3 l4 l5 : oV} {x : Int} {S : List oV} {σ : oSg} {Q : Option oV → (Nat → oC) → Prop} : oE d 37 1 [l0, l1, .inl x, l3, l4, l5] S σ Q = oE d 37 2 [l0, l1, .inl x, l3, l4, l5] (.inl x :: S) σ Q := pLdN (k := 2) f_37_1 rfl rfl rfl
theorem f_37_2 : oFet 37 2 = some (.iload_n 3, 1) := by decide +kernel
theorem s_37_2 {d : Nat} {l0 l1 l2 l4 l5 : oV} {x : Int} {S : List oV} {σ : oSg} {Q : Option oV → (Nat → oC) → Prop} : oE d 37 2 [l0, l1, l2, .inl x, l4, l5] S σ Q = oE d 37 3 [l0, l1, l2, .inl x, l4, l5] (.inl x :: S) σ Q := pLdN (k := 3) f_37_2 rfl rfl rfl
theorem f_37_3 : oFet 37 3 = some (.invokevirtual 63, 3) := by decide +kernel
theorem c_37_3 {d : Nat} {l0 l1 l2 l3 l4 l5 : oV} {x0 x1 : oV} {a : Nat} {v : Option oV} {τ : oSg} {S : List oV} {σ : oSg} {Q : Option oV → (Nat → oC) → Prop} (hm : oMi d 16 [.inr (.inr (.inl a)), x0, x1] σ v τ) (hk : oKd a = some 4) (hs : oSmall S = true) : oE d 37 3 [l0, l1, l2, l3, l4, l5] (x1 :: x0 :: .inr (.inr (.inl a)) :: S) σ Q = oE d 37 6 [l0, l1, l2, l3, l4, l5] (v.toList ++ S) τ Q := pCallV f_37_3 ow_37 lk_3_63 mt_16 rfl rfl rfl hk hs hm
theorem f_37_6 : oFet 37 6 = some (.istore 5, 2) := by decide +kernel
theorem s_37_6 {d : Nat} {l0 l1 l2 l3 l4 l5 : oV} {x : Int} {S : List oV} {σ : oSg} {Q : Option oV → (Nat → oC) → Prop} (c5 : oCat l5 = 1) (c4 : oCat l4 = 1)  : oE d 37 6 [l0, l1, l2, l3, l4, l5] (.inl x :: S) σ Q = oE d 37 8 [l0, l1, l2, l3, l4, .inl x] S σ Q := pSt (i := 5) f_37_6 rfl rfl (show (5 : Nat) < 6 by decide) (oC1n c4) (oC1n c5) rfl
theorem f_37_8 : oFet 37 8 = some (.iload 5, 2) := by decide +kernel
theorem s_37_8 {d : Nat} {l0 l1 l2 l3 l4 : oV} {x : Int} {S : List oV} {σ : oSg} {Q : Option oV → (Nat → oC) → Prop} : oE d 37 8 [l0, l1, l2, l3, l4, .inl x] S σ Q = oE d 37 10 [l0, l1, l2, l3, l4, .inl x] (.inl x :: S) σ Q := pLd (i := 5) f_37_8 rfl rfl rfl
theorem f_37_10 : oFet 37 10 = some (.ifCond .le 26, 3) := by decide +kernel
theorem s_37_10 {d : Nat} {l0 l1 l2 l3 l4 l5 : oV} {x : Int} {S : List oV} {σ : oSg} {Q : Option oV → (Nat → oC) → Prop} : oE d 37 10 [l0, l1, l2, l3, l4, l5] (.inl x :: S) σ Q = if x ≤ 0 then oE d 37 36 [l0, l1, l2, l3, l4, l5] S σ Q else oE d 37 13 [l0, l1, l2, l3, l4, l5] S σ Q := oIfLe f_37_10 (by decide)
theorem f_37_13 : oFet 37 13 = some (.aload_n 0, 1) := by decide +kernel
theorem s_37_13 {d : Nat} {l1 l2 l3 l4 l5 : oV} {a : Nat} {S : List oV} {σ : oSg} {Q : Option oV → (Nat → oC) → Prop} : oE d 37 13 [.inr (.inr (.inl a)), l1, l2, l3, l4, l5] S σ Q = oE d 37 14 [.inr (.inr (.inl a)), l1, l2, l3, l4, l5] (.inr (.inr (.inl a)) :: S) σ Q := pLdN (k := 0) f_37_13 rfl rfl rfl
theorem f_37_14 : oFet 37 14 = some (.getfield 18, 3) := by decide +kernel
theorem s_37_14 {d : Nat} {l0 l1 l2 l3 l4 l5 : oV} {a : Nat} {S : List oV} {σ : oSg} {Q : Option oV → (Nat → oC) → Prop} (hk : oKd a = some 3) : oE d 37 14 [l0, l1, l2, l3, l4, l5] (.inr (.inr (.inl a)) :: S) σ Q = oE d 37 17 [l0, l1, l2, l3, l4, l5] (.inl (σ.1 a 2) :: S) σ Q := pGfI f_37_14 ow_37 fl_3_18 rfl (by decide) hk
theorem f_37_17 : oFet 37 17 = some (.iload 5, 2) := by decide +kernel
theorem s_37_17 {d : Nat} {l0 l1 l2 l3 l4 : oV} {x : Int} {S : List oV} {σ : oSg} {Q : Option oV → (Nat → oC) → Prop} : oE d 37 17 [l0, l1, l2, l3, l4, .inl x] S σ Q = oE d 37 19 [l0, l1, l2, l3, l4, .inl x] (.inl x :: S) σ Q := pLd (i := 5) f_37_17 rfl rfl rfl
theorem f_37_19 : oFet 37 19 = some (.iadd, 1) := by decide +kernel
theorem s_37_19 {d : Nat} {l0 l1 l2 l3 l4 l5 : oV} {x y : Int} {S : List oV} {σ : oSg} {Q : Option oV → (Nat → oC) → Prop} : oE d 37 19 [l0, l1, l2, l3, l4, l5] (.inl y :: .inl x :: S) σ Q = oE d 37 20 [l0, l1, l2, l3, l4, l5] (.inl (oAdd x y) :: S) σ Q := oS3 f_37_19 rfl rfl rfl
theorem f_37_20 : oFet 37 20 = some (.aload_n 0, 1) := by decide +kernel
theorem s_37_20 {d : Nat} {l1 l2 l3 l4 l5 : oV} {a : Nat} {S : List oV} {σ : oSg} {Q : Option oV → (Nat → oC) → Prop} : oE d 37 20 [.inr (.inr (.inl a)), l1, l2, l3, l4, l5] S σ Q = oE d 37 21 [.inr (.inr (.inl a)), l1, l2, l3, l4, l5] (.inr (.inr (.inl a)) :: S) σ Q := pLdN (k := 0) f_37_20 rfl rfl rfl
theorem f_37_21 : oFet 37 21 = some (.iload 4, 2) := by decide +kernel
theorem s_37_21 {d : Nat} {l0 l1 l2 l3 l5 : oV} {x : Int} {S : List oV} {σ : oSg} {Q : Option oV → (Nat → oC) → Prop} : oE d 37 21 [l0, l1, l2, l3, .inl x, l5] S σ Q = oE d 37 23 [l0, l1, l2, l3, .inl x, l5] (.inl x :: S) σ Q := pLd (i := 4) f_37_21 rfl rfl rfl
theorem f_37_23 : oFet 37 23 = some (.iconst 1, 1) := by decide +kernel
theorem s_37_23 {d : Nat} {l0 l1 l2 l3 l4 l5 : oV} {S : List oV} {σ : oSg} {Q : Option oV → (Nat → oC) → Prop} : oE d 37 23 [l0, l1, l2, l3, l4, l5] S σ Q = oE d 37 24 [l0, l1, l2, l3, l4, l5] (.inl (1) :: S) σ Q := pKst f_37_23 (by decide)
theorem f_37_24 : oFet 37 24 = some (.iload_n 3, 1) := by decide +kernel
theorem s_37_24 {d : Nat} {l0 l1 l2 l4 l5 : oV} {x : Int} {S : List oV} {σ : oSg} {Q : Option oV → (Nat → oC) → Prop} : oE d 37 24 [l0, l1, l2, .inl x, l4, l5] S σ Q = oE d 37 25 [l0, l1, l2, .inl x, l4, l5] (.inl x :: S) σ Q := pLdN (k := 3) f_37_24 rfl rfl rfl
theorem f_37_25 : oFet 37 25 = some (.ishl, 1) := by decide +kernel
theorem s_37_25 {d : Nat} {l0 l1 l2 l3 l4 l5 : oV} {x y : Int} {S : List oV} {σ : oSg} {Q : Option oV → (Nat → oC) → Prop} : oE d 37 25 [l0, l1, l2, l3, l4, l5] (.inl y :: .inl x :: S) σ Q = oE d 37 26 [l0, l1, l2, l3, l4, l5] (.inl (oShl x y) :: S) σ Q := oS3 f_37_25 rfl rfl rfl
theorem f_37_26 : oFet 37 26 = some (.iconst (-1), 1) := by decide +kernel
theorem s_37_26 {d : Nat} {l0 l1 l2 l3 l4 l5 : oV} {S : List oV} {σ : oSg} {Q : Option oV → (Nat → oC) → Prop} : oE d 37 26 [l0, l1, l2, l3, l4, l5] S σ Q = oE d 37 27 [l0, l1, l2, l3, l4, l5] (.inl (-1) :: S) σ Q := pKst f_37_26 (by decide)
theorem f_37_27 : oFet 37 27 = some (.ixor, 1) := by decide +kernel
theorem s_37_27 {d : Nat} {l0 l1 l2 l3 l4 l5 : oV} {x y : Int} {S : List oV} {σ : oSg} {Q : Option oV → (Nat → oC) → Prop} : oE d 37 27 [l0, l1, l2, l3, l4, l5] (.inl y :: .inl x :: S) σ Q = oE d 37 28 [l0, l1, l2, l3, l4, l5] (.inl (oXor x y) :: S) σ Q := oS3 f_37_27 rfl rfl rfl
theorem f_37_28 : oFet 37 28 = some (.iand, 1) := by decide +kernel
theorem s_37_28 {d : Nat} {l0 l1 l2 l3 l4 l5 : oV} {x y : Int} {S : List oV} {σ : oSg} {Q : Option oV → (Nat → oC) → Prop} : oE d 37 28 [l0, l1, l2, l3, l4, l5] (.inl y :: .inl x :: S) σ Q = oE d 37 29 [l0, l1, l2, l3, l4, l5] (.inl (oAnd x y) :: S) σ Q := oS3 f_37_28 rfl rfl rfl
theorem f_37_29 : oFet 37 29 = some (.invokevirtual 47, 3) := by decide +kernel
theorem c_37_29 {d : Nat} {l0 l1 l2 l3 l4 l5 : oV} {x0 : oV} {a : Nat} {v : Option oV} {τ : oSg} {S : List oV} {σ : oSg} {Q : Option oV → (Nat → oC) → Prop} (hm : oMi d 36 [.inr (.inr (.inl a)), x0] σ v τ) (hk : oKd a = some 3) (hs : oSmall S = true) : oE d 37 29 [l0, l1, l2, l3, l4, l5] (x0 :: .inr (.inr (.inl a)) :: S) σ Q = oE d 37 32 [l0, l1, l2, l3, l4, l5] (v.toList ++ S) τ Q := pCallV f_37_29 ow_37 lk_3_47 mt_36 rfl rfl rfl hk hs hm
theorem f_37_32 : oFet 37 32 = some (.iadd, 1) := by decide +kernel
theorem s_37_32 {d : Nat} {l0 l1 l2 l3 l4 l5 : oV} {x y : Int} {S : List oV} {σ : oSg} {Q : Option oV → (Nat → oC) → Prop} : oE d 37 32 [l0, l1, l2, l3, l4, l5] (.inl y :: .inl x :: S) σ Q = oE d 37 33 [l0, l1, l2, l3, l4, l5] (.inl (oAdd x y) :: S) σ Q := oS3 f_37_32 rfl rfl rfl
theorem f_37_33 : oFet 37 33 = some (.goto 4, 3) := by decide +kernel
theorem s_37_33 {d : Nat} {l0 l1 l2 l3 l4 l5 : oV} {S : List oV} {σ : oSg} {Q : Option oV → (Nat → oC) → Prop} : oE d 37 33 [l0, l1, l2, l3, l4, l5] S σ Q = oE d 37 37 [l0, l1, l2, l3, l4, l5] S σ Q := pGoto f_37_33 (by decide)
theorem f_37_36 : oFet 37 36 = some (.iconst 0, 1) := by decide +kernel
theorem s_37_36 {d : Nat} {l0 l1 l2 l3 l4 l5 : oV} {S : List oV} {σ : oSg} {Q : Option oV → (Nat → oC) → Prop} : oE d 37 36 [l0, l1, l2, l3, l4, l5] S σ Q = oE d 37 37 [l0, l1, l2, l3, l4, l5] (.inl (0) :: S) σ Q := pKst f_37_36 (by decide)
theorem f_37_37 : oFet 37 37 = some (.ireturn, 1) := by decide +kernel
theorem s_37_37 {d : Nat} {l0 l1 l2 l3 l4 l5 : oV} {x : Int} {σ : oSg} {Q : Option oV → (Nat → oC) → Prop} : oE d 37 37 [l0, l1, l2, l3, l4, l5] [.inl x] σ Q = Q (some (.inl x)) (oBld σ) := oIret f_37_37 rt_37
theorem ow_38 : (oMt 38).2.2.2.2.1 = 3 := by decide +kernel
theorem rt_38 : (oMt 38).2.2.2.1 = none := by decide +kernel
theorem nl_38 : (oMt 38).2.2.1 = 6 := by decide +kernel
theorem f_38_0 : oFet 38 0 = some (.aload_n 0, 1) := by decide +kernel
theorem s_38_0 {d : Nat} {l1 l2 l3 l4 l5 : oV} {a : Nat} {S : List oV} {σ : oSg} {Q : Option oV → (Nat → oC) → Prop} : oE d 38 0 [.inr (.inr (.inl a)), l1, l2, l3, l4, l5] S σ Q = oE d 38 1 [.inr (.inr (.inl a)), l1, l2, l3, l4, l5] (.inr (.inr (.inl a)) :: S) σ Q := pLdN (k := 0) f_38_0 rfl rfl rfl
theorem f_38_1 : oFet 38 1 = some (.getfield 9, 3) := by decide +kernel
theorem s_38_1 {d : Nat} {l0 l1 l2 l3 l4 l5 : oV} {a : Nat} {S : List oV} {σ : oSg} {Q : Option oV → (Nat → oC) → Prop} (hk : oKd a = some 3) : oE d 38 1 [l0, l1, l2, l3, l4, l5] (.inr (.inr (.inl a)) :: S) σ Q = oE d 38 4 [l0, l1, l2, l3, l4, l5] (.inr (.inr (.inl (oRf a 3))) :: S) σ Q := pGfR f_38_1 ow_38 fl_3_9 rfl (by decide) hk
theorem f_38_4 : oFet 38 4 = some (.iconst (-1), 1) := by decide +kernel
theorem s_38_4 {d : Nat} {l0 l1 l2 l3 l4 l5 : oV} {S : List oV} {σ : oSg} {Q : Option oV → (Nat → oC) → Prop} : oE d 38 4 [l0, l1, l2, l3, l4, l5] S σ Q = oE d 38 5 [l0, l1, l2, l3, l4, l5] (.inl (-1) :: S) σ Q := pKst f_38_4 (by decide)
theorem f_38_5 : oFet 38 5 = some (.invokestatic 66, 3) := by decide +kernel
theorem c_38_5 {d : Nat} {l0 l1 l2 l3 l4 l5 : oV} {x0 x1 : oV} {v : Option oV} {τ : oSg} {S : List oV} {σ : oSg} {Q : Option oV → (Nat → oC) → Prop} (hm : oMi d 4 [x0, x1] σ v τ) (hs : oSmall S = true) : oE d 38 5 [l0, l1, l2, l3, l4, l5] (x1 :: x0 :: S) σ Q = oE d 38 8 [l0, l1, l2, l3, l4, l5] (v.toList ++ S) τ Q := pCallS f_38_5 ow_38 lk_3_66 mt_4 rfl rfl rfl hs hm
theorem f_38_8 : oFet 38 8 = some (.aload_n 0, 1) := by decide +kernel
theorem s_38_8 {d : Nat} {l1 l2 l3 l4 l5 : oV} {a : Nat} {S : List oV} {σ : oSg} {Q : Option oV → (Nat → oC) → Prop} : oE d 38 8 [.inr (.inr (.inl a)), l1, l2, l3, l4, l5] S σ Q = oE d 38 9 [.inr (.inr (.inl a)), l1, l2, l3, l4, l5] (.inr (.inr (.inl a)) :: S) σ Q := pLdN (k := 0) f_38_8 rfl rfl rfl
theorem f_38_9 : oFet 38 9 = some (.iconst 0, 1) := by decide +kernel
theorem s_38_9 {d : Nat} {l0 l1 l2 l3 l4 l5 : oV} {S : List oV} {σ : oSg} {Q : Option oV → (Nat → oC) → Prop} : oE d 38 9 [l0, l1, l2, l3, l4, l5] S σ Q = oE d 38 10 [l0, l1, l2, l3, l4, l5] (.inl (0) :: S) σ Q := pKst f_38_9 (by decide)
theorem f_38_10 : oFet 38 10 = some (.putfield 72, 3) := by decide +kernel
theorem s_38_10 {d : Nat} {l0 l1 l2 l3 l4 l5 : oV} {a : Nat} {v : Int} {S : List oV} {σ : oSg} {Q : Option oV → (Nat → oC) → Prop} (hk : oKd a = some 3) : oE d 38 10 [l0, l1, l2, l3, l4, l5] (.inl v :: .inr (.inr (.inl a)) :: S) σ Q = oE d 38 13 [l0, l1, l2, l3, l4, l5] S (oSF σ a 0 v) Q := pPfI f_38_10 ow_38 fl_3_72 rfl (by decide) rfl rfl hk
theorem f_38_13 : oFet 38 13 = some (.aload_n 0, 1) := by decide +kernel
theorem s_38_13 {d : Nat} {l1 l2 l3 l4 l5 : oV} {a : Nat} {S : List oV} {σ : oSg} {Q : Option oV → (Nat → oC) → Prop} : oE d 38 13 [.inr (.inr (.inl a)), l1, l2, l3, l4, l5] S σ Q = oE d 38 14 [.inr (.inr (.inl a)), l1, l2, l3, l4, l5] (.inr (.inr (.inl a)) :: S) σ Q := pLdN (k := 0) f_38_13 rfl rfl rfl
theorem f_38_14 : oFet 38 14 = some (.iconst 0, 1) := by decide +kernel
theorem s_38_14 {d : Nat} {l0 l1 l2 l3 l4 l5 : oV} {S : List oV} {σ : oSg} {Q : Option oV → (Nat → oC) → Prop} : oE d 38 14 [l0, l1, l2, l3, l4, l5] S σ Q = oE d 38 15 [l0, l1, l2, l3, l4, l5] (.inl (0) :: S) σ Q := pKst f_38_14 (by decide)
theorem f_38_15 : oFet 38 15 = some (.putfield 75, 3) := by decide +kernel
theorem s_38_15 {d : Nat} {l0 l1 l2 l3 l4 l5 : oV} {a : Nat} {v : Int} {S : List oV} {σ : oSg} {Q : Option oV → (Nat → oC) → Prop} (hk : oKd a = some 3) : oE d 38 15 [l0, l1, l2, l3, l4, l5] (.inl v :: .inr (.inr (.inl a)) :: S) σ Q = oE d 38 18 [l0, l1, l2, l3, l4, l5] S (oSF σ a 1 v) Q := pPfI f_38_15 ow_38 fl_3_75 rfl (by decide) rfl rfl hk
theorem f_38_18 : oFet 38 18 = some (.aload_n 1, 1) := by decide +kernel
theorem s_38_18 {d : Nat} {l0 l2 l3 l4 l5 : oV} {a : Nat} {S : List oV} {σ : oSg} {Q : Option oV → (Nat → oC) → Prop} : oE d 38 18 [l0, .inr (.inr (.inl a)), l2, l3, l4, l5] S σ Q = oE d 38 19 [l0, .inr (.inr (.inl a)), l2, l3, l4, l5] (.inr (.inr (.inl a)) :: S) σ Q := pLdN (k := 1) f_38_18 rfl rfl rfl
theorem f_38_19 : oFet 38 19 = some (.invokevirtual 29, 3) := by decide +kernel
theorem c_38_19 {d : Nat} {l0 l1 l2 l3 l4 l5 : oV} {a : Nat} {v : Option oV} {τ : oSg} {S : List oV} {σ : oSg} {Q : Option oV → (Nat → oC) → Prop} (hm : oMi d 26 [.inr (.inr (.inl a))] σ v τ) (hk : oKd a = some 4) (hs : oSmall S = true) : oE d 38 19 [l0, l1, l2, l3, l4, l5] (.inr (.inr (.inl a)) :: S) σ Q = oE d 38 22 [l0, l1, l2, l3, l4, l5] (v.toList ++ S) τ Q := pCallV f_38_19 ow_38 lk_3_29 mt_26 rfl rfl rfl hk hs hm
theorem f_38_22 : oFet 38 22 = some (.istore_n 2, 1) := by decide +kernel
theorem s_38_22 {d : Nat} {l0 l1 l2 l3 l4 l5 : oV} {x : Int} {S : List oV} {σ : oSg} {Q : Option oV → (Nat → oC) → Prop} (c2 : oCat l2 = 1) (c1 : oCat l1 = 1)  : oE d 38 22 [l0, l1, l2, l3, l4, l5] (.inl x :: S) σ Q = oE d 38 23 [l0, l1, .inl x, l3, l4, l5] S σ Q := pSt (i := 2) f_38_22 rfl rfl (show (2 : Nat) < 6 by decide) (oC1n c1) (oC1n c2) rfl
theorem f_38_23 : oFet 38 23 = some (.iconst 0, 1) := by decide +kernel
theorem s_38_23 {d : Nat} {l0 l1 l2 l3 l4 l5 : oV} {S : List oV} {σ : oSg} {Q : Option oV → (Nat → oC) → Prop} : oE d 38 23 [l0, l1, l2, l3, l4, l5] S σ Q = oE d 38 24 [l0, l1, l2, l3, l4, l5] (.inl (0) :: S) σ Q := pKst f_38_23 (by decide)
theorem f_38_24 : oFet 38 24 = some (.istore_n 3, 1) := by decide +kernel
theorem s_38_24 {d : Nat} {l0 l1 l2 l3 l4 l5 : oV} {x : Int} {S : List oV} {σ : oSg} {Q : Option oV → (Nat → oC) → Prop} (c3 : oCat l3 = 1) (c2 : oCat l2 = 1)  : oE d 38 24 [l0, l1, l2, l3, l4, l5] (.inl x :: S) σ Q = oE d 38 25 [l0, l1, l2, .inl x, l4, l5] S σ Q := pSt (i := 3) f_38_24 rfl rfl (show (3 : Nat) < 6 by decide) (oC1n c2) (oC1n c3) rfl
theorem f_38_25 : oFet 38 25 = some (.iload_n 3, 1) := by decide +kernel
theorem s_38_25 {d : Nat} {l0 l1 l2 l4 l5 : oV} {x : Int} {S : List oV} {σ : oSg} {Q : Option oV → (Nat → oC) → Prop} : oE d 38 25 [l0, l1, l2, .inl x, l4, l5] S σ Q = oE d 38 26 [l0, l1, l2, .inl x, l4, l5] (.inl x :: S) σ Q := pLdN (k := 3) f_38_25 rfl rfl rfl
theorem f_38_26 : oFet 38 26 = some (.bipush 7, 2) := by decide +kernel
theorem s_38_26 {d : Nat} {l0 l1 l2 l3 l4 l5 : oV} {S : List oV} {σ : oSg} {Q : Option oV → (Nat → oC) → Prop} : oE d 38 26 [l0, l1, l2, l3, l4, l5] S σ Q = oE d 38 28 [l0, l1, l2, l3, l4, l5] (.inl (7) :: S) σ Q := pBip f_38_26 (by decide)
theorem f_38_28 : oFet 38 28 = some (.if_icmp .ge 115, 3) := by decide +kernel
theorem s_38_28 {d : Nat} {l0 l1 l2 l3 l4 l5 : oV} {x y : Int} {S : List oV} {σ : oSg} {Q : Option oV → (Nat → oC) → Prop} : oE d 38 28 [l0, l1, l2, l3, l4, l5] (.inl y :: .inl x :: S) σ Q = if y ≤ x then oE d 38 143 [l0, l1, l2, l3, l4, l5] S σ Q else oE d 38 31 [l0, l1, l2, l3, l4, l5] S σ Q := oCmpGe f_38_28 (by decide)
theorem f_38_31 : oFet 38 31 = some (.iload_n 3, 1) := by decide +kernel
theorem s_38_31 {d : Nat} {l0 l1 l2 l4 l5 : oV} {x : Int} {S : List oV} {σ : oSg} {Q : Option oV → (Nat → oC) → Prop} : oE d 38 31 [l0, l1, l2, .inl x, l4, l5] S σ Q = oE d 38 32 [l0, l1, l2, .inl x, l4, l5] (.inl x :: S) σ Q := pLdN (k := 3) f_38_31 rfl rfl rfl
theorem f_38_32 : oFet 38 32 = some (.iload_n 2, 1) := by decide +kernel
theorem s_38_32 {d : Nat} {l0 l1 l3 l4 l5 : oV} {x : Int} {S : List oV} {σ : oSg} {Q : Option oV → (Nat → oC) → Prop} : oE d 38 32 [l0, l1, .inl x, l3, l4, l5] S σ Q = oE d 38 33 [l0, l1, .inl x, l3, l4, l5] (.inl x :: S) σ Q := pLdN (k := 2) f_38_32 rfl rfl rfl
theorem f_38_33 : oFet 38 33 = some (.invokestatic 50, 3) := by decide +kernel
theorem c_38_33 {d : Nat} {l0 l1 l2 l3 l4 l5 : oV} {x0 x1 : oV} {v : Option oV} {τ : oSg} {S : List oV} {σ : oSg} {Q : Option oV → (Nat → oC) → Prop} (hm : oMi d 28 [x0, x1] σ v τ) (hs : oSmall S = true) : oE d 38 33 [l0, l1, l2, l3, l4, l5] (x1 :: x0 :: S) σ Q = oE d 38 36 [l0, l1, l2, l3, l4, l5] (v.toList ++ S) τ Q := pCallS f_38_33 ow_38 lk_3_50 mt_28 rfl rfl rfl hs hm
theorem f_38_36 : oFet 38 36 = some (.ifCond .eq 101, 3) := by decide +kernel
theorem s_38_36 {d : Nat} {l0 l1 l2 l3 l4 l5 : oV} {x : Int} {S : List oV} {σ : oSg} {Q : Option oV → (Nat → oC) → Prop} : oE d 38 36 [l0, l1, l2, l3, l4, l5] (.inl x :: S) σ Q = if x = 0 then oE d 38 137 [l0, l1, l2, l3, l4, l5] S σ Q else oE d 38 39 [l0, l1, l2, l3, l4, l5] S σ Q := oIfEq f_38_36 (by decide)
theorem f_38_39 : oFet 38 39 = some (.iload_n 2, 1) := by decide +kernel
theorem s_38_39 {d : Nat} {l0 l1 l3 l4 l5 : oV} {x : Int} {S : List oV} {σ : oSg} {Q : Option oV → (Nat → oC) → Prop} : oE d 38 39 [l0, l1, .inl x, l3, l4, l5] S σ Q = oE d 38 40 [l0, l1, .inl x, l3, l4, l5] (.inl x :: S) σ Q := pLdN (k := 2) f_38_39 rfl rfl rfl
theorem f_38_40 : oFet 38 40 = some (.iconst 1, 1) := by decide +kernel
theorem s_38_40 {d : Nat} {l0 l1 l2 l3 l4 l5 : oV} {S : List oV} {σ : oSg} {Q : Option oV → (Nat → oC) → Prop} : oE d 38 40 [l0, l1, l2, l3, l4, l5] S σ Q = oE d 38 41 [l0, l1, l2, l3, l4, l5] (.inl (1) :: S) σ Q := pKst f_38_40 (by decide)
theorem f_38_41 : oFet 38 41 = some (.iload_n 3, 1) := by decide +kernel
theorem s_38_41 {d : Nat} {l0 l1 l2 l4 l5 : oV} {x : Int} {S : List oV} {σ : oSg} {Q : Option oV → (Nat → oC) → Prop} : oE d 38 41 [l0, l1, l2, .inl x, l4, l5] S σ Q = oE d 38 42 [l0, l1, l2, .inl x, l4, l5] (.inl x :: S) σ Q := pLdN (k := 3) f_38_41 rfl rfl rfl
theorem f_38_42 : oFet 38 42 = some (.ishl, 1) := by decide +kernel
theorem s_38_42 {d : Nat} {l0 l1 l2 l3 l4 l5 : oV} {x y : Int} {S : List oV} {σ : oSg} {Q : Option oV → (Nat → oC) → Prop} : oE d 38 42 [l0, l1, l2, l3, l4, l5] (.inl y :: .inl x :: S) σ Q = oE d 38 43 [l0, l1, l2, l3, l4, l5] (.inl (oShl x y) :: S) σ Q := oS3 f_38_42 rfl rfl rfl
theorem f_38_43 : oFet 38 43 = some (.iconst (-1), 1) := by decide +kernel
theorem s_38_43 {d : Nat} {l0 l1 l2 l3 l4 l5 : oV} {S : List oV} {σ : oSg} {Q : Option oV → (Nat → oC) → Prop} : oE d 38 43 [l0, l1, l2, l3, l4, l5] S σ Q = oE d 38 44 [l0, l1, l2, l3, l4, l5] (.inl (-1) :: S) σ Q := pKst f_38_43 (by decide)
theorem f_38_44 : oFet 38 44 = some (.ixor, 1) := by decide +kernel
theorem s_38_44 {d : Nat} {l0 l1 l2 l3 l4 l5 : oV} {x y : Int} {S : List oV} {σ : oSg} {Q : Option oV → (Nat → oC) → Prop} : oE d 38 44 [l0, l1, l2, l3, l4, l5] (.inl y :: .inl x :: S) σ Q = oE d 38 45 [l0, l1, l2, l3, l4, l5] (.inl (oXor x y) :: S) σ Q := oS3 f_38_44 rfl rfl rfl
theorem f_38_45 : oFet 38 45 = some (.iand, 1) := by decide +kernel
theorem s_38_45 {d : Nat} {l0 l1 l2 l3 l4 l5 : oV} {x y : Int} {S : List oV} {σ : oSg} {Q : Option oV → (Nat → oC) → Prop} : oE d 38 45 [l0, l1, l2, l3, l4, l5] (.inl y :: .inl x :: S) σ Q = oE d 38 46 [l0, l1, l2, l3, l4, l5] (.inl (oAnd x y) :: S) σ Q := oS3 f_38_45 rfl rfl rfl
theorem f_38_46 : oFet 38 46 = some (.istore 4, 2) := by decide +kernel
theorem s_38_46 {d : Nat} {l0 l1 l2 l3 l4 l5 : oV} {x : Int} {S : List oV} {σ : oSg} {Q : Option oV → (Nat → oC) → Prop} (c4 : oCat l4 = 1) (c3 : oCat l3 = 1)  : oE d 38 46 [l0, l1, l2, l3, l4, l5] (.inl x :: S) σ Q = oE d 38 48 [l0, l1, l2, l3, .inl x, l5] S σ Q := pSt (i := 4) f_38_46 rfl rfl (show (4 : Nat) < 6 by decide) (oC1n c3) (oC1n c4) rfl
theorem f_38_48 : oFet 38 48 = some (.aload_n 0, 1) := by decide +kernel
theorem s_38_48 {d : Nat} {l1 l2 l3 l4 l5 : oV} {a : Nat} {S : List oV} {σ : oSg} {Q : Option oV → (Nat → oC) → Prop} : oE d 38 48 [.inr (.inr (.inl a)), l1, l2, l3, l4, l5] S σ Q = oE d 38 49 [.inr (.inr (.inl a)), l1, l2, l3, l4, l5] (.inr (.inr (.inl a)) :: S) σ Q := pLdN (k := 0) f_38_48 rfl rfl rfl
theorem f_38_49 : oFet 38 49 = some (.aload_n 1, 1) := by decide +kernel
theorem s_38_49 {d : Nat} {l0 l2 l3 l4 l5 : oV} {a : Nat} {S : List oV} {σ : oSg} {Q : Option oV → (Nat → oC) → Prop} : oE d 38 49 [l0, .inr (.inr (.inl a)), l2, l3, l4, l5] S σ Q = oE d 38 50 [l0, .inr (.inr (.inl a)), l2, l3, l4, l5] (.inr (.inr (.inl a)) :: S) σ Q := pLdN (k := 1) f_38_49 rfl rfl rfl
theorem f_38_50 : oFet 38 50 = some (.iload_n 3, 1) := by decide +kernel
theorem s_38_50 {d : Nat} {l0 l1 l2 l4 l5 : oV} {x : Int} {S : List oV} {σ : oSg} {Q : Option oV → (Nat → oC) → Prop} : oE d 38 50 [l0, l1, l2, .inl x, l4, l5] S σ Q = oE d 38 51 [l0, l1, l2, .inl x, l4, l5] (.inl x :: S) σ Q := pLdN (k := 3) f_38_50 rfl rfl rfl
theorem f_38_51 : oFet 38 51 = some (.iload 4, 2) := by decide +kernel
theorem s_38_51 {d : Nat} {l0 l1 l2 l3 l5 : oV} {x : Int} {S : List oV} {σ : oSg} {Q : Option oV → (Nat → oC) → Prop} : oE d 38 51 [l0, l1, l2, l3, .inl x, l5] S σ Q = oE d 38 53 [l0, l1, l2, l3, .inl x, l5] (.inl x :: S) σ Q := pLd (i := 4) f_38_51 rfl rfl rfl
theorem f_38_53 : oFet 38 53 = some (.aload_n 0, 1) := by decide +kernel
theorem s_38_53 {d : Nat} {l1 l2 l3 l4 l5 : oV} {a : Nat} {S : List oV} {σ : oSg} {Q : Option oV → (Nat → oC) → Prop} : oE d 38 53 [.inr (.inr (.inl a)), l1, l2, l3, l4, l5] S σ Q = oE d 38 54 [.inr (.inr (.inl a)), l1, l2, l3, l4, l5] (.inr (.inr (.inl a)) :: S) σ Q := pLdN (k := 0) f_38_53 rfl rfl rfl
theorem f_38_54 : oFet 38 54 = some (.iload_n 2, 1) := by decide +kernel
theorem s_38_54 {d : Nat} {l0 l1 l3 l4 l5 : oV} {x : Int} {S : List oV} {σ : oSg} {Q : Option oV → (Nat → oC) → Prop} : oE d 38 54 [l0, l1, .inl x, l3, l4, l5] S σ Q = oE d 38 55 [l0, l1, .inl x, l3, l4, l5] (.inl x :: S) σ Q := pLdN (k := 2) f_38_54 rfl rfl rfl
theorem f_38_55 : oFet 38 55 = some (.invokevirtual 47, 3) := by decide +kernel
theorem c_38_55 {d : Nat} {l0 l1 l2 l3 l4 l5 : oV} {x0 : oV} {a : Nat} {v : Option oV} {τ : oSg} {S : List oV} {σ : oSg} {Q : Option oV → (Nat → oC) → Prop} (hm : oMi d 36 [.inr (.inr (.inl a)), x0] σ v τ) (hk : oKd a = some 3) (hs : oSmall S = true) : oE d 38 55 [l0, l1, l2, l3, l4, l5] (x0 :: .inr (.inr (.inl a)) :: S) σ Q = oE d 38 58 [l0, l1, l2, l3, l4, l5] (v.toList ++ S) τ Q := pCallV f_38_55 ow_38 lk_3_47 mt_36 rfl rfl rfl hk hs hm
theorem f_38_58 : oFet 38 58 = some (.invokevirtual 78, 3) := by decide +kernel
theorem c_38_58 {d : Nat} {l0 l1 l2 l3 l4 l5 : oV} {x0 x1 x2 x3 : oV} {a : Nat} {v : Option oV} {τ : oSg} {S : List oV} {σ : oSg} {Q : Option oV → (Nat → oC) → Prop} (hm : oMi d 39 [.inr (.inr (.inl a)), x0, x1, x2, x3] σ v τ) (hk : oKd a = some 3) (hs : oSmall S = true) : oE d 38 58 [l0, l1, l2, l3, l4, l5] (x3 :: x2 :: x1 :: x0 :: .inr (.inr (.inl a)) :: S) σ Q = oE d 38 61 [l0, l1, l2, l3, l4, l5] (v.toList ++ S) τ Q := pCallV f_38_58 ow_38 lk_3_78 mt_39 rfl rfl rfl hk hs hm
theorem f_38_61 : oFet 38 61 = some (.istore 5, 2) := by decide +kernel
theorem s_38_61 {d : Nat} {l0 l1 l2 l3 l4 l5 : oV} {x : Int} {S : List oV} {σ : oSg} {Q : Option oV → (Nat → oC) → Prop} (c5 : oCat l5 = 1) (c4 : oCat l4 = 1)  : oE d 38 61 [l0, l1, l2, l3, l4, l5] (.inl x :: S) σ Q = oE d 38 63 [l0, l1, l2, l3, l4, .inl x] S σ Q := pSt (i := 5) f_38_61 rfl rfl (show (5 : Nat) < 6 by decide) (oC1n c4) (oC1n c5) rfl
theorem f_38_63 : oFet 38 63 = some (.iload 5, 2) := by decide +kernel
theorem s_38_63 {d : Nat} {l0 l1 l2 l3 l4 : oV} {x : Int} {S : List oV} {σ : oSg} {Q : Option oV → (Nat → oC) → Prop} : oE d 38 63 [l0, l1, l2, l3, l4, .inl x] S σ Q = oE d 38 65 [l0, l1, l2, l3, l4, .inl x] (.inl x :: S) σ Q := pLd (i := 5) f_38_63 rfl rfl rfl
theorem f_38_65 : oFet 38 65 = some (.ifCond .ge 8, 3) := by decide +kernel
theorem s_38_65 {d : Nat} {l0 l1 l2 l3 l4 l5 : oV} {x : Int} {S : List oV} {σ : oSg} {Q : Option oV → (Nat → oC) → Prop} : oE d 38 65 [l0, l1, l2, l3, l4, l5] (.inl x :: S) σ Q = if 0 ≤ x then oE d 38 73 [l0, l1, l2, l3, l4, l5] S σ Q else oE d 38 68 [l0, l1, l2, l3, l4, l5] S σ Q := oIfGe f_38_65 (by decide)
theorem f_38_68 : oFet 38 68 = some (.iload 4, 2) := by decide +kernel
theorem s_38_68 {d : Nat} {l0 l1 l2 l3 l5 : oV} {x : Int} {S : List oV} {σ : oSg} {Q : Option oV → (Nat → oC) → Prop} : oE d 38 68 [l0, l1, l2, l3, .inl x, l5] S σ Q = oE d 38 70 [l0, l1, l2, l3, .inl x, l5] (.inl x :: S) σ Q := pLd (i := 4) f_38_68 rfl rfl rfl
theorem f_38_70 : oFet 38 70 = some (.goto 12, 3) := by decide +kernel
theorem s_38_70 {d : Nat} {l0 l1 l2 l3 l4 l5 : oV} {S : List oV} {σ : oSg} {Q : Option oV → (Nat → oC) → Prop} : oE d 38 70 [l0, l1, l2, l3, l4, l5] S σ Q = oE d 38 82 [l0, l1, l2, l3, l4, l5] S σ Q := pGoto f_38_70 (by decide)
theorem f_38_73 : oFet 38 73 = some (.iload 4, 2) := by decide +kernel
theorem s_38_73 {d : Nat} {l0 l1 l2 l3 l5 : oV} {x : Int} {S : List oV} {σ : oSg} {Q : Option oV → (Nat → oC) → Prop} : oE d 38 73 [l0, l1, l2, l3, .inl x, l5] S σ Q = oE d 38 75 [l0, l1, l2, l3, .inl x, l5] (.inl x :: S) σ Q := pLd (i := 4) f_38_73 rfl rfl rfl
theorem f_38_75 : oFet 38 75 = some (.iconst 1, 1) := by decide +kernel
theorem s_38_75 {d : Nat} {l0 l1 l2 l3 l4 l5 : oV} {S : List oV} {σ : oSg} {Q : Option oV → (Nat → oC) → Prop} : oE d 38 75 [l0, l1, l2, l3, l4, l5] S σ Q = oE d 38 76 [l0, l1, l2, l3, l4, l5] (.inl (1) :: S) σ Q := pKst f_38_75 (by decide)
theorem f_38_76 : oFet 38 76 = some (.iload 5, 2) := by decide +kernel
theorem s_38_76 {d : Nat} {l0 l1 l2 l3 l4 : oV} {x : Int} {S : List oV} {σ : oSg} {Q : Option oV → (Nat → oC) → Prop} : oE d 38 76 [l0, l1, l2, l3, l4, .inl x] S σ Q = oE d 38 78 [l0, l1, l2, l3, l4, .inl x] (.inl x :: S) σ Q := pLd (i := 5) f_38_76 rfl rfl rfl
theorem f_38_78 : oFet 38 78 = some (.ishl, 1) := by decide +kernel
theorem s_38_78 {d : Nat} {l0 l1 l2 l3 l4 l5 : oV} {x y : Int} {S : List oV} {σ : oSg} {Q : Option oV → (Nat → oC) → Prop} : oE d 38 78 [l0, l1, l2, l3, l4, l5] (.inl y :: .inl x :: S) σ Q = oE d 38 79 [l0, l1, l2, l3, l4, l5] (.inl (oShl x y) :: S) σ Q := oS3 f_38_78 rfl rfl rfl
theorem f_38_79 : oFet 38 79 = some (.iconst (-1), 1) := by decide +kernel
theorem s_38_79 {d : Nat} {l0 l1 l2 l3 l4 l5 : oV} {S : List oV} {σ : oSg} {Q : Option oV → (Nat → oC) → Prop} : oE d 38 79 [l0, l1, l2, l3, l4, l5] S σ Q = oE d 38 80 [l0, l1, l2, l3, l4, l5] (.inl (-1) :: S) σ Q := pKst f_38_79 (by decide)
theorem f_38_80 : oFet 38 80 = some (.ixor, 1) := by decide +kernel
theorem s_38_80 {d : Nat} {l0 l1 l2 l3 l4 l5 : oV} {x y : Int} {S : List oV} {σ : oSg} {Q : Option oV → (Nat → oC) → Prop} : oE d 38 80 [l0, l1, l2, l3, l4, l5] (.inl y :: .inl x :: S) σ Q = oE d 38 81 [l0, l1, l2, l3, l4, l5] (.inl (oXor x y) :: S) σ Q := oS3 f_38_80 rfl rfl rfl
theorem f_38_81 : oFet 38 81 = some (.iand, 1) := by decide +kernel
theorem s_38_81 {d : Nat} {l0 l1 l2 l3 l4 l5 : oV} {x y : Int} {S : List oV} {σ : oSg} {Q : Option oV → (Nat → oC) → Prop} : oE d 38 81 [l0, l1, l2, l3, l4, l5] (.inl y :: .inl x :: S) σ Q = oE d 38 82 [l0, l1, l2, l3, l4, l5] (.inl (oAnd x y) :: S) σ Q := oS3 f_38_81 rfl rfl rfl
theorem f_38_82 : oFet 38 82 = some (.istore_n 2, 1) := by decide +kernel
theorem s_38_82 {d : Nat} {l0 l1 l2 l3 l4 l5 : oV} {x : Int} {S : List oV} {σ : oSg} {Q : Option oV → (Nat → oC) → Prop} (c2 : oCat l2 = 1) (c1 : oCat l1 = 1)  : oE d 38 82 [l0, l1, l2, l3, l4, l5] (.inl x :: S) σ Q = oE d 38 83 [l0, l1, .inl x, l3, l4, l5] S σ Q := pSt (i := 2) f_38_82 rfl rfl (show (2 : Nat) < 6 by decide) (oC1n c1) (oC1n c2) rfl
theorem f_38_83 : oFet 38 83 = some (.iload 5, 2) := by decide +kernel
theorem s_38_83 {d : Nat} {l0 l1 l2 l3 l4 : oV} {x : Int} {S : List oV} {σ : oSg} {Q : Option oV → (Nat → oC) → Prop} : oE d 38 83 [l0, l1, l2, l3, l4, .inl x] S σ Q = oE d 38 85 [l0, l1, l2, l3, l4, .inl x] (.inl x :: S) σ Q := pLd (i := 5) f_38_83 rfl rfl rfl
theorem f_38_85 : oFet 38 85 = some (.ifCond .lt 52, 3) := by decide +kernel
theorem s_38_85 {d : Nat} {l0 l1 l2 l3 l4 l5 : oV} {x : Int} {S : List oV} {σ : oSg} {Q : Option oV → (Nat → oC) → Prop} : oE d 38 85 [l0, l1, l2, l3, l4, l5] (.inl x :: S) σ Q = if x < 0 then oE d 38 137 [l0, l1, l2, l3, l4, l5] S σ Q else oE d 38 88 [l0, l1, l2, l3, l4, l5] S σ Q := oIfLt f_38_85 (by decide)
theorem f_38_88 : oFet 38 88 = some (.iload 5, 2) := by decide +kernel
theorem s_38_88 {d : Nat} {l0 l1 l2 l3 l4 : oV} {x : Int} {S : List oV} {σ : oSg} {Q : Option oV → (Nat → oC) → Prop} : oE d 38 88 [l0, l1, l2, l3, l4, .inl x] S σ Q = oE d 38 90 [l0, l1, l2, l3, l4, .inl x] (.inl x :: S) σ Q := pLd (i := 5) f_38_88 rfl rfl rfl
theorem f_38_90 : oFet 38 90 = some (.bipush 7, 2) := by decide +kernel
theorem s_38_90 {d : Nat} {l0 l1 l2 l3 l4 l5 : oV} {S : List oV} {σ : oSg} {Q : Option oV → (Nat → oC) → Prop} : oE d 38 90 [l0, l1, l2, l3, l4, l5] S σ Q = oE d 38 92 [l0, l1, l2, l3, l4, l5] (.inl (7) :: S) σ Q := pBip f_38_90 (by decide)
theorem f_38_92 : oFet 38 92 = some (.if_icmp .ge 45, 3) := by decide +kernel
theorem s_38_92 {d : Nat} {l0 l1 l2 l3 l4 l5 : oV} {x y : Int} {S : List oV} {σ : oSg} {Q : Option oV → (Nat → oC) → Prop} : oE d 38 92 [l0, l1, l2, l3, l4, l5] (.inl y :: .inl x :: S) σ Q = if y ≤ x then oE d 38 137 [l0, l1, l2, l3, l4, l5] S σ Q else oE d 38 95 [l0, l1, l2, l3, l4, l5] S σ Q := oCmpGe f_38_92 (by decide)
theorem f_38_95 : oFet 38 95 = some (.aload_n 0, 1) := by decide +kernel
theorem s_38_95 {d : Nat} {l1 l2 l3 l4 l5 : oV} {a : Nat} {S : List oV} {σ : oSg} {Q : Option oV → (Nat → oC) → Prop} : oE d 38 95 [.inr (.inr (.inl a)), l1, l2, l3, l4, l5] S σ Q = oE d 38 96 [.inr (.inr (.inl a)), l1, l2, l3, l4, l5] (.inr (.inr (.inl a)) :: S) σ Q := pLdN (k := 0) f_38_95 rfl rfl rfl
theorem f_38_96 : oFet 38 96 = some (.getfield 9, 3) := by decide +kernel
theorem s_38_96 {d : Nat} {l0 l1 l2 l3 l4 l5 : oV} {a : Nat} {S : List oV} {σ : oSg} {Q : Option oV → (Nat → oC) → Prop} (hk : oKd a = some 3) : oE d 38 96 [l0, l1, l2, l3, l4, l5] (.inr (.inr (.inl a)) :: S) σ Q = oE d 38 99 [l0, l1, l2, l3, l4, l5] (.inr (.inr (.inl (oRf a 3))) :: S) σ Q := pGfR f_38_96 ow_38 fl_3_9 rfl (by decide) hk
theorem f_38_99 : oFet 38 99 = some (.iload_n 3, 1) := by decide +kernel
theorem s_38_99 {d : Nat} {l0 l1 l2 l4 l5 : oV} {x : Int} {S : List oV} {σ : oSg} {Q : Option oV → (Nat → oC) → Prop} : oE d 38 99 [l0, l1, l2, .inl x, l4, l5] S σ Q = oE d 38 100 [l0, l1, l2, .inl x, l4, l5] (.inl x :: S) σ Q := pLdN (k := 3) f_38_99 rfl rfl rfl
theorem f_38_100 : oFet 38 100 = some (.iload 5, 2) := by decide +kernel
theorem s_38_100 {d : Nat} {l0 l1 l2 l3 l4 : oV} {x : Int} {S : List oV} {σ : oSg} {Q : Option oV → (Nat → oC) → Prop} : oE d 38 100 [l0, l1, l2, l3, l4, .inl x] S σ Q = oE d 38 102 [l0, l1, l2, l3, l4, .inl x] (.inl x :: S) σ Q := pLd (i := 5) f_38_100 rfl rfl rfl
theorem f_38_102 : oFet 38 102 = some (.iastore, 1) := by decide +kernel
theorem s_38_102 {d : Nat} {l0 l1 l2 l3 l4 l5 : oV} {a : Nat} {i v : Int} {S : List oV} {σ : oSg} {Q : Option oV → (Nat → oC) → Prop} (hk : oAk a = some 0) (h0 : 0 ≤ i) (h1 : i < (oLn a : Int)) : oE d 38 102 [l0, l1, l2, l3, l4, l5] (.inl v :: .inl i :: .inr (.inr (.inl a)) :: S) σ Q = oE d 38 103 [l0, l1, l2, l3, l4, l5] S (oSA σ a i.toNat v) Q := oIas f_38_102 hk h0 h1
theorem f_38_103 : oFet 38 103 = some (.aload_n 0, 1) := by decide +kernel
theorem s_38_103 {d : Nat} {l1 l2 l3 l4 l5 : oV} {a : Nat} {S : List oV} {σ : oSg} {Q : Option oV → (Nat → oC) → Prop} : oE d 38 103 [.inr (.inr (.inl a)), l1, l2, l3, l4, l5] S σ Q = oE d 38 104 [.inr (.inr (.inl a)), l1, l2, l3, l4, l5] (.inr (.inr (.inl a)) :: S) σ Q := pLdN (k := 0) f_38_103 rfl rfl rfl
theorem f_38_104 : oFet 38 104 = some (.getfield 9, 3) := by decide +kernel
theorem s_38_104 {d : Nat} {l0 l1 l2 l3 l4 l5 : oV} {a : Nat} {S : List oV} {σ : oSg} {Q : Option oV → (Nat → oC) → Prop} (hk : oKd a = some 3) : oE d 38 104 [l0, l1, l2, l3, l4, l5] (.inr (.inr (.inl a)) :: S) σ Q = oE d 38 107 [l0, l1, l2, l3, l4, l5] (.inr (.inr (.inl (oRf a 3))) :: S) σ Q := pGfR f_38_104 ow_38 fl_3_9 rfl (by decide) hk
theorem f_38_107 : oFet 38 107 = some (.iload 5, 2) := by decide +kernel
theorem s_38_107 {d : Nat} {l0 l1 l2 l3 l4 : oV} {x : Int} {S : List oV} {σ : oSg} {Q : Option oV → (Nat → oC) → Prop} : oE d 38 107 [l0, l1, l2, l3, l4, .inl x] S σ Q = oE d 38 109 [l0, l1, l2, l3, l4, .inl x] (.inl x :: S) σ Q := pLd (i := 5) f_38_107 rfl rfl rfl
theorem f_38_109 : oFet 38 109 = some (.iload_n 3, 1) := by decide +kernel
theorem s_38_109 {d : Nat} {l0 l1 l2 l4 l5 : oV} {x : Int} {S : List oV} {σ : oSg} {Q : Option oV → (Nat → oC) → Prop} : oE d 38 109 [l0, l1, l2, .inl x, l4, l5] S σ Q = oE d 38 110 [l0, l1, l2, .inl x, l4, l5] (.inl x :: S) σ Q := pLdN (k := 3) f_38_109 rfl rfl rfl
theorem f_38_110 : oFet 38 110 = some (.iastore, 1) := by decide +kernel
theorem s_38_110 {d : Nat} {l0 l1 l2 l3 l4 l5 : oV} {a : Nat} {i v : Int} {S : List oV} {σ : oSg} {Q : Option oV → (Nat → oC) → Prop} (hk : oAk a = some 0) (h0 : 0 ≤ i) (h1 : i < (oLn a : Int)) : oE d 38 110 [l0, l1, l2, l3, l4, l5] (.inl v :: .inl i :: .inr (.inr (.inl a)) :: S) σ Q = oE d 38 111 [l0, l1, l2, l3, l4, l5] S (oSA σ a i.toNat v) Q := oIas f_38_110 hk h0 h1
theorem f_38_111 : oFet 38 111 = some (.aload_n 0, 1) := by decide +kernel
theorem s_38_111 {d : Nat} {l1 l2 l3 l4 l5 : oV} {a : Nat} {S : List oV} {σ : oSg} {Q : Option oV → (Nat → oC) → Prop} : oE d 38 111 [.inr (.inr (.inl a)), l1, l2, l3, l4, l5] S σ Q = oE d 38 112 [.inr (.inr (.inl a)), l1, l2, l3, l4, l5] (.inr (.inr (.inl a)) :: S) σ Q := pLdN (k := 0) f_38_111 rfl rfl rfl
theorem f_38_112 : oFet 38 112 = some (.dup, 1) := by decide +kernel
theorem s_38_112 {d : Nat} {l0 l1 l2 l3 l4 l5 : oV} {a : Nat} {S : List oV} {σ : oSg} {Q : Option oV → (Nat → oC) → Prop} : oE d 38 112 [l0, l1, l2, l3, l4, l5] (.inr (.inr (.inl a)) :: S) σ Q = oE d 38 113 [l0, l1, l2, l3, l4, l5] (.inr (.inr (.inl a)) :: .inr (.inr (.inl a)) :: S) σ Q := pDupR f_38_112
theorem s_38_112_i {d : Nat} {l0 l1 l2 l3 l4 l5 : oV} {x : Int} {S : List oV} {σ : oSg} {Q : Option oV → (Nat → oC) → Prop} : oE d 38 112 [l0, l1, l2, l3, l4, l5] (.inl x :: S) σ Q = oE d 38 113 [l0, l1, l2, l3, l4, l5] (.inl x :: .inl x :: S) σ Q := pDupI f_38_112
theorem f_38_113 : oFet 38 113 = some (.getfield 75, 3) := by decide +kernel
theorem s_38_113 {d : Nat} {l0 l1 l2 l3 l4 l5 : oV} {a : Nat} {S : List oV} {σ : oSg} {Q : Option oV → (Nat → oC) → Prop} (hk : oKd a = some 3) : oE d 38 113 [l0, l1, l2, l3, l4, l5] (.inr (.inr (.inl a)) :: S) σ Q = oE d 38 116 [l0, l1, l2, l3, l4, l5] (.inl (σ.1 a 1) :: S) σ Q := pGfI f_38_113 ow_38 fl_3_75 rfl (by decide) hk
theorem f_38_116 : oFet 38 116 = some (.iconst 1, 1) := by decide +kernel
theorem s_38_116 {d : Nat} {l0 l1 l2 l3 l4 l5 : oV} {S : List oV} {σ : oSg} {Q : Option oV → (Nat → oC) → Prop} : oE d 38 116 [l0, l1, l2, l3, l4, l5] S σ Q = oE d 38 117 [l0, l1, l2, l3, l4, l5] (.inl (1) :: S) σ Q := pKst f_38_116 (by decide)
theorem f_38_117 : oFet 38 117 = some (.iadd, 1) := by decide +kernel
theorem s_38_117 {d : Nat} {l0 l1 l2 l3 l4 l5 : oV} {x y : Int} {S : List oV} {σ : oSg} {Q : Option oV → (Nat → oC) → Prop} : oE d 38 117 [l0, l1, l2, l3, l4, l5] (.inl y :: .inl x :: S) σ Q = oE d 38 118 [l0, l1, l2, l3, l4, l5] (.inl (oAdd x y) :: S) σ Q := oS3 f_38_117 rfl rfl rfl
theorem f_38_118 : oFet 38 118 = some (.putfield 75, 3) := by decide +kernel
theorem s_38_118 {d : Nat} {l0 l1 l2 l3 l4 l5 : oV} {a : Nat} {v : Int} {S : List oV} {σ : oSg} {Q : Option oV → (Nat → oC) → Prop} (hk : oKd a = some 3) : oE d 38 118 [l0, l1, l2, l3, l4, l5] (.inl v :: .inr (.inr (.inl a)) :: S) σ Q = oE d 38 121 [l0, l1, l2, l3, l4, l5] S (oSF σ a 1 v) Q := pPfI f_38_118 ow_38 fl_3_75 rfl (by decide) rfl rfl hk
theorem f_38_121 : oFet 38 121 = some (.aload_n 0, 1) := by decide +kernel
theorem s_38_121 {d : Nat} {l1 l2 l3 l4 l5 : oV} {a : Nat} {S : List oV} {σ : oSg} {Q : Option oV → (Nat → oC) → Prop} : oE d 38 121 [.inr (.inr (.inl a)), l1, l2, l3, l4, l5] S σ Q = oE d 38 122 [.inr (.inr (.inl a)), l1, l2, l3, l4, l5] (.inr (.inr (.inl a)) :: S) σ Q := pLdN (k := 0) f_38_121 rfl rfl rfl
theorem f_38_122 : oFet 38 122 = some (.dup, 1) := by decide +kernel
theorem s_38_122 {d : Nat} {l0 l1 l2 l3 l4 l5 : oV} {a : Nat} {S : List oV} {σ : oSg} {Q : Option oV → (Nat → oC) → Prop} : oE d 38 122 [l0, l1, l2, l3, l4, l5] (.inr (.inr (.inl a)) :: S) σ Q = oE d 38 123 [l0, l1, l2, l3, l4, l5] (.inr (.inr (.inl a)) :: .inr (.inr (.inl a)) :: S) σ Q := pDupR f_38_122
theorem s_38_122_i {d : Nat} {l0 l1 l2 l3 l4 l5 : oV} {x : Int} {S : List oV} {σ : oSg} {Q : Option oV → (Nat → oC) → Prop} : oE d 38 122 [l0, l1, l2, l3, l4, l5] (.inl x :: S) σ Q = oE d 38 123 [l0, l1, l2, l3, l4, l5] (.inl x :: .inl x :: S) σ Q := pDupI f_38_122
theorem f_38_123 : oFet 38 123 = some (.getfield 72, 3) := by decide +kernel
theorem s_38_123 {d : Nat} {l0 l1 l2 l3 l4 l5 : oV} {a : Nat} {S : List oV} {σ : oSg} {Q : Option oV → (Nat → oC) → Prop} (hk : oKd a = some 3) : oE d 38 123 [l0, l1, l2, l3, l4, l5] (.inr (.inr (.inl a)) :: S) σ Q = oE d 38 126 [l0, l1, l2, l3, l4, l5] (.inl (σ.1 a 0) :: S) σ Q := pGfI f_38_123 ow_38 fl_3_72 rfl (by decide) hk
theorem f_38_126 : oFet 38 126 = some (.aload_n 1, 1) := by decide +kernel
theorem s_38_126 {d : Nat} {l0 l2 l3 l4 l5 : oV} {a : Nat} {S : List oV} {σ : oSg} {Q : Option oV → (Nat → oC) → Prop} : oE d 38 126 [l0, .inr (.inr (.inl a)), l2, l3, l4, l5] S σ Q = oE d 38 127 [l0, .inr (.inr (.inl a)), l2, l3, l4, l5] (.inr (.inr (.inl a)) :: S) σ Q := pLdN (k := 1) f_38_126 rfl rfl rfl
theorem f_38_127 : oFet 38 127 = some (.iload_n 3, 1) := by decide +kernel
theorem s_38_127 {d : Nat} {l0 l1 l2 l4 l5 : oV} {x : Int} {S : List oV} {σ : oSg} {Q : Option oV → (Nat → oC) → Prop} : oE d 38 127 [l0, l1, l2, .inl x, l4, l5] S σ Q = oE d 38 128 [l0, l1, l2, .inl x, l4, l5] (.inl x :: S) σ Q := pLdN (k := 3) f_38_127 rfl rfl rfl
theorem f_38_128 : oFet 38 128 = some (.iload 5, 2) := by decide +kernel
theorem s_38_128 {d : Nat} {l0 l1 l2 l3 l4 : oV} {x : Int} {S : List oV} {σ : oSg} {Q : Option oV → (Nat → oC) → Prop} : oE d 38 128 [l0, l1, l2, l3, l4, .inl x] S σ Q = oE d 38 130 [l0, l1, l2, l3, l4, .inl x] (.inl x :: S) σ Q := pLd (i := 5) f_38_128 rfl rfl rfl
theorem f_38_130 : oFet 38 130 = some (.invokevirtual 63, 3) := by decide +kernel
theorem c_38_130 {d : Nat} {l0 l1 l2 l3 l4 l5 : oV} {x0 x1 : oV} {a : Nat} {v : Option oV} {τ : oSg} {S : List oV} {σ : oSg} {Q : Option oV → (Nat → oC) → Prop} (hm : oMi d 16 [.inr (.inr (.inl a)), x0, x1] σ v τ) (hk : oKd a = some 4) (hs : oSmall S = true) : oE d 38 130 [l0, l1, l2, l3, l4, l5] (x1 :: x0 :: .inr (.inr (.inl a)) :: S) σ Q = oE d 38 133 [l0, l1, l2, l3, l4, l5] (v.toList ++ S) τ Q := pCallV f_38_130 ow_38 lk_3_63 mt_16 rfl rfl rfl hk hs hm
theorem f_38_133 : oFet 38 133 = some (.iadd, 1) := by decide +kernel
theorem s_38_133 {d : Nat} {l0 l1 l2 l3 l4 l5 : oV} {x y : Int} {S : List oV} {σ : oSg} {Q : Option oV → (Nat → oC) → Prop} : oE d 38 133 [l0, l1, l2, l3, l4, l5] (.inl y :: .inl x :: S) σ Q = oE d 38 134 [l0, l1, l2, l3, l4, l5] (.inl (oAdd x y) :: S) σ Q := oS3 f_38_133 rfl rfl rfl
theorem f_38_134 : oFet 38 134 = some (.putfield 72, 3) := by decide +kernel
theorem s_38_134 {d : Nat} {l0 l1 l2 l3 l4 l5 : oV} {a : Nat} {v : Int} {S : List oV} {σ : oSg} {Q : Option oV → (Nat → oC) → Prop} (hk : oKd a = some 3) : oE d 38 134 [l0, l1, l2, l3, l4, l5] (.inl v :: .inr (.inr (.inl a)) :: S) σ Q = oE d 38 137 [l0, l1, l2, l3, l4, l5] S (oSF σ a 0 v) Q := pPfI f_38_134 ow_38 fl_3_72 rfl (by decide) rfl rfl hk
theorem f_38_137 : oFet 38 137 = some (.iinc 3 1, 3) := by decide +kernel
theorem s_38_137 {d : Nat} {l0 l1 l2 l4 l5 : oV} {x : Int} {S : List oV} {σ : oSg} {Q : Option oV → (Nat → oC) → Prop} (c2 : oCat l2 = 1)  : oE d 38 137 [l0, l1, l2, .inl x, l4, l5] S σ Q = oE d 38 140 [l0, l1, l2, .inl (oAdd x (1)), l4, l5] S σ Q := pInc f_38_137 rfl (show (3 : Nat) < 6 by decide) (oC1n c2) (oC1n (v := .inl x) rfl) rfl
theorem f_38_140 : oFet 38 140 = some (.goto (-115), 3) := by decide +kernel
theorem s_38_140 {d : Nat} {l0 l1 l2 l3 l4 l5 : oV} {S : List oV} {σ : oSg} {Q : Option oV → (Nat → oC) → Prop} : oE d 38 140 [l0, l1, l2, l3, l4, l5] S σ Q = oE d 38 25 [l0, l1, l2, l3, l4, l5] S σ Q := pGoto f_38_140 (by decide)
theorem f_38_143 : oFet 38 143 = some (.return_, 1) := by decide +kernel
theorem s_38_143 {d : Nat} {l0 l1 l2 l3 l4 l5 : oV} {σ : oSg} {Q : Option oV → (Nat → oC) → Prop} : oE d 38 143 [l0, l1, l2, l3, l4, l5] [] σ Q = Q none (oBld σ) := oVret f_38_143 rt_38
theorem ow_39 : (oMt 39).2.2.2.2.1 = 3 := by decide +kernel
theorem rt_39 : (oMt 39).2.2.2.1 = some .int := by decide +kernel
theorem nl_39 : (oMt 39).2.2.1 = 6 := by decide +kernel
theorem f_39_0 : oFet 39 0 = some (.iload_n 2, 1) := by decide +kernel
theorem s_39_0 {d : Nat} {l0 l1 l3 l4 l5 : oV} {x : Int} {S : List oV} {σ : oSg} {Q : Option oV → (Nat → oC) → Prop} : oE d 39 0 [l0, l1, .inl x, l3, l4, l5] S σ Q = oE d 39 1 [l0, l1, .inl x, l3, l4, l5] (.inl x :: S) σ Q := pLdN (k := 2) f_39_0 rfl rfl rfl
theorem f_39_1 : oFet 39 1 = some (.iconst 1, 1) := by decide +kernel
theorem s_39_1 {d : Nat} {l0 l1 l2 l3 l4 l5 : oV} {S : List oV} {σ : oSg} {Q : Option oV → (Nat → oC) → Prop} : oE d 39 1 [l0, l1, l2, l3, l4, l5] S σ Q = oE d 39 2 [l0, l1, l2, l3, l4, l5] (.inl (1) :: S) σ Q := pKst f_39_1 (by decide)
theorem f_39_2 : oFet 39 2 = some (.iadd, 1) := by decide +kernel
theorem s_39_2 {d : Nat} {l0 l1 l2 l3 l4 l5 : oV} {x y : Int} {S : List oV} {σ : oSg} {Q : Option oV → (Nat → oC) → Prop} : oE d 39 2 [l0, l1, l2, l3, l4, l5] (.inl y :: .inl x :: S) σ Q = oE d 39 3 [l0, l1, l2, l3, l4, l5] (.inl (oAdd x y) :: S) σ Q := oS3 f_39_2 rfl rfl rfl
theorem f_39_3 : oFet 39 3 = some (.istore 5, 2) := by decide +kernel
theorem s_39_3 {d : Nat} {l0 l1 l2 l3 l4 l5 : oV} {x : Int} {S : List oV} {σ : oSg} {Q : Option oV → (Nat → oC) → Prop} (c5 : oCat l5 = 1) (c4 : oCat l4 = 1)  : oE d 39 3 [l0, l1, l2, l3, l4, l5] (.inl x :: S) σ Q = oE d 39 5 [l0, l1, l2, l3, l4, .inl x] S σ Q := pSt (i := 5) f_39_3 rfl rfl (show (5 : Nat) < 6 by decide) (oC1n c4) (oC1n c5) rfl
theorem f_39_5 : oFet 39 5 = some (.iload 5, 2) := by decide +kernel
theorem s_39_5 {d : Nat} {l0 l1 l2 l3 l4 : oV} {x : Int} {S : List oV} {σ : oSg} {Q : Option oV → (Nat → oC) → Prop} : oE d 39 5 [l0, l1, l2, l3, l4, .inl x] S σ Q = oE d 39 7 [l0, l1, l2, l3, l4, .inl x] (.inl x :: S) σ Q := pLd (i := 5) f_39_5 rfl rfl rfl
theorem f_39_7 : oFet 39 7 = some (.bipush 7, 2) := by decide +kernel
theorem s_39_7 {d : Nat} {l0 l1 l2 l3 l4 l5 : oV} {S : List oV} {σ : oSg} {Q : Option oV → (Nat → oC) → Prop} : oE d 39 7 [l0, l1, l2, l3, l4, l5] S σ Q = oE d 39 9 [l0, l1, l2, l3, l4, l5] (.inl (7) :: S) σ Q := pBip f_39_7 (by decide)
theorem f_39_9 : oFet 39 9 = some (.if_icmp .ge 45, 3) := by decide +kernel
theorem s_39_9 {d : Nat} {l0 l1 l2 l3 l4 l5 : oV} {x y : Int} {S : List oV} {σ : oSg} {Q : Option oV → (Nat → oC) → Prop} : oE d 39 9 [l0, l1, l2, l3, l4, l5] (.inl y :: .inl x :: S) σ Q = if y ≤ x then oE d 39 54 [l0, l1, l2, l3, l4, l5] S σ Q else oE d 39 12 [l0, l1, l2, l3, l4, l5] S σ Q := oCmpGe f_39_9 (by decide)
theorem f_39_12 : oFet 39 12 = some (.iload 5, 2) := by decide +kernel
theorem s_39_12 {d : Nat} {l0 l1 l2 l3 l4 : oV} {x : Int} {S : List oV} {σ : oSg} {Q : Option oV → (Nat → oC) → Prop} : oE d 39 12 [l0, l1, l2, l3, l4, .inl x] S σ Q = oE d 39 14 [l0, l1, l2, l3, l4, .inl x] (.inl x :: S) σ Q := pLd (i := 5) f_39_12 rfl rfl rfl
theorem f_39_14 : oFet 39 14 = some (.iload_n 3, 1) := by decide +kernel
theorem s_39_14 {d : Nat} {l0 l1 l2 l4 l5 : oV} {x : Int} {S : List oV} {σ : oSg} {Q : Option oV → (Nat → oC) → Prop} : oE d 39 14 [l0, l1, l2, .inl x, l4, l5] S σ Q = oE d 39 15 [l0, l1, l2, .inl x, l4, l5] (.inl x :: S) σ Q := pLdN (k := 3) f_39_14 rfl rfl rfl
theorem f_39_15 : oFet 39 15 = some (.invokestatic 50, 3) := by decide +kernel
theorem c_39_15 {d : Nat} {l0 l1 l2 l3 l4 l5 : oV} {x0 x1 : oV} {v : Option oV} {τ : oSg} {S : List oV} {σ : oSg} {Q : Option oV → (Nat → oC) → Prop} (hm : oMi d 28 [x0, x1] σ v τ) (hs : oSmall S = true) : oE d 39 15 [l0, l1, l2, l3, l4, l5] (x1 :: x0 :: S) σ Q = oE d 39 18 [l0, l1, l2, l3, l4, l5] (v.toList ++ S) τ Q := pCallS f_39_15 ow_39 lk_3_50 mt_28 rfl rfl rfl hs hm
theorem f_39_18 : oFet 39 18 = some (.ifCond .eq 30, 3) := by decide +kernel
theorem s_39_18 {d : Nat} {l0 l1 l2 l3 l4 l5 : oV} {x : Int} {S : List oV} {σ : oSg} {Q : Option oV → (Nat → oC) → Prop} : oE d 39 18 [l0, l1, l2, l3, l4, l5] (.inl x :: S) σ Q = if x = 0 then oE d 39 48 [l0, l1, l2, l3, l4, l5] S σ Q else oE d 39 21 [l0, l1, l2, l3, l4, l5] S σ Q := oIfEq f_39_18 (by decide)
theorem f_39_21 : oFet 39 21 = some (.aload_n 1, 1) := by decide +kernel
theorem s_39_21 {d : Nat} {l0 l2 l3 l4 l5 : oV} {a : Nat} {S : List oV} {σ : oSg} {Q : Option oV → (Nat → oC) → Prop} : oE d 39 21 [l0, .inr (.inr (.inl a)), l2, l3, l4, l5] S σ Q = oE d 39 22 [l0, .inr (.inr (.inl a)), l2, l3, l4, l5] (.inr (.inr (.inl a)) :: S) σ Q := pLdN (k := 1) f_39_21 rfl rfl rfl
theorem f_39_22 : oFet 39 22 = some (.iload_n 2, 1) := by decide +kernel
theorem s_39_22 {d : Nat} {l0 l1 l3 l4 l5 : oV} {x : Int} {S : List oV} {σ : oSg} {Q : Option oV → (Nat → oC) → Prop} : oE d 39 22 [l0, l1, .inl x, l3, l4, l5] S σ Q = oE d 39 23 [l0, l1, .inl x, l3, l4, l5] (.inl x :: S) σ Q := pLdN (k := 2) f_39_22 rfl rfl rfl
theorem f_39_23 : oFet 39 23 = some (.iload 5, 2) := by decide +kernel
theorem s_39_23 {d : Nat} {l0 l1 l2 l3 l4 : oV} {x : Int} {S : List oV} {σ : oSg} {Q : Option oV → (Nat → oC) → Prop} : oE d 39 23 [l0, l1, l2, l3, l4, .inl x] S σ Q = oE d 39 25 [l0, l1, l2, l3, l4, .inl x] (.inl x :: S) σ Q := pLd (i := 5) f_39_23 rfl rfl rfl
theorem f_39_25 : oFet 39 25 = some (.invokevirtual 81, 3) := by decide +kernel
theorem c_39_25 {d : Nat} {l0 l1 l2 l3 l4 l5 : oV} {x0 x1 : oV} {a : Nat} {v : Option oV} {τ : oSg} {S : List oV} {σ : oSg} {Q : Option oV → (Nat → oC) → Prop} (hm : oMi d 22 [.inr (.inr (.inl a)), x0, x1] σ v τ) (hk : oKd a = some 4) (hs : oSmall S = true) : oE d 39 25 [l0, l1, l2, l3, l4, l5] (x1 :: x0 :: .inr (.inr (.inl a)) :: S) σ Q = oE d 39 28 [l0, l1, l2, l3, l4, l5] (v.toList ++ S) τ Q := pCallV f_39_25 ow_39 lk_3_81 mt_22 rfl rfl rfl hk hs hm
theorem f_39_28 : oFet 39 28 = some (.ifCond .eq 20, 3) := by decide +kernel
theorem s_39_28 {d : Nat} {l0 l1 l2 l3 l4 l5 : oV} {x : Int} {S : List oV} {σ : oSg} {Q : Option oV → (Nat → oC) → Prop} : oE d 39 28 [l0, l1, l2, l3, l4, l5] (.inl x :: S) σ Q = if x = 0 then oE d 39 48 [l0, l1, l2, l3, l4, l5] S σ Q else oE d 39 31 [l0, l1, l2, l3, l4, l5] S σ Q := oIfEq f_39_28 (by decide)
theorem f_39_31 : oFet 39 31 = some (.aload_n 0, 1) := by decide +kernel
theorem s_39_31 {d : Nat} {l1 l2 l3 l4 l5 : oV} {a : Nat} {S : List oV} {σ : oSg} {Q : Option oV → (Nat → oC) → Prop} : oE d 39 31 [.inr (.inr (.inl a)), l1, l2, l3, l4, l5] S σ Q = oE d 39 32 [.inr (.inr (.inl a)), l1, l2, l3, l4, l5] (.inr (.inr (.inl a)) :: S) σ Q := pLdN (k := 0) f_39_31 rfl rfl rfl
theorem f_39_32 : oFet 39 32 = some (.aload_n 1, 1) := by decide +kernel
theorem s_39_32 {d : Nat} {l0 l2 l3 l4 l5 : oV} {a : Nat} {S : List oV} {σ : oSg} {Q : Option oV → (Nat → oC) → Prop} : oE d 39 32 [l0, .inr (.inr (.inl a)), l2, l3, l4, l5] S σ Q = oE d 39 33 [l0, .inr (.inr (.inl a)), l2, l3, l4, l5] (.inr (.inr (.inl a)) :: S) σ Q := pLdN (k := 1) f_39_32 rfl rfl rfl
theorem f_39_33 : oFet 39 33 = some (.iload_n 2, 1) := by decide +kernel
theorem s_39_33 {d : Nat} {l0 l1 l3 l4 l5 : oV} {x : Int} {S : List oV} {σ : oSg} {Q : Option oV → (Nat → oC) → Prop} : oE d 39 33 [l0, l1, .inl x, l3, l4, l5] S σ Q = oE d 39 34 [l0, l1, .inl x, l3, l4, l5] (.inl x :: S) σ Q := pLdN (k := 2) f_39_33 rfl rfl rfl
theorem f_39_34 : oFet 39 34 = some (.iload 5, 2) := by decide +kernel
theorem s_39_34 {d : Nat} {l0 l1 l2 l3 l4 : oV} {x : Int} {S : List oV} {σ : oSg} {Q : Option oV → (Nat → oC) → Prop} : oE d 39 34 [l0, l1, l2, l3, l4, .inl x] S σ Q = oE d 39 36 [l0, l1, l2, l3, l4, .inl x] (.inl x :: S) σ Q := pLd (i := 5) f_39_34 rfl rfl rfl
theorem f_39_36 : oFet 39 36 = some (.iload_n 3, 1) := by decide +kernel
theorem s_39_36 {d : Nat} {l0 l1 l2 l4 l5 : oV} {x : Int} {S : List oV} {σ : oSg} {Q : Option oV → (Nat → oC) → Prop} : oE d 39 36 [l0, l1, l2, .inl x, l4, l5] S σ Q = oE d 39 37 [l0, l1, l2, .inl x, l4, l5] (.inl x :: S) σ Q := pLdN (k := 3) f_39_36 rfl rfl rfl
theorem f_39_37 : oFet 39 37 = some (.invokevirtual 56, 3) := by decide +kernel
theorem c_39_37 {d : Nat} {l0 l1 l2 l3 l4 l5 : oV} {x0 x1 x2 x3 : oV} {a : Nat} {v : Option oV} {τ : oSg} {S : List oV} {σ : oSg} {Q : Option oV → (Nat → oC) → Prop} (hm : oMi d 37 [.inr (.inr (.inl a)), x0, x1, x2, x3] σ v τ) (hk : oKd a = some 3) (hs : oSmall S = true) : oE d 39 37 [l0, l1, l2, l3, l4, l5] (x3 :: x2 :: x1 :: x0 :: .inr (.inr (.inl a)) :: S) σ Q = oE d 39 40 [l0, l1, l2, l3, l4, l5] (v.toList ++ S) τ Q := pCallV f_39_37 ow_39 lk_3_56 mt_37 rfl rfl rfl hk hs hm
theorem f_39_40 : oFet 39 40 = some (.iload 4, 2) := by decide +kernel
theorem s_39_40 {d : Nat} {l0 l1 l2 l3 l5 : oV} {x : Int} {S : List oV} {σ : oSg} {Q : Option oV → (Nat → oC) → Prop} : oE d 39 40 [l0, l1, l2, l3, .inl x, l5] S σ Q = oE d 39 42 [l0, l1, l2, l3, .inl x, l5] (.inl x :: S) σ Q := pLd (i := 4) f_39_40 rfl rfl rfl
theorem f_39_42 : oFet 39 42 = some (.if_icmp .ne 6, 3) := by decide +kernel
theorem s_39_42 {d : Nat} {l0 l1 l2 l3 l4 l5 : oV} {x y : Int} {S : List oV} {σ : oSg} {Q : Option oV → (Nat → oC) → Prop} : oE d 39 42 [l0, l1, l2, l3, l4, l5] (.inl y :: .inl x :: S) σ Q = if ¬ x = y then oE d 39 48 [l0, l1, l2, l3, l4, l5] S σ Q else oE d 39 45 [l0, l1, l2, l3, l4, l5] S σ Q := oCmpNe f_39_42 (by decide)
theorem f_39_45 : oFet 39 45 = some (.iload 5, 2) := by decide +kernel
theorem s_39_45 {d : Nat} {l0 l1 l2 l3 l4 : oV} {x : Int} {S : List oV} {σ : oSg} {Q : Option oV → (Nat → oC) → Prop} : oE d 39 45 [l0, l1, l2, l3, l4, .inl x] S σ Q = oE d 39 47 [l0, l1, l2, l3, l4, .inl x] (.inl x :: S) σ Q := pLd (i := 5) f_39_45 rfl rfl rfl
theorem f_39_47 : oFet 39 47 = some (.ireturn, 1) := by decide +kernel
theorem s_39_47 {d : Nat} {l0 l1 l2 l3 l4 l5 : oV} {x : Int} {σ : oSg} {Q : Option oV → (Nat → oC) → Prop} : oE d 39 47 [l0, l1, l2, l3, l4, l5] [.inl x] σ Q = Q (some (.inl x)) (oBld σ) := oIret f_39_47 rt_39
theorem f_39_48 : oFet 39 48 = some (.iinc 5 1, 3) := by decide +kernel
theorem s_39_48 {d : Nat} {l0 l1 l2 l3 l4 : oV} {x : Int} {S : List oV} {σ : oSg} {Q : Option oV → (Nat → oC) → Prop} (c4 : oCat l4 = 1)  : oE d 39 48 [l0, l1, l2, l3, l4, .inl x] S σ Q = oE d 39 51 [l0, l1, l2, l3, l4, .inl (oAdd x (1))] S σ Q := pInc f_39_48 rfl (show (5 : Nat) < 6 by decide) (oC1n c4) (oC1n (v := .inl x) rfl) rfl
theorem f_39_51 : oFet 39 51 = some (.goto (-46), 3) := by decide +kernel
theorem s_39_51 {d : Nat} {l0 l1 l2 l3 l4 l5 : oV} {S : List oV} {σ : oSg} {Q : Option oV → (Nat → oC) → Prop} : oE d 39 51 [l0, l1, l2, l3, l4, l5] S σ Q = oE d 39 5 [l0, l1, l2, l3, l4, l5] S σ Q := pGoto f_39_51 (by decide)
theorem f_39_54 : oFet 39 54 = some (.iconst (-1), 1) := by decide +kernel
theorem s_39_54 {d : Nat} {l0 l1 l2 l3 l4 l5 : oV} {S : List oV} {σ : oSg} {Q : Option oV → (Nat → oC) → Prop} : oE d 39 54 [l0, l1, l2, l3, l4, l5] S σ Q = oE d 39 55 [l0, l1, l2, l3, l4, l5] (.inl (-1) :: S) σ Q := pKst f_39_54 (by decide)
theorem f_39_55 : oFet 39 55 = some (.ireturn, 1) := by decide +kernel
theorem s_39_55 {d : Nat} {l0 l1 l2 l3 l4 l5 : oV} {x : Int} {σ : oSg} {Q : Option oV → (Nat → oC) → Prop} : oE d 39 55 [l0, l1, l2, l3, l4, l5] [.inl x] σ Q = Q (some (.inl x)) (oBld σ) := oIret f_39_55 rt_39
theorem ow_40 : (oMt 40).2.2.2.2.1 = 1 := by decide +kernel
theorem rt_40 : (oMt 40).2.2.2.1 = none := by decide +kernel
theorem nl_40 : (oMt 40).2.2.1 = 3 := by decide +kernel
theorem f_40_0 : oFet 40 0 = some (.iconst 0, 1) := by decide +kernel
theorem s_40_0 {d : Nat} {l0 l1 l2 : oV} {S : List oV} {σ : oSg} {Q : Option oV → (Nat → oC) → Prop} : oE d 40 0 [l0, l1, l2] S σ Q = oE d 40 1 [l0, l1, l2] (.inl (0) :: S) σ Q := pKst f_40_0 (by decide)
theorem f_40_1 : oFet 40 1 = some (.istore_n 2, 1) := by decide +kernel
theorem s_40_1 {d : Nat} {l0 l1 l2 : oV} {x : Int} {S : List oV} {σ : oSg} {Q : Option oV → (Nat → oC) → Prop} (c2 : oCat l2 = 1) (c1 : oCat l1 = 1)  : oE d 40 1 [l0, l1, l2] (.inl x :: S) σ Q = oE d 40 2 [l0, l1, .inl x] S σ Q := pSt (i := 2) f_40_1 rfl rfl (show (2 : Nat) < 3 by decide) (oC1n c1) (oC1n c2) rfl
theorem f_40_2 : oFet 40 2 = some (.iload_n 2, 1) := by decide +kernel
theorem s_40_2 {d : Nat} {l0 l1 : oV} {x : Int} {S : List oV} {σ : oSg} {Q : Option oV → (Nat → oC) → Prop} : oE d 40 2 [l0, l1, .inl x] S σ Q = oE d 40 3 [l0, l1, .inl x] (.inl x :: S) σ Q := pLdN (k := 2) f_40_2 rfl rfl rfl
theorem f_40_3 : oFet 40 3 = some (.bipush 7, 2) := by decide +kernel
theorem s_40_3 {d : Nat} {l0 l1 l2 : oV} {S : List oV} {σ : oSg} {Q : Option oV → (Nat → oC) → Prop} : oE d 40 3 [l0, l1, l2] S σ Q = oE d 40 5 [l0, l1, l2] (.inl (7) :: S) σ Q := pBip f_40_3 (by decide)
theorem f_40_5 : oFet 40 5 = some (.if_icmp .ge 20, 3) := by decide +kernel
theorem s_40_5 {d : Nat} {l0 l1 l2 : oV} {x y : Int} {S : List oV} {σ : oSg} {Q : Option oV → (Nat → oC) → Prop} : oE d 40 5 [l0, l1, l2] (.inl y :: .inl x :: S) σ Q = if y ≤ x then oE d 40 25 [l0, l1, l2] S σ Q else oE d 40 8 [l0, l1, l2] S σ Q := oCmpGe f_40_5 (by decide)
theorem f_40_8 : oFet 40 8 = some (.aload_n 0, 1) := by decide +kernel
theorem s_40_8 {d : Nat} {l1 l2 : oV} {a : Nat} {S : List oV} {σ : oSg} {Q : Option oV → (Nat → oC) → Prop} : oE d 40 8 [.inr (.inr (.inl a)), l1, l2] S σ Q = oE d 40 9 [.inr (.inr (.inl a)), l1, l2] (.inr (.inr (.inl a)) :: S) σ Q := pLdN (k := 0) f_40_8 rfl rfl rfl
theorem f_40_9 : oFet 40 9 = some (.getfield 18, 3) := by decide +kernel
theorem s_40_9 {d : Nat} {l0 l1 l2 : oV} {a : Nat} {S : List oV} {σ : oSg} {Q : Option oV → (Nat → oC) → Prop} (hk : oKd a = some 1) : oE d 40 9 [l0, l1, l2] (.inr (.inr (.inl a)) :: S) σ Q = oE d 40 12 [l0, l1, l2] (.inr (.inr (.inl (oRf a 1))) :: S) σ Q := pGfR f_40_9 ow_40 fl_1_18 rfl (by decide) hk
theorem f_40_12 : oFet 40 12 = some (.iload_n 2, 1) := by decide +kernel
theorem s_40_12 {d : Nat} {l0 l1 : oV} {x : Int} {S : List oV} {σ : oSg} {Q : Option oV → (Nat → oC) → Prop} : oE d 40 12 [l0, l1, .inl x] S σ Q = oE d 40 13 [l0, l1, .inl x] (.inl x :: S) σ Q := pLdN (k := 2) f_40_12 rfl rfl rfl
theorem f_40_13 : oFet 40 13 = some (.aload_n 1, 1) := by decide +kernel
theorem s_40_13 {d : Nat} {l0 l2 : oV} {a : Nat} {S : List oV} {σ : oSg} {Q : Option oV → (Nat → oC) → Prop} : oE d 40 13 [l0, .inr (.inr (.inl a)), l2] S σ Q = oE d 40 14 [l0, .inr (.inr (.inl a)), l2] (.inr (.inr (.inl a)) :: S) σ Q := pLdN (k := 1) f_40_13 rfl rfl rfl
theorem f_40_14 : oFet 40 14 = some (.iload_n 2, 1) := by decide +kernel
theorem s_40_14 {d : Nat} {l0 l1 : oV} {x : Int} {S : List oV} {σ : oSg} {Q : Option oV → (Nat → oC) → Prop} : oE d 40 14 [l0, l1, .inl x] S σ Q = oE d 40 15 [l0, l1, .inl x] (.inl x :: S) σ Q := pLdN (k := 2) f_40_14 rfl rfl rfl
theorem f_40_15 : oFet 40 15 = some (.invokevirtual 61, 3) := by decide +kernel
theorem c_40_15 {d : Nat} {l0 l1 l2 : oV} {x0 : oV} {a : Nat} {v : Option oV} {τ : oSg} {S : List oV} {σ : oSg} {Q : Option oV → (Nat → oC) → Prop} (hm : oMi d 41 [.inr (.inr (.inl a)), x0] σ v τ) (hk : oKd a = some 3) (hs : oSmall S = true) : oE d 40 15 [l0, l1, l2] (x0 :: .inr (.inr (.inl a)) :: S) σ Q = oE d 40 18 [l0, l1, l2] (v.toList ++ S) τ Q := pCallV f_40_15 ow_40 lk_1_61 mt_41 rfl rfl rfl hk hs hm
theorem f_40_18 : oFet 40 18 = some (.iastore, 1) := by decide +kernel
theorem s_40_18 {d : Nat} {l0 l1 l2 : oV} {a : Nat} {i v : Int} {S : List oV} {σ : oSg} {Q : Option oV → (Nat → oC) → Prop} (hk : oAk a = some 0) (h0 : 0 ≤ i) (h1 : i < (oLn a : Int)) : oE d 40 18 [l0, l1, l2] (.inl v :: .inl i :: .inr (.inr (.inl a)) :: S) σ Q = oE d 40 19 [l0, l1, l2] S (oSA σ a i.toNat v) Q := oIas f_40_18 hk h0 h1
theorem f_40_19 : oFet 40 19 = some (.iinc 2 1, 3) := by decide +kernel
theorem s_40_19 {d : Nat} {l0 l1 : oV} {x : Int} {S : List oV} {σ : oSg} {Q : Option oV → (Nat → oC) → Prop} (c1 : oCat l1 = 1)  : oE d 40 19 [l0, l1, .inl x] S σ Q = oE d 40 22 [l0, l1, .inl (oAdd x (1))] S σ Q := pInc f_40_19 rfl (show (2 : Nat) < 3 by decide) (oC1n c1) (oC1n (v := .inl x) rfl) rfl
theorem f_40_22 : oFet 40 22 = some (.goto (-20), 3) := by decide +kernel
theorem s_40_22 {d : Nat} {l0 l1 l2 : oV} {S : List oV} {σ : oSg} {Q : Option oV → (Nat → oC) → Prop} : oE d 40 22 [l0, l1, l2] S σ Q = oE d 40 2 [l0, l1, l2] S σ Q := pGoto f_40_22 (by decide)
theorem f_40_25 : oFet 40 25 = some (.return_, 1) := by decide +kernel
theorem s_40_25 {d : Nat} {l0 l1 l2 : oV} {σ : oSg} {Q : Option oV → (Nat → oC) → Prop} : oE d 40 25 [l0, l1, l2] [] σ Q = Q none (oBld σ) := oVret f_40_25 rt_40
theorem ow_41 : (oMt 41).2.2.2.2.1 = 3 := by decide +kernel
theorem rt_41 : (oMt 41).2.2.2.1 = some .int := by decide +kernel
theorem nl_41 : (oMt 41).2.2.1 = 2 := by decide +kernel
theorem f_41_0 : oFet 41 0 = some (.iload_n 1, 1) := by decide +kernel
theorem s_41_0 {d : Nat} {l0 : oV} {x : Int} {S : List oV} {σ : oSg} {Q : Option oV → (Nat → oC) → Prop} : oE d 41 0 [l0, .inl x] S σ Q = oE d 41 1 [l0, .inl x] (.inl x :: S) σ Q := pLdN (k := 1) f_41_0 rfl rfl rfl
theorem f_41_1 : oFet 41 1 = some (.ifCond .lt 18, 3) := by decide +kernel
theorem s_41_1 {d : Nat} {l0 l1 : oV} {x : Int} {S : List oV} {σ : oSg} {Q : Option oV → (Nat → oC) → Prop} : oE d 41 1 [l0, l1] (.inl x :: S) σ Q = if x < 0 then oE d 41 19 [l0, l1] S σ Q else oE d 41 4 [l0, l1] S σ Q := oIfLt f_41_1 (by decide)
theorem f_41_4 : oFet 41 4 = some (.iload_n 1, 1) := by decide +kernel
theorem s_41_4 {d : Nat} {l0 : oV} {x : Int} {S : List oV} {σ : oSg} {Q : Option oV → (Nat → oC) → Prop} : oE d 41 4 [l0, .inl x] S σ Q = oE d 41 5 [l0, .inl x] (.inl x :: S) σ Q := pLdN (k := 1) f_41_4 rfl rfl rfl
theorem f_41_5 : oFet 41 5 = some (.bipush 7, 2) := by decide +kernel
theorem s_41_5 {d : Nat} {l0 l1 : oV} {S : List oV} {σ : oSg} {Q : Option oV → (Nat → oC) → Prop} : oE d 41 5 [l0, l1] S σ Q = oE d 41 7 [l0, l1] (.inl (7) :: S) σ Q := pBip f_41_5 (by decide)
theorem f_41_7 : oFet 41 7 = some (.if_icmp .ge 12, 3) := by decide +kernel
theorem s_41_7 {d : Nat} {l0 l1 : oV} {x y : Int} {S : List oV} {σ : oSg} {Q : Option oV → (Nat → oC) → Prop} : oE d 41 7 [l0, l1] (.inl y :: .inl x :: S) σ Q = if y ≤ x then oE d 41 19 [l0, l1] S σ Q else oE d 41 10 [l0, l1] S σ Q := oCmpGe f_41_7 (by decide)
theorem f_41_10 : oFet 41 10 = some (.aload_n 0, 1) := by decide +kernel
theorem s_41_10 {d : Nat} {l1 : oV} {a : Nat} {S : List oV} {σ : oSg} {Q : Option oV → (Nat → oC) → Prop} : oE d 41 10 [.inr (.inr (.inl a)), l1] S σ Q = oE d 41 11 [.inr (.inr (.inl a)), l1] (.inr (.inr (.inl a)) :: S) σ Q := pLdN (k := 0) f_41_10 rfl rfl rfl
theorem f_41_11 : oFet 41 11 = some (.getfield 9, 3) := by decide +kernel
theorem s_41_11 {d : Nat} {l0 l1 : oV} {a : Nat} {S : List oV} {σ : oSg} {Q : Option oV → (Nat → oC) → Prop} (hk : oKd a = some 3) : oE d 41 11 [l0, l1] (.inr (.inr (.inl a)) :: S) σ Q = oE d 41 14 [l0, l1] (.inr (.inr (.inl (oRf a 3))) :: S) σ Q := pGfR f_41_11 ow_41 fl_3_9 rfl (by decide) hk
theorem f_41_14 : oFet 41 14 = some (.iload_n 1, 1) := by decide +kernel
theorem s_41_14 {d : Nat} {l0 : oV} {x : Int} {S : List oV} {σ : oSg} {Q : Option oV → (Nat → oC) → Prop} : oE d 41 14 [l0, .inl x] S σ Q = oE d 41 15 [l0, .inl x] (.inl x :: S) σ Q := pLdN (k := 1) f_41_14 rfl rfl rfl
theorem f_41_15 : oFet 41 15 = some (.iaload, 1) := by decide +kernel
theorem s_41_15 {d : Nat} {l0 l1 : oV} {a : Nat} {i : Int} {S : List oV} {σ : oSg} {Q : Option oV → (Nat → oC) → Prop} (hk : oAk a = some 0) (h0 : 0 ≤ i) (h1 : i < (oLn a : Int)) : oE d 41 15 [l0, l1] (.inl i :: .inr (.inr (.inl a)) :: S) σ Q = oE d 41 16 [l0, l1] (.inl (σ.2 a i.toNat) :: S) σ Q := oIal f_41_15 hk h0 h1
theorem f_41_16 : oFet 41 16 = some (.goto 4, 3) := by decide +kernel
theorem s_41_16 {d : Nat} {l0 l1 : oV} {S : List oV} {σ : oSg} {Q : Option oV → (Nat → oC) → Prop} : oE d 41 16 [l0, l1] S σ Q = oE d 41 20 [l0, l1] S σ Q := pGoto f_41_16 (by decide)
theorem f_41_19 : oFet 41 19 = some (.iconst (-1), 1) := by decide +kernel
theorem s_41_19 {d : Nat} {l0 l1 : oV} {S : List oV} {σ : oSg} {Q : Option oV → (Nat → oC) → Prop} : oE d 41 19 [l0, l1] S σ Q = oE d 41 20 [l0, l1] (.inl (-1) :: S) σ Q := pKst f_41_19 (by decide)
theorem f_41_20 : oFet 41 20 = some (.ireturn, 1) := by decide +kernel
theorem s_41_20 {d : Nat} {l0 l1 : oV} {x : Int} {σ : oSg} {Q : Option oV → (Nat → oC) → Prop} : oE d 41 20 [l0, l1] [.inl x] σ Q = Q (some (.inl x)) (oBld σ) := oIret f_41_20 rt_41
theorem ow_42 : (oMt 42).2.2.2.2.1 = 10 := by decide +kernel
theorem rt_42 : (oMt 42).2.2.2.1 = some .int := by decide +kernel
theorem nl_42 : (oMt 42).2.2.1 = 3 := by decide +kernel
theorem f_42_0 : oFet 42 0 = some (.iload_n 1, 1) := by decide +kernel
theorem s_42_0 {d : Nat} {l0 l2 : oV} {x : Int} {S : List oV} {σ : oSg} {Q : Option oV → (Nat → oC) → Prop} : oE d 42 0 [l0, .inl x, l2] S σ Q = oE d 42 1 [l0, .inl x, l2] (.inl x :: S) σ Q := pLdN (k := 1) f_42_0 rfl rfl rfl
theorem f_42_1 : oFet 42 1 = some (.ifCond .lt 9, 3) := by decide +kernel
theorem s_42_1 {d : Nat} {l0 l1 l2 : oV} {x : Int} {S : List oV} {σ : oSg} {Q : Option oV → (Nat → oC) → Prop} : oE d 42 1 [l0, l1, l2] (.inl x :: S) σ Q = if x < 0 then oE d 42 10 [l0, l1, l2] S σ Q else oE d 42 4 [l0, l1, l2] S σ Q := oIfLt f_42_1 (by decide)
theorem f_42_4 : oFet 42 4 = some (.iload_n 1, 1) := by decide +kernel
theorem s_42_4 {d : Nat} {l0 l2 : oV} {x : Int} {S : List oV} {σ : oSg} {Q : Option oV → (Nat → oC) → Prop} : oE d 42 4 [l0, .inl x, l2] S σ Q = oE d 42 5 [l0, .inl x, l2] (.inl x :: S) σ Q := pLdN (k := 1) f_42_4 rfl rfl rfl
theorem f_42_5 : oFet 42 5 = some (.bipush 9, 2) := by decide +kernel
theorem s_42_5 {d : Nat} {l0 l1 l2 : oV} {S : List oV} {σ : oSg} {Q : Option oV → (Nat → oC) → Prop} : oE d 42 5 [l0, l1, l2] S σ Q = oE d 42 7 [l0, l1, l2] (.inl (9) :: S) σ Q := pBip f_42_5 (by decide)
theorem f_42_7 : oFet 42 7 = some (.if_icmp .le 6, 3) := by decide +kernel
theorem s_42_7 {d : Nat} {l0 l1 l2 : oV} {x y : Int} {S : List oV} {σ : oSg} {Q : Option oV → (Nat → oC) → Prop} : oE d 42 7 [l0, l1, l2] (.inl y :: .inl x :: S) σ Q = if x ≤ y then oE d 42 13 [l0, l1, l2] S σ Q else oE d 42 10 [l0, l1, l2] S σ Q := oCmpLe f_42_7 (by decide)
theorem f_42_10 : oFet 42 10 = some (.bipush (-2), 2) := by decide +kernel
theorem s_42_10 {d : Nat} {l0 l1 l2 : oV} {S : List oV} {σ : oSg} {Q : Option oV → (Nat → oC) → Prop} : oE d 42 10 [l0, l1, l2] S σ Q = oE d 42 12 [l0, l1, l2] (.inl (-2) :: S) σ Q := pBip f_42_10 (by decide)
theorem f_42_12 : oFet 42 12 = some (.ireturn, 1) := by decide +kernel
theorem s_42_12 {d : Nat} {l0 l1 l2 : oV} {x : Int} {σ : oSg} {Q : Option oV → (Nat → oC) → Prop} : oE d 42 12 [l0, l1, l2] [.inl x] σ Q = Q (some (.inl x)) (oBld σ) := oIret f_42_12 rt_42
theorem f_42_13 : oFet 42 13 = some (.iconst 0, 1) := by decide +kernel
theorem s_42_13 {d : Nat} {l0 l1 l2 : oV} {S : List oV} {σ : oSg} {Q : Option oV → (Nat → oC) → Prop} : oE d 42 13 [l0, l1, l2] S σ Q = oE d 42 14 [l0, l1, l2] (.inl (0) :: S) σ Q := pKst f_42_13 (by decide)
theorem f_42_14 : oFet 42 14 = some (.istore_n 2, 1) := by decide +kernel
theorem s_42_14 {d : Nat} {l0 l1 l2 : oV} {x : Int} {S : List oV} {σ : oSg} {Q : Option oV → (Nat → oC) → Prop} (c2 : oCat l2 = 1) (c1 : oCat l1 = 1)  : oE d 42 14 [l0, l1, l2] (.inl x :: S) σ Q = oE d 42 15 [l0, l1, .inl x] S σ Q := pSt (i := 2) f_42_14 rfl rfl (show (2 : Nat) < 3 by decide) (oC1n c1) (oC1n c2) rfl
theorem f_42_15 : oFet 42 15 = some (.iload_n 2, 1) := by decide +kernel
theorem s_42_15 {d : Nat} {l0 l1 : oV} {x : Int} {S : List oV} {σ : oSg} {Q : Option oV → (Nat → oC) → Prop} : oE d 42 15 [l0, l1, .inl x] S σ Q = oE d 42 16 [l0, l1, .inl x] (.inl x :: S) σ Q := pLdN (k := 2) f_42_15 rfl rfl rfl
theorem f_42_16 : oFet 42 16 = some (.iload_n 1, 1) := by decide +kernel
theorem s_42_16 {d : Nat} {l0 l2 : oV} {x : Int} {S : List oV} {σ : oSg} {Q : Option oV → (Nat → oC) → Prop} : oE d 42 16 [l0, .inl x, l2] S σ Q = oE d 42 17 [l0, .inl x, l2] (.inl x :: S) σ Q := pLdN (k := 1) f_42_16 rfl rfl rfl
theorem f_42_17 : oFet 42 17 = some (.if_icmp .ge 34, 3) := by decide +kernel
theorem s_42_17 {d : Nat} {l0 l1 l2 : oV} {x y : Int} {S : List oV} {σ : oSg} {Q : Option oV → (Nat → oC) → Prop} : oE d 42 17 [l0, l1, l2] (.inl y :: .inl x :: S) σ Q = if y ≤ x then oE d 42 51 [l0, l1, l2] S σ Q else oE d 42 20 [l0, l1, l2] S σ Q := oCmpGe f_42_17 (by decide)
theorem f_42_20 : oFet 42 20 = some (.aload_n 0, 1) := by decide +kernel
theorem s_42_20 {d : Nat} {l1 l2 : oV} {a : Nat} {S : List oV} {σ : oSg} {Q : Option oV → (Nat → oC) → Prop} : oE d 42 20 [.inr (.inr (.inl a)), l1, l2] S σ Q = oE d 42 21 [.inr (.inr (.inl a)), l1, l2] (.inr (.inr (.inl a)) :: S) σ Q := pLdN (k := 0) f_42_20 rfl rfl rfl
theorem f_42_21 : oFet 42 21 = some (.getfield 55, 3) := by decide +kernel
theorem s_42_21 {d : Nat} {l0 l1 l2 : oV} {a : Nat} {S : List oV} {σ : oSg} {Q : Option oV → (Nat → oC) → Prop} (hk : oKd a = some 10) : oE d 42 21 [l0, l1, l2] (.inr (.inr (.inl a)) :: S) σ Q = oE d 42 24 [l0, l1, l2] (.inr (.inr (.inl (oRf a 8))) :: S) σ Q := pGfR f_42_21 ow_42 fl_10_55 rfl (by decide) hk
theorem f_42_24 : oFet 42 24 = some (.aload_n 0, 1) := by decide +kernel
theorem s_42_24 {d : Nat} {l1 l2 : oV} {a : Nat} {S : List oV} {σ : oSg} {Q : Option oV → (Nat → oC) → Prop} : oE d 42 24 [.inr (.inr (.inl a)), l1, l2] S σ Q = oE d 42 25 [.inr (.inr (.inl a)), l1, l2] (.inr (.inr (.inl a)) :: S) σ Q := pLdN (k := 0) f_42_24 rfl rfl rfl
theorem f_42_25 : oFet 42 25 = some (.getfield 12, 3) := by decide +kernel
theorem s_42_25 {d : Nat} {l0 l1 l2 : oV} {a : Nat} {S : List oV} {σ : oSg} {Q : Option oV → (Nat → oC) → Prop} (hk : oKd a = some 10) : oE d 42 25 [l0, l1, l2] (.inr (.inr (.inl a)) :: S) σ Q = oE d 42 28 [l0, l1, l2] (.inr (.inr (.inl (oRf a 0))) :: S) σ Q := pGfR f_42_25 ow_42 fl_10_12 rfl (by decide) hk
theorem f_42_28 : oFet 42 28 = some (.invokevirtual 134, 3) := by decide +kernel
theorem c_42_28 {d : Nat} {l0 l1 l2 : oV} {x0 : oV} {a : Nat} {v : Option oV} {τ : oSg} {S : List oV} {σ : oSg} {Q : Option oV → (Nat → oC) → Prop} (hm : oMi d 43 [.inr (.inr (.inl a)), x0] σ v τ) (hk : oKd a = some 2) (hs : oSmall S = true) : oE d 42 28 [l0, l1, l2] (x0 :: .inr (.inr (.inl a)) :: S) σ Q = oE d 42 31 [l0, l1, l2] (v.toList ++ S) τ Q := pCallV f_42_28 ow_42 lk_10_134 mt_43 rfl rfl rfl hk hs hm
theorem f_42_31 : oFet 42 31 = some (.ifCond .eq 20, 3) := by decide +kernel
theorem s_42_31 {d : Nat} {l0 l1 l2 : oV} {x : Int} {S : List oV} {σ : oSg} {Q : Option oV → (Nat → oC) → Prop} : oE d 42 31 [l0, l1, l2] (.inl x :: S) σ Q = if x = 0 then oE d 42 51 [l0, l1, l2] S σ Q else oE d 42 34 [l0, l1, l2] S σ Q := oIfEq f_42_31 (by decide)
theorem f_42_34 : oFet 42 34 = some (.aload_n 0, 1) := by decide +kernel
theorem s_42_34 {d : Nat} {l1 l2 : oV} {a : Nat} {S : List oV} {σ : oSg} {Q : Option oV → (Nat → oC) → Prop} : oE d 42 34 [.inr (.inr (.inl a)), l1, l2] S σ Q = oE d 42 35 [.inr (.inr (.inl a)), l1, l2] (.inr (.inr (.inl a)) :: S) σ Q := pLdN (k := 0) f_42_34 rfl rfl rfl
theorem f_42_35 : oFet 42 35 = some (.getfield 12, 3) := by decide +kernel
theorem s_42_35 {d : Nat} {l0 l1 l2 : oV} {a : Nat} {S : List oV} {σ : oSg} {Q : Option oV → (Nat → oC) → Prop} (hk : oKd a = some 10) : oE d 42 35 [l0, l1, l2] (.inr (.inr (.inl a)) :: S) σ Q = oE d 42 38 [l0, l1, l2] (.inr (.inr (.inl (oRf a 0))) :: S) σ Q := pGfR f_42_35 ow_42 fl_10_12 rfl (by decide) hk
theorem f_42_38 : oFet 42 38 = some (.aload_n 0, 1) := by decide +kernel
theorem s_42_38 {d : Nat} {l1 l2 : oV} {a : Nat} {S : List oV} {σ : oSg} {Q : Option oV → (Nat → oC) → Prop} : oE d 42 38 [.inr (.inr (.inl a)), l1, l2] S σ Q = oE d 42 39 [.inr (.inr (.inl a)), l1, l2] (.inr (.inr (.inl a)) :: S) σ Q := pLdN (k := 0) f_42_38 rfl rfl rfl
theorem f_42_39 : oFet 42 39 = some (.getfield 55, 3) := by decide +kernel
theorem s_42_39 {d : Nat} {l0 l1 l2 : oV} {a : Nat} {S : List oV} {σ : oSg} {Q : Option oV → (Nat → oC) → Prop} (hk : oKd a = some 10) : oE d 42 39 [l0, l1, l2] (.inr (.inr (.inl a)) :: S) σ Q = oE d 42 42 [l0, l1, l2] (.inr (.inr (.inl (oRf a 8))) :: S) σ Q := pGfR f_42_39 ow_42 fl_10_55 rfl (by decide) hk
theorem f_42_42 : oFet 42 42 = some (.invokevirtual 138, 3) := by decide +kernel
theorem c_42_42 {d : Nat} {l0 l1 l2 : oV} {x0 : oV} {a : Nat} {v : Option oV} {τ : oSg} {S : List oV} {σ : oSg} {Q : Option oV → (Nat → oC) → Prop} (hm : oMi d 49 [.inr (.inr (.inl a)), x0] σ v τ) (hk : oKd a = some 1) (hs : oSmall S = true) : oE d 42 42 [l0, l1, l2] (x0 :: .inr (.inr (.inl a)) :: S) σ Q = oE d 42 45 [l0, l1, l2] (v.toList ++ S) τ Q := pCallV f_42_42 ow_42 lk_10_138 mt_49 rfl rfl rfl hk hs hm
theorem f_42_45 : oFet 42 45 = some (.iinc 2 1, 3) := by decide +kernel
theorem s_42_45 {d : Nat} {l0 l1 : oV} {x : Int} {S : List oV} {σ : oSg} {Q : Option oV → (Nat → oC) → Prop} (c1 : oCat l1 = 1)  : oE d 42 45 [l0, l1, .inl x] S σ Q = oE d 42 48 [l0, l1, .inl (oAdd x (1))] S σ Q := pInc f_42_45 rfl (show (2 : Nat) < 3 by decide) (oC1n c1) (oC1n (v := .inl x) rfl) rfl
theorem f_42_48 : oFet 42 48 = some (.goto (-33), 3) := by decide +kernel
theorem s_42_48 {d : Nat} {l0 l1 l2 : oV} {S : List oV} {σ : oSg} {Q : Option oV → (Nat → oC) → Prop} : oE d 42 48 [l0, l1, l2] S σ Q = oE d 42 15 [l0, l1, l2] S σ Q := pGoto f_42_48 (by decide)
theorem f_42_51 : oFet 42 51 = some (.iload_n 2, 1) := by decide +kernel
theorem s_42_51 {d : Nat} {l0 l1 : oV} {x : Int} {S : List oV} {σ : oSg} {Q : Option oV → (Nat → oC) → Prop} : oE d 42 51 [l0, l1, .inl x] S σ Q = oE d 42 52 [l0, l1, .inl x] (.inl x :: S) σ Q := pLdN (k := 2) f_42_51 rfl rfl rfl
theorem f_42_52 : oFet 42 52 = some (.ireturn, 1) := by decide +kernel
theorem s_42_52 {d : Nat} {l0 l1 l2 : oV} {x : Int} {σ : oSg} {Q : Option oV → (Nat → oC) → Prop} : oE d 42 52 [l0, l1, l2] [.inl x] σ Q = Q (some (.inl x)) (oBld σ) := oIret f_42_52 rt_42
theorem ow_43 : (oMt 43).2.2.2.2.1 = 2 := by decide +kernel
theorem rt_43 : (oMt 43).2.2.2.1 = some .boolean := by decide +kernel
theorem nl_43 : (oMt 43).2.2.1 = 3 := by decide +kernel
theorem f_43_0 : oFet 43 0 = some (.iconst 2, 1) := by decide +kernel
theorem s_43_0 {d : Nat} {l0 l1 l2 : oV} {S : List oV} {σ : oSg} {Q : Option oV → (Nat → oC) → Prop} : oE d 43 0 [l0, l1, l2] S σ Q = oE d 43 1 [l0, l1, l2] (.inl (2) :: S) σ Q := pKst f_43_0 (by decide)
theorem f_43_1 : oFet 43 1 = some (.istore_n 2, 1) := by decide +kernel
theorem s_43_1 {d : Nat} {l0 l1 l2 : oV} {x : Int} {S : List oV} {σ : oSg} {Q : Option oV → (Nat → oC) → Prop} (c2 : oCat l2 = 1) (c1 : oCat l1 = 1)  : oE d 43 1 [l0, l1, l2] (.inl x :: S) σ Q = oE d 43 2 [l0, l1, .inl x] S σ Q := pSt (i := 2) f_43_1 rfl rfl (show (2 : Nat) < 3 by decide) (oC1n c1) (oC1n c2) rfl
theorem f_43_2 : oFet 43 2 = some (.iload_n 2, 1) := by decide +kernel
theorem s_43_2 {d : Nat} {l0 l1 : oV} {x : Int} {S : List oV} {σ : oSg} {Q : Option oV → (Nat → oC) → Prop} : oE d 43 2 [l0, l1, .inl x] S σ Q = oE d 43 3 [l0, l1, .inl x] (.inl x :: S) σ Q := pLdN (k := 2) f_43_2 rfl rfl rfl
theorem f_43_3 : oFet 43 3 = some (.bipush 7, 2) := by decide +kernel
theorem s_43_3 {d : Nat} {l0 l1 l2 : oV} {S : List oV} {σ : oSg} {Q : Option oV → (Nat → oC) → Prop} : oE d 43 3 [l0, l1, l2] S σ Q = oE d 43 5 [l0, l1, l2] (.inl (7) :: S) σ Q := pBip f_43_3 (by decide)
theorem f_43_5 : oFet 43 5 = some (.if_icmp .gt 21, 3) := by decide +kernel
theorem s_43_5 {d : Nat} {l0 l1 l2 : oV} {x y : Int} {S : List oV} {σ : oSg} {Q : Option oV → (Nat → oC) → Prop} : oE d 43 5 [l0, l1, l2] (.inl y :: .inl x :: S) σ Q = if y < x then oE d 43 26 [l0, l1, l2] S σ Q else oE d 43 8 [l0, l1, l2] S σ Q := oCmpGt f_43_5 (by decide)
theorem f_43_8 : oFet 43 8 = some (.aload_n 0, 1) := by decide +kernel
theorem s_43_8 {d : Nat} {l1 l2 : oV} {a : Nat} {S : List oV} {σ : oSg} {Q : Option oV → (Nat → oC) → Prop} : oE d 43 8 [.inr (.inr (.inl a)), l1, l2] S σ Q = oE d 43 9 [.inr (.inr (.inl a)), l1, l2] (.inr (.inr (.inl a)) :: S) σ Q := pLdN (k := 0) f_43_8 rfl rfl rfl
theorem f_43_9 : oFet 43 9 = some (.aload_n 1, 1) := by decide +kernel
theorem s_43_9 {d : Nat} {l0 l2 : oV} {a : Nat} {S : List oV} {σ : oSg} {Q : Option oV → (Nat → oC) → Prop} : oE d 43 9 [l0, .inr (.inr (.inl a)), l2] S σ Q = oE d 43 10 [l0, .inr (.inr (.inl a)), l2] (.inr (.inr (.inl a)) :: S) σ Q := pLdN (k := 1) f_43_9 rfl rfl rfl
theorem f_43_10 : oFet 43 10 = some (.iload_n 2, 1) := by decide +kernel
theorem s_43_10 {d : Nat} {l0 l1 : oV} {x : Int} {S : List oV} {σ : oSg} {Q : Option oV → (Nat → oC) → Prop} : oE d 43 10 [l0, l1, .inl x] S σ Q = oE d 43 11 [l0, l1, .inl x] (.inl x :: S) σ Q := pLdN (k := 2) f_43_10 rfl rfl rfl
theorem f_43_11 : oFet 43 11 = some (.iconst (-1), 1) := by decide +kernel
theorem s_43_11 {d : Nat} {l0 l1 l2 : oV} {S : List oV} {σ : oSg} {Q : Option oV → (Nat → oC) → Prop} : oE d 43 11 [l0, l1, l2] S σ Q = oE d 43 12 [l0, l1, l2] (.inl (-1) :: S) σ Q := pKst f_43_11 (by decide)
theorem f_43_12 : oFet 43 12 = some (.invokevirtual 15, 3) := by decide +kernel
theorem c_43_12 {d : Nat} {l0 l1 l2 : oV} {x0 x1 x2 : oV} {a : Nat} {v : Option oV} {τ : oSg} {S : List oV} {σ : oSg} {Q : Option oV → (Nat → oC) → Prop} (hm : oMi d 44 [.inr (.inr (.inl a)), x0, x1, x2] σ v τ) (hk : oKd a = some 2) (hs : oSmall S = true) : oE d 43 12 [l0, l1, l2] (x2 :: x1 :: x0 :: .inr (.inr (.inl a)) :: S) σ Q = oE d 43 15 [l0, l1, l2] (v.toList ++ S) τ Q := pCallV f_43_12 ow_43 lk_2_15 mt_44 rfl rfl rfl hk hs hm
theorem f_43_15 : oFet 43 15 = some (.ifCond .eq 5, 3) := by decide +kernel
theorem s_43_15 {d : Nat} {l0 l1 l2 : oV} {x : Int} {S : List oV} {σ : oSg} {Q : Option oV → (Nat → oC) → Prop} : oE d 43 15 [l0, l1, l2] (.inl x :: S) σ Q = if x = 0 then oE d 43 20 [l0, l1, l2] S σ Q else oE d 43 18 [l0, l1, l2] S σ Q := oIfEq f_43_15 (by decide)
theorem f_43_18 : oFet 43 18 = some (.iconst 1, 1) := by decide +kernel
theorem s_43_18 {d : Nat} {l0 l1 l2 : oV} {S : List oV} {σ : oSg} {Q : Option oV → (Nat → oC) → Prop} : oE d 43 18 [l0, l1, l2] S σ Q = oE d 43 19 [l0, l1, l2] (.inl (1) :: S) σ Q := pKst f_43_18 (by decide)
theorem f_43_19 : oFet 43 19 = some (.ireturn, 1) := by decide +kernel
theorem s_43_19 {d : Nat} {l0 l1 l2 : oV} {x : Int} {σ : oSg} {Q : Option oV → (Nat → oC) → Prop} (hx : x = 0 ∨ x = 1) : oE d 43 19 [l0, l1, l2] [.inl x] σ Q = Q (some (.inl x)) (oBld σ) := oZret f_43_19 rt_43 hx
theorem f_43_20 : oFet 43 20 = some (.iinc 2 2, 3) := by decide +kernel
theorem s_43_20 {d : Nat} {l0 l1 : oV} {x : Int} {S : List oV} {σ : oSg} {Q : Option oV → (Nat → oC) → Prop} (c1 : oCat l1 = 1)  : oE d 43 20 [l0, l1, .inl x] S σ Q = oE d 43 23 [l0, l1, .inl (oAdd x (2))] S σ Q := pInc f_43_20 rfl (show (2 : Nat) < 3 by decide) (oC1n c1) (oC1n (v := .inl x) rfl) rfl
theorem f_43_23 : oFet 43 23 = some (.goto (-21), 3) := by decide +kernel
theorem s_43_23 {d : Nat} {l0 l1 l2 : oV} {S : List oV} {σ : oSg} {Q : Option oV → (Nat → oC) → Prop} : oE d 43 23 [l0, l1, l2] S σ Q = oE d 43 2 [l0, l1, l2] S σ Q := pGoto f_43_23 (by decide)
theorem f_43_26 : oFet 43 26 = some (.iconst 0, 1) := by decide +kernel
theorem s_43_26 {d : Nat} {l0 l1 l2 : oV} {S : List oV} {σ : oSg} {Q : Option oV → (Nat → oC) → Prop} : oE d 43 26 [l0, l1, l2] S σ Q = oE d 43 27 [l0, l1, l2] (.inl (0) :: S) σ Q := pKst f_43_26 (by decide)
theorem f_43_27 : oFet 43 27 = some (.ireturn, 1) := by decide +kernel
theorem s_43_27 {d : Nat} {l0 l1 l2 : oV} {x : Int} {σ : oSg} {Q : Option oV → (Nat → oC) → Prop} (hx : x = 0 ∨ x = 1) : oE d 43 27 [l0, l1, l2] [.inl x] σ Q = Q (some (.inl x)) (oBld σ) := oZret f_43_27 rt_43 hx
theorem ow_44 : (oMt 44).2.2.2.2.1 = 2 := by decide +kernel
theorem rt_44 : (oMt 44).2.2.2.1 = some .boolean := by decide +kernel
theorem nl_44 : (oMt 44).2.2.1 = 4 := by decide +kernel
theorem f_44_0 : oFet 44 0 = some (.aload_n 0, 1) := by decide +kernel
theorem s_44_0 {d : Nat} {l1 l2 l3 : oV} {a : Nat} {S : List oV} {σ : oSg} {Q : Option oV → (Nat → oC) → Prop} : oE d 44 0 [.inr (.inr (.inl a)), l1, l2, l3] S σ Q = oE d 44 1 [.inr (.inr (.inl a)), l1, l2, l3] (.inr (.inr (.inl a)) :: S) σ Q := pLdN (k := 0) f_44_0 rfl rfl rfl
theorem f_44_1 : oFet 44 1 = some (.iload_n 2, 1) := by decide +kernel
theorem s_44_1 {d : Nat} {l0 l1 l3 : oV} {x : Int} {S : List oV} {σ : oSg} {Q : Option oV → (Nat → oC) → Prop} : oE d 44 1 [l0, l1, .inl x, l3] S σ Q = oE d 44 2 [l0, l1, .inl x, l3] (.inl x :: S) σ Q := pLdN (k := 2) f_44_1 rfl rfl rfl
theorem f_44_2 : oFet 44 2 = some (.putfield 19, 3) := by decide +kernel
theorem s_44_2 {d : Nat} {l0 l1 l2 l3 : oV} {a : Nat} {v : Int} {S : List oV} {σ : oSg} {Q : Option oV → (Nat → oC) → Prop} (hk : oKd a = some 2) : oE d 44 2 [l0, l1, l2, l3] (.inl v :: .inr (.inr (.inl a)) :: S) σ Q = oE d 44 5 [l0, l1, l2, l3] S (oSF σ a 0 v) Q := pPfI f_44_2 ow_44 fl_2_19 rfl (by decide) rfl rfl hk
theorem f_44_5 : oFet 44 5 = some (.aload_n 0, 1) := by decide +kernel
theorem s_44_5 {d : Nat} {l1 l2 l3 : oV} {a : Nat} {S : List oV} {σ : oSg} {Q : Option oV → (Nat → oC) → Prop} : oE d 44 5 [.inr (.inr (.inl a)), l1, l2, l3] S σ Q = oE d 44 6 [.inr (.inr (.inl a)), l1, l2, l3] (.inr (.inr (.inl a)) :: S) σ Q := pLdN (k := 0) f_44_5 rfl rfl rfl
theorem f_44_6 : oFet 44 6 = some (.iload_n 3, 1) := by decide +kernel
theorem s_44_6 {d : Nat} {l0 l1 l2 : oV} {x : Int} {S : List oV} {σ : oSg} {Q : Option oV → (Nat → oC) → Prop} : oE d 44 6 [l0, l1, l2, .inl x] S σ Q = oE d 44 7 [l0, l1, l2, .inl x] (.inl x :: S) σ Q := pLdN (k := 3) f_44_6 rfl rfl rfl
theorem f_44_7 : oFet 44 7 = some (.putfield 23, 3) := by decide +kernel
theorem s_44_7 {d : Nat} {l0 l1 l2 l3 : oV} {a : Nat} {v : Int} {S : List oV} {σ : oSg} {Q : Option oV → (Nat → oC) → Prop} (hk : oKd a = some 2) : oE d 44 7 [l0, l1, l2, l3] (.inl v :: .inr (.inr (.inl a)) :: S) σ Q = oE d 44 10 [l0, l1, l2, l3] S (oSF σ a 1 v) Q := pPfI f_44_7 ow_44 fl_2_23 rfl (by decide) rfl rfl hk
theorem f_44_10 : oFet 44 10 = some (.aload_n 0, 1) := by decide +kernel
theorem s_44_10 {d : Nat} {l1 l2 l3 : oV} {a : Nat} {S : List oV} {σ : oSg} {Q : Option oV → (Nat → oC) → Prop} : oE d 44 10 [.inr (.inr (.inl a)), l1, l2, l3] S σ Q = oE d 44 11 [.inr (.inr (.inl a)), l1, l2, l3] (.inr (.inr (.inl a)) :: S) σ Q := pLdN (k := 0) f_44_10 rfl rfl rfl
theorem f_44_11 : oFet 44 11 = some (.aload_n 1, 1) := by decide +kernel
theorem s_44_11 {d : Nat} {l0 l2 l3 : oV} {a : Nat} {S : List oV} {σ : oSg} {Q : Option oV → (Nat → oC) → Prop} : oE d 44 11 [l0, .inr (.inr (.inl a)), l2, l3] S σ Q = oE d 44 12 [l0, .inr (.inr (.inl a)), l2, l3] (.inr (.inr (.inl a)) :: S) σ Q := pLdN (k := 1) f_44_11 rfl rfl rfl
theorem f_44_12 : oFet 44 12 = some (.iconst 0, 1) := by decide +kernel
theorem s_44_12 {d : Nat} {l0 l1 l2 l3 : oV} {S : List oV} {σ : oSg} {Q : Option oV → (Nat → oC) → Prop} : oE d 44 12 [l0, l1, l2, l3] S σ Q = oE d 44 13 [l0, l1, l2, l3] (.inl (0) :: S) σ Q := pKst f_44_12 (by decide)
theorem f_44_13 : oFet 44 13 = some (.iconst 0, 1) := by decide +kernel
theorem s_44_13 {d : Nat} {l0 l1 l2 l3 : oV} {S : List oV} {σ : oSg} {Q : Option oV → (Nat → oC) → Prop} : oE d 44 13 [l0, l1, l2, l3] S σ Q = oE d 44 14 [l0, l1, l2, l3] (.inl (0) :: S) σ Q := pKst f_44_13 (by decide)
theorem f_44_14 : oFet 44 14 = some (.invokestatic 26, 3) := by decide +kernel
theorem c_44_14 {d : Nat} {l0 l1 l2 l3 : oV} {x0 x1 x2 x3 : oV} {v : Option oV} {τ : oSg} {S : List oV} {σ : oSg} {Q : Option oV → (Nat → oC) → Prop} (hm : oMi d 45 [x0, x1, x2, x3] σ v τ) (hs : oSmall S = true) : oE d 44 14 [l0, l1, l2, l3] (x3 :: x2 :: x1 :: x0 :: S) σ Q = oE d 44 17 [l0, l1, l2, l3] (v.toList ++ S) τ Q := pCallS f_44_14 ow_44 lk_2_26 mt_45 rfl rfl rfl hs hm
theorem f_44_17 : oFet 44 17 = some (.ireturn, 1) := by decide +kernel
theorem s_44_17 {d : Nat} {l0 l1 l2 l3 : oV} {x : Int} {σ : oSg} {Q : Option oV → (Nat → oC) → Prop} (hx : x = 0 ∨ x = 1) : oE d 44 17 [l0, l1, l2, l3] [.inl x] σ Q = Q (some (.inl x)) (oBld σ) := oZret f_44_17 rt_44 hx
theorem ow_45 : (oMt 45).2.2.2.2.1 = 2 := by decide +kernel
theorem rt_45 : (oMt 45).2.2.2.1 = some .boolean := by decide +kernel
theorem nl_45 : (oMt 45).2.2.1 = 5 := by decide +kernel
theorem f_45_0 : oFet 45 0 = some (.iload_n 2, 1) := by decide +kernel
theorem s_45_0 {d : Nat} {l0 l1 l3 l4 : oV} {x : Int} {S : List oV} {σ : oSg} {Q : Option oV → (Nat → oC) → Prop} : oE d 45 0 [l0, l1, .inl x, l3, l4] S σ Q = oE d 45 1 [l0, l1, .inl x, l3, l4] (.inl x :: S) σ Q := pLdN (k := 2) f_45_0 rfl rfl rfl
theorem f_45_1 : oFet 45 1 = some (.aload_n 0, 1) := by decide +kernel
theorem s_45_1 {d : Nat} {l1 l2 l3 l4 : oV} {a : Nat} {S : List oV} {σ : oSg} {Q : Option oV → (Nat → oC) → Prop} : oE d 45 1 [.inr (.inr (.inl a)), l1, l2, l3, l4] S σ Q = oE d 45 2 [.inr (.inr (.inl a)), l1, l2, l3, l4] (.inr (.inr (.inl a)) :: S) σ Q := pLdN (k := 0) f_45_1 rfl rfl rfl
theorem f_45_2 : oFet 45 2 = some (.getfield 19, 3) := by decide +kernel
theorem s_45_2 {d : Nat} {l0 l1 l2 l3 l4 : oV} {a : Nat} {S : List oV} {σ : oSg} {Q : Option oV → (Nat → oC) → Prop} (hk : oKd a = some 2) : oE d 45 2 [l0, l1, l2, l3, l4] (.inr (.inr (.inl a)) :: S) σ Q = oE d 45 5 [l0, l1, l2, l3, l4] (.inl (σ.1 a 0) :: S) σ Q := pGfI f_45_2 ow_45 fl_2_19 rfl (by decide) hk
theorem f_45_5 : oFet 45 5 = some (.if_icmp .ge 9, 3) := by decide +kernel
theorem s_45_5 {d : Nat} {l0 l1 l2 l3 l4 : oV} {x y : Int} {S : List oV} {σ : oSg} {Q : Option oV → (Nat → oC) → Prop} : oE d 45 5 [l0, l1, l2, l3, l4] (.inl y :: .inl x :: S) σ Q = if y ≤ x then oE d 45 14 [l0, l1, l2, l3, l4] S σ Q else oE d 45 8 [l0, l1, l2, l3, l4] S σ Q := oCmpGe f_45_5 (by decide)
theorem f_45_8 : oFet 45 8 = some (.iload_n 2, 1) := by decide +kernel
theorem s_45_8 {d : Nat} {l0 l1 l3 l4 : oV} {x : Int} {S : List oV} {σ : oSg} {Q : Option oV → (Nat → oC) → Prop} : oE d 45 8 [l0, l1, .inl x, l3, l4] S σ Q = oE d 45 9 [l0, l1, .inl x, l3, l4] (.inl x :: S) σ Q := pLdN (k := 2) f_45_8 rfl rfl rfl
theorem f_45_9 : oFet 45 9 = some (.bipush 7, 2) := by decide +kernel
theorem s_45_9 {d : Nat} {l0 l1 l2 l3 l4 : oV} {S : List oV} {σ : oSg} {Q : Option oV → (Nat → oC) → Prop} : oE d 45 9 [l0, l1, l2, l3, l4] S σ Q = oE d 45 11 [l0, l1, l2, l3, l4] (.inl (7) :: S) σ Q := pBip f_45_9 (by decide)
theorem f_45_11 : oFet 45 11 = some (.if_icmp .lt 9, 3) := by decide +kernel
theorem s_45_11 {d : Nat} {l0 l1 l2 l3 l4 : oV} {x y : Int} {S : List oV} {σ : oSg} {Q : Option oV → (Nat → oC) → Prop} : oE d 45 11 [l0, l1, l2, l3, l4] (.inl y :: .inl x :: S) σ Q = if x < y then oE d 45 20 [l0, l1, l2, l3, l4] S σ Q else oE d 45 14 [l0, l1, l2, l3, l4] S σ Q := oCmpLt f_45_11 (by decide)
theorem f_45_14 : oFet 45 14 = some (.aload_n 0, 1) := by decide +kernel
theorem s_45_14 {d : Nat} {l1 l2 l3 l4 : oV} {a : Nat} {S : List oV} {σ : oSg} {Q : Option oV → (Nat → oC) → Prop} : oE d 45 14 [.inr (.inr (.inl a)), l1, l2, l3, l4] S σ Q = oE d 45 15 [.inr (.inr (.inl a)), l1, l2, l3, l4] (.inr (.inr (.inl a)) :: S) σ Q := pLdN (k := 0) f_45_14 rfl rfl rfl
theorem f_45_15 : oFet 45 15 = some (.aload_n 1, 1) := by decide +kernel
theorem s_45_15 {d : Nat} {l0 l2 l3 l4 : oV} {a : Nat} {S : List oV} {σ : oSg} {Q : Option oV → (Nat → oC) → Prop} : oE d 45 15 [l0, .inr (.inr (.inl a)), l2, l3, l4] S σ Q = oE d 45 16 [l0, .inr (.inr (.inl a)), l2, l3, l4] (.inr (.inr (.inl a)) :: S) σ Q := pLdN (k := 1) f_45_15 rfl rfl rfl
theorem f_45_16 : oFet 45 16 = some (.invokevirtual 30, 3) := by decide +kernel
theorem c_45_16 {d : Nat} {l0 l1 l2 l3 l4 : oV} {x0 : oV} {a : Nat} {v : Option oV} {τ : oSg} {S : List oV} {σ : oSg} {Q : Option oV → (Nat → oC) → Prop} (hm : oMi d 46 [.inr (.inr (.inl a)), x0] σ v τ) (hk : oKd a = some 2) (hs : oSmall S = true) : oE d 45 16 [l0, l1, l2, l3, l4] (x0 :: .inr (.inr (.inl a)) :: S) σ Q = oE d 45 19 [l0, l1, l2, l3, l4] (v.toList ++ S) τ Q := pCallV f_45_16 ow_45 lk_2_30 mt_46 rfl rfl rfl hk hs hm
theorem f_45_19 : oFet 45 19 = some (.ireturn, 1) := by decide +kernel
theorem s_45_19 {d : Nat} {l0 l1 l2 l3 l4 : oV} {x : Int} {σ : oSg} {Q : Option oV → (Nat → oC) → Prop} (hx : x = 0 ∨ x = 1) : oE d 45 19 [l0, l1, l2, l3, l4] [.inl x] σ Q = Q (some (.inl x)) (oBld σ) := oZret f_45_19 rt_45 hx
theorem f_45_20 : oFet 45 20 = some (.iconst 0, 1) := by decide +kernel
theorem s_45_20 {d : Nat} {l0 l1 l2 l3 l4 : oV} {S : List oV} {σ : oSg} {Q : Option oV → (Nat → oC) → Prop} : oE d 45 20 [l0, l1, l2, l3, l4] S σ Q = oE d 45 21 [l0, l1, l2, l3, l4] (.inl (0) :: S) σ Q := pKst f_45_20 (by decide)
theorem f_45_21 : oFet 45 21 = some (.istore 4, 2) := by decide +kernel
theorem s_45_21 {d : Nat} {l0 l1 l2 l3 l4 : oV} {x : Int} {S : List oV} {σ : oSg} {Q : Option oV → (Nat → oC) → Prop} (c4 : oCat l4 = 1) (c3 : oCat l3 = 1)  : oE d 45 21 [l0, l1, l2, l3, l4] (.inl x :: S) σ Q = oE d 45 23 [l0, l1, l2, l3, .inl x] S σ Q := pSt (i := 4) f_45_21 rfl rfl (show (4 : Nat) < 5 by decide) (oC1n c3) (oC1n c4) rfl
theorem f_45_23 : oFet 45 23 = some (.iload 4, 2) := by decide +kernel
theorem s_45_23 {d : Nat} {l0 l1 l2 l3 : oV} {x : Int} {S : List oV} {σ : oSg} {Q : Option oV → (Nat → oC) → Prop} : oE d 45 23 [l0, l1, l2, l3, .inl x] S σ Q = oE d 45 25 [l0, l1, l2, l3, .inl x] (.inl x :: S) σ Q := pLd (i := 4) f_45_23 rfl rfl rfl
theorem f_45_25 : oFet 45 25 = some (.aload_n 1, 1) := by decide +kernel
theorem s_45_25 {d : Nat} {l0 l2 l3 l4 : oV} {a : Nat} {S : List oV} {σ : oSg} {Q : Option oV → (Nat → oC) → Prop} : oE d 45 25 [l0, .inr (.inr (.inl a)), l2, l3, l4] S σ Q = oE d 45 26 [l0, .inr (.inr (.inl a)), l2, l3, l4] (.inr (.inr (.inl a)) :: S) σ Q := pLdN (k := 1) f_45_25 rfl rfl rfl
theorem f_45_26 : oFet 45 26 = some (.getfield 34, 3) := by decide +kernel
theorem s_45_26 {d : Nat} {l0 l1 l2 l3 l4 : oV} {a : Nat} {S : List oV} {σ : oSg} {Q : Option oV → (Nat → oC) → Prop} (hk : oKd a = some 1) : oE d 45 26 [l0, l1, l2, l3, l4] (.inr (.inr (.inl a)) :: S) σ Q = oE d 45 29 [l0, l1, l2, l3, l4] (.inr (.inr (.inl (oRf a 0))) :: S) σ Q := pGfR f_45_26 ow_45 fl_2_34 rfl (by decide) hk
theorem f_45_29 : oFet 45 29 = some (.getfield 40, 3) := by decide +kernel
theorem s_45_29 {d : Nat} {l0 l1 l2 l3 l4 : oV} {a : Nat} {S : List oV} {σ : oSg} {Q : Option oV → (Nat → oC) → Prop} (hk : oKd a = some 4) : oE d 45 29 [l0, l1, l2, l3, l4] (.inr (.inr (.inl a)) :: S) σ Q = oE d 45 32 [l0, l1, l2, l3, l4] (.inl (σ.1 a 0) :: S) σ Q := pGfI f_45_29 ow_45 fl_2_40 rfl (by decide) hk
theorem f_45_32 : oFet 45 32 = some (.if_icmp .ge 56, 3) := by decide +kernel
theorem s_45_32 {d : Nat} {l0 l1 l2 l3 l4 : oV} {x y : Int} {S : List oV} {σ : oSg} {Q : Option oV → (Nat → oC) → Prop} : oE d 45 32 [l0, l1, l2, l3, l4] (.inl y :: .inl x :: S) σ Q = if y ≤ x then oE d 45 88 [l0, l1, l2, l3, l4] S σ Q else oE d 45 35 [l0, l1, l2, l3, l4] S σ Q := oCmpGe f_45_32 (by decide)
theorem f_45_35 : oFet 45 35 = some (.iload 4, 2) := by decide +kernel
theorem s_45_35 {d : Nat} {l0 l1 l2 l3 : oV} {x : Int} {S : List oV} {σ : oSg} {Q : Option oV → (Nat → oC) → Prop} : oE d 45 35 [l0, l1, l2, l3, .inl x] S σ Q = oE d 45 37 [l0, l1, l2, l3, .inl x] (.inl x :: S) σ Q := pLd (i := 4) f_45_35 rfl rfl rfl
theorem f_45_37 : oFet 45 37 = some (.iload_n 3, 1) := by decide +kernel
theorem s_45_37 {d : Nat} {l0 l1 l2 l4 : oV} {x : Int} {S : List oV} {σ : oSg} {Q : Option oV → (Nat → oC) → Prop} : oE d 45 37 [l0, l1, l2, .inl x, l4] S σ Q = oE d 45 38 [l0, l1, l2, .inl x, l4] (.inl x :: S) σ Q := pLdN (k := 3) f_45_37 rfl rfl rfl
theorem f_45_38 : oFet 45 38 = some (.invokestatic 44, 3) := by decide +kernel
theorem c_45_38 {d : Nat} {l0 l1 l2 l3 l4 : oV} {x0 x1 : oV} {v : Option oV} {τ : oSg} {S : List oV} {σ : oSg} {Q : Option oV → (Nat → oC) → Prop} (hm : oMi d 28 [x0, x1] σ v τ) (hs : oSmall S = true) : oE d 45 38 [l0, l1, l2, l3, l4] (x1 :: x0 :: S) σ Q = oE d 45 41 [l0, l1, l2, l3, l4] (v.toList ++ S) τ Q := pCallS f_45_38 ow_45 lk_2_44 mt_28 rfl rfl rfl hs hm
theorem f_45_41 : oFet 45 41 = some (.ifCond .ne 41, 3) := by decide +kernel
theorem s_45_41 {d : Nat} {l0 l1 l2 l3 l4 : oV} {x : Int} {S : List oV} {σ : oSg} {Q : Option oV → (Nat → oC) → Prop} : oE d 45 41 [l0, l1, l2, l3, l4] (.inl x :: S) σ Q = if ¬ x = 0 then oE d 45 82 [l0, l1, l2, l3, l4] S σ Q else oE d 45 44 [l0, l1, l2, l3, l4] S σ Q := oIfNe f_45_41 (by decide)
theorem f_45_44 : oFet 45 44 = some (.aload_n 0, 1) := by decide +kernel
theorem s_45_44 {d : Nat} {l1 l2 l3 l4 : oV} {a : Nat} {S : List oV} {σ : oSg} {Q : Option oV → (Nat → oC) → Prop} : oE d 45 44 [.inr (.inr (.inl a)), l1, l2, l3, l4] S σ Q = oE d 45 45 [.inr (.inr (.inl a)), l1, l2, l3, l4] (.inr (.inr (.inl a)) :: S) σ Q := pLdN (k := 0) f_45_44 rfl rfl rfl
theorem f_45_45 : oFet 45 45 = some (.aload_n 1, 1) := by decide +kernel
theorem s_45_45 {d : Nat} {l0 l2 l3 l4 : oV} {a : Nat} {S : List oV} {σ : oSg} {Q : Option oV → (Nat → oC) → Prop} : oE d 45 45 [l0, .inr (.inr (.inl a)), l2, l3, l4] S σ Q = oE d 45 46 [l0, .inr (.inr (.inl a)), l2, l3, l4] (.inr (.inr (.inl a)) :: S) σ Q := pLdN (k := 1) f_45_45 rfl rfl rfl
theorem f_45_46 : oFet 45 46 = some (.iload_n 2, 1) := by decide +kernel
theorem s_45_46 {d : Nat} {l0 l1 l3 l4 : oV} {x : Int} {S : List oV} {σ : oSg} {Q : Option oV → (Nat → oC) → Prop} : oE d 45 46 [l0, l1, .inl x, l3, l4] S σ Q = oE d 45 47 [l0, l1, .inl x, l3, l4] (.inl x :: S) σ Q := pLdN (k := 2) f_45_46 rfl rfl rfl
theorem f_45_47 : oFet 45 47 = some (.iload 4, 2) := by decide +kernel
theorem s_45_47 {d : Nat} {l0 l1 l2 l3 : oV} {x : Int} {S : List oV} {σ : oSg} {Q : Option oV → (Nat → oC) → Prop} : oE d 45 47 [l0, l1, l2, l3, .inl x] S σ Q = oE d 45 49 [l0, l1, l2, l3, .inl x] (.inl x :: S) σ Q := pLd (i := 4) f_45_47 rfl rfl rfl
theorem f_45_49 : oFet 45 49 = some (.invokevirtual 48, 3) := by decide +kernel
theorem c_45_49 {d : Nat} {l0 l1 l2 l3 l4 : oV} {x0 x1 x2 : oV} {a : Nat} {v : Option oV} {τ : oSg} {S : List oV} {σ : oSg} {Q : Option oV → (Nat → oC) → Prop} (hm : oMi d 48 [.inr (.inr (.inl a)), x0, x1, x2] σ v τ) (hk : oKd a = some 2) (hs : oSmall S = true) : oE d 45 49 [l0, l1, l2, l3, l4] (x2 :: x1 :: x0 :: .inr (.inr (.inl a)) :: S) σ Q = oE d 45 52 [l0, l1, l2, l3, l4] (v.toList ++ S) τ Q := pCallV f_45_49 ow_45 lk_2_48 mt_48 rfl rfl rfl hk hs hm
theorem f_45_52 : oFet 45 52 = some (.ifCond .eq 30, 3) := by decide +kernel
theorem s_45_52 {d : Nat} {l0 l1 l2 l3 l4 : oV} {x : Int} {S : List oV} {σ : oSg} {Q : Option oV → (Nat → oC) → Prop} : oE d 45 52 [l0, l1, l2, l3, l4] (.inl x :: S) σ Q = if x = 0 then oE d 45 82 [l0, l1, l2, l3, l4] S σ Q else oE d 45 55 [l0, l1, l2, l3, l4] S σ Q := oIfEq f_45_52 (by decide)
theorem f_45_55 : oFet 45 55 = some (.aload_n 0, 1) := by decide +kernel
theorem s_45_55 {d : Nat} {l1 l2 l3 l4 : oV} {a : Nat} {S : List oV} {σ : oSg} {Q : Option oV → (Nat → oC) → Prop} : oE d 45 55 [.inr (.inr (.inl a)), l1, l2, l3, l4] S σ Q = oE d 45 56 [.inr (.inr (.inl a)), l1, l2, l3, l4] (.inr (.inr (.inl a)) :: S) σ Q := pLdN (k := 0) f_45_55 rfl rfl rfl
theorem f_45_56 : oFet 45 56 = some (.getfield 9, 3) := by decide +kernel
theorem s_45_56 {d : Nat} {l0 l1 l2 l3 l4 : oV} {a : Nat} {S : List oV} {σ : oSg} {Q : Option oV → (Nat → oC) → Prop} (hk : oKd a = some 2) : oE d 45 56 [l0, l1, l2, l3, l4] (.inr (.inr (.inl a)) :: S) σ Q = oE d 45 59 [l0, l1, l2, l3, l4] (.inr (.inr (.inl (oRf a 2))) :: S) σ Q := pGfR f_45_56 ow_45 fl_2_9 rfl (by decide) hk
theorem f_45_59 : oFet 45 59 = some (.iload_n 2, 1) := by decide +kernel
theorem s_45_59 {d : Nat} {l0 l1 l3 l4 : oV} {x : Int} {S : List oV} {σ : oSg} {Q : Option oV → (Nat → oC) → Prop} : oE d 45 59 [l0, l1, .inl x, l3, l4] S σ Q = oE d 45 60 [l0, l1, .inl x, l3, l4] (.inl x :: S) σ Q := pLdN (k := 2) f_45_59 rfl rfl rfl
theorem f_45_60 : oFet 45 60 = some (.iload 4, 2) := by decide +kernel
theorem s_45_60 {d : Nat} {l0 l1 l2 l3 : oV} {x : Int} {S : List oV} {σ : oSg} {Q : Option oV → (Nat → oC) → Prop} : oE d 45 60 [l0, l1, l2, l3, .inl x] S σ Q = oE d 45 62 [l0, l1, l2, l3, .inl x] (.inl x :: S) σ Q := pLd (i := 4) f_45_60 rfl rfl rfl
theorem f_45_62 : oFet 45 62 = some (.iastore, 1) := by decide +kernel
theorem s_45_62 {d : Nat} {l0 l1 l2 l3 l4 : oV} {a : Nat} {i v : Int} {S : List oV} {σ : oSg} {Q : Option oV → (Nat → oC) → Prop} (hk : oAk a = some 0) (h0 : 0 ≤ i) (h1 : i < (oLn a : Int)) : oE d 45 62 [l0, l1, l2, l3, l4] (.inl v :: .inl i :: .inr (.inr (.inl a)) :: S) σ Q = oE d 45 63 [l0, l1, l2, l3, l4] S (oSA σ a i.toNat v) Q := oIas f_45_62 hk h0 h1
theorem f_45_63 : oFet 45 63 = some (.aload_n 0, 1) := by decide +kernel
theorem s_45_63 {d : Nat} {l1 l2 l3 l4 : oV} {a : Nat} {S : List oV} {σ : oSg} {Q : Option oV → (Nat → oC) → Prop} : oE d 45 63 [.inr (.inr (.inl a)), l1, l2, l3, l4] S σ Q = oE d 45 64 [.inr (.inr (.inl a)), l1, l2, l3, l4] (.inr (.inr (.inl a)) :: S) σ Q := pLdN (k := 0) f_45_63 rfl rfl rfl
theorem f_45_64 : oFet 45 64 = some (.aload_n 1, 1) := by decide +kernel
theorem s_45_64 {d : Nat} {l0 l2 l3 l4 : oV} {a : Nat} {S : List oV} {σ : oSg} {Q : Option oV → (Nat → oC) → Prop} : oE d 45 64 [l0, .inr (.inr (.inl a)), l2, l3, l4] S σ Q = oE d 45 65 [l0, .inr (.inr (.inl a)), l2, l3, l4] (.inr (.inr (.inl a)) :: S) σ Q := pLdN (k := 1) f_45_64 rfl rfl rfl
theorem f_45_65 : oFet 45 65 = some (.iload_n 2, 1) := by decide +kernel
theorem s_45_65 {d : Nat} {l0 l1 l3 l4 : oV} {x : Int} {S : List oV} {σ : oSg} {Q : Option oV → (Nat → oC) → Prop} : oE d 45 65 [l0, l1, .inl x, l3, l4] S σ Q = oE d 45 66 [l0, l1, .inl x, l3, l4] (.inl x :: S) σ Q := pLdN (k := 2) f_45_65 rfl rfl rfl
theorem f_45_66 : oFet 45 66 = some (.iconst 1, 1) := by decide +kernel
theorem s_45_66 {d : Nat} {l0 l1 l2 l3 l4 : oV} {S : List oV} {σ : oSg} {Q : Option oV → (Nat → oC) → Prop} : oE d 45 66 [l0, l1, l2, l3, l4] S σ Q = oE d 45 67 [l0, l1, l2, l3, l4] (.inl (1) :: S) σ Q := pKst f_45_66 (by decide)
theorem f_45_67 : oFet 45 67 = some (.iadd, 1) := by decide +kernel
theorem s_45_67 {d : Nat} {l0 l1 l2 l3 l4 : oV} {x y : Int} {S : List oV} {σ : oSg} {Q : Option oV → (Nat → oC) → Prop} : oE d 45 67 [l0, l1, l2, l3, l4] (.inl y :: .inl x :: S) σ Q = oE d 45 68 [l0, l1, l2, l3, l4] (.inl (oAdd x y) :: S) σ Q := oS3 f_45_67 rfl rfl rfl
theorem f_45_68 : oFet 45 68 = some (.iload_n 3, 1) := by decide +kernel
theorem s_45_68 {d : Nat} {l0 l1 l2 l4 : oV} {x : Int} {S : List oV} {σ : oSg} {Q : Option oV → (Nat → oC) → Prop} : oE d 45 68 [l0, l1, l2, .inl x, l4] S σ Q = oE d 45 69 [l0, l1, l2, .inl x, l4] (.inl x :: S) σ Q := pLdN (k := 3) f_45_68 rfl rfl rfl
theorem f_45_69 : oFet 45 69 = some (.iconst 1, 1) := by decide +kernel
theorem s_45_69 {d : Nat} {l0 l1 l2 l3 l4 : oV} {S : List oV} {σ : oSg} {Q : Option oV → (Nat → oC) → Prop} : oE d 45 69 [l0, l1, l2, l3, l4] S σ Q = oE d 45 70 [l0, l1, l2, l3, l4] (.inl (1) :: S) σ Q := pKst f_45_69 (by decide)
theorem f_45_70 : oFet 45 70 = some (.iload 4, 2) := by decide +kernel
theorem s_45_70 {d : Nat} {l0 l1 l2 l3 : oV} {x : Int} {S : List oV} {σ : oSg} {Q : Option oV → (Nat → oC) → Prop} : oE d 45 70 [l0, l1, l2, l3, .inl x] S σ Q = oE d 45 72 [l0, l1, l2, l3, .inl x] (.inl x :: S) σ Q := pLd (i := 4) f_45_70 rfl rfl rfl
theorem f_45_72 : oFet 45 72 = some (.ishl, 1) := by decide +kernel
theorem s_45_72 {d : Nat} {l0 l1 l2 l3 l4 : oV} {x y : Int} {S : List oV} {σ : oSg} {Q : Option oV → (Nat → oC) → Prop} : oE d 45 72 [l0, l1, l2, l3, l4] (.inl y :: .inl x :: S) σ Q = oE d 45 73 [l0, l1, l2, l3, l4] (.inl (oShl x y) :: S) σ Q := oS3 f_45_72 rfl rfl rfl
theorem f_45_73 : oFet 45 73 = some (.ior, 1) := by decide +kernel
theorem s_45_73 {d : Nat} {l0 l1 l2 l3 l4 : oV} {x y : Int} {S : List oV} {σ : oSg} {Q : Option oV → (Nat → oC) → Prop} : oE d 45 73 [l0, l1, l2, l3, l4] (.inl y :: .inl x :: S) σ Q = oE d 45 74 [l0, l1, l2, l3, l4] (.inl (oOr x y) :: S) σ Q := oS3 f_45_73 rfl rfl rfl
theorem f_45_74 : oFet 45 74 = some (.invokestatic 26, 3) := by decide +kernel
theorem c_45_74 {d : Nat} {l0 l1 l2 l3 l4 : oV} {x0 x1 x2 x3 : oV} {v : Option oV} {τ : oSg} {S : List oV} {σ : oSg} {Q : Option oV → (Nat → oC) → Prop} (hm : oMi d 45 [x0, x1, x2, x3] σ v τ) (hs : oSmall S = true) : oE d 45 74 [l0, l1, l2, l3, l4] (x3 :: x2 :: x1 :: x0 :: S) σ Q = oE d 45 77 [l0, l1, l2, l3, l4] (v.toList ++ S) τ Q := pCallS f_45_74 ow_45 lk_2_26 mt_45 rfl rfl rfl hs hm
theorem f_45_77 : oFet 45 77 = some (.ifCond .eq 5, 3) := by decide +kernel
theorem s_45_77 {d : Nat} {l0 l1 l2 l3 l4 : oV} {x : Int} {S : List oV} {σ : oSg} {Q : Option oV → (Nat → oC) → Prop} : oE d 45 77 [l0, l1, l2, l3, l4] (.inl x :: S) σ Q = if x = 0 then oE d 45 82 [l0, l1, l2, l3, l4] S σ Q else oE d 45 80 [l0, l1, l2, l3, l4] S σ Q := oIfEq f_45_77 (by decide)
theorem f_45_80 : oFet 45 80 = some (.iconst 1, 1) := by decide +kernel
theorem s_45_80 {d : Nat} {l0 l1 l2 l3 l4 : oV} {S : List oV} {σ : oSg} {Q : Option oV → (Nat → oC) → Prop} : oE d 45 80 [l0, l1, l2, l3, l4] S σ Q = oE d 45 81 [l0, l1, l2, l3, l4] (.inl (1) :: S) σ Q := pKst f_45_80 (by decide)
theorem f_45_81 : oFet 45 81 = some (.ireturn, 1) := by decide +kernel
theorem s_45_81 {d : Nat} {l0 l1 l2 l3 l4 : oV} {x : Int} {σ : oSg} {Q : Option oV → (Nat → oC) → Prop} (hx : x = 0 ∨ x = 1) : oE d 45 81 [l0, l1, l2, l3, l4] [.inl x] σ Q = Q (some (.inl x)) (oBld σ) := oZret f_45_81 rt_45 hx
theorem f_45_82 : oFet 45 82 = some (.iinc 4 1, 3) := by decide +kernel
theorem s_45_82 {d : Nat} {l0 l1 l2 l3 : oV} {x : Int} {S : List oV} {σ : oSg} {Q : Option oV → (Nat → oC) → Prop} (c3 : oCat l3 = 1)  : oE d 45 82 [l0, l1, l2, l3, .inl x] S σ Q = oE d 45 85 [l0, l1, l2, l3, .inl (oAdd x (1))] S σ Q := pInc f_45_82 rfl (show (4 : Nat) < 5 by decide) (oC1n c3) (oC1n (v := .inl x) rfl) rfl
theorem f_45_85 : oFet 45 85 = some (.goto (-62), 3) := by decide +kernel
theorem s_45_85 {d : Nat} {l0 l1 l2 l3 l4 : oV} {S : List oV} {σ : oSg} {Q : Option oV → (Nat → oC) → Prop} : oE d 45 85 [l0, l1, l2, l3, l4] S σ Q = oE d 45 23 [l0, l1, l2, l3, l4] S σ Q := pGoto f_45_85 (by decide)
theorem f_45_88 : oFet 45 88 = some (.iconst 0, 1) := by decide +kernel
theorem s_45_88 {d : Nat} {l0 l1 l2 l3 l4 : oV} {S : List oV} {σ : oSg} {Q : Option oV → (Nat → oC) → Prop} : oE d 45 88 [l0, l1, l2, l3, l4] S σ Q = oE d 45 89 [l0, l1, l2, l3, l4] (.inl (0) :: S) σ Q := pKst f_45_88 (by decide)
theorem f_45_89 : oFet 45 89 = some (.ireturn, 1) := by decide +kernel
theorem s_45_89 {d : Nat} {l0 l1 l2 l3 l4 : oV} {x : Int} {σ : oSg} {Q : Option oV → (Nat → oC) → Prop} (hx : x = 0 ∨ x = 1) : oE d 45 89 [l0, l1, l2, l3, l4] [.inl x] σ Q = Q (some (.inl x)) (oBld σ) := oZret f_45_89 rt_45 hx
theorem ow_46 : (oMt 46).2.2.2.2.1 = 2 := by decide +kernel
theorem rt_46 : (oMt 46).2.2.2.1 = some .boolean := by decide +kernel
theorem nl_46 : (oMt 46).2.2.1 = 3 := by decide +kernel
theorem f_46_0 : oFet 46 0 = some (.aload_n 0, 1) := by decide +kernel
theorem s_46_0 {d : Nat} {l1 l2 : oV} {a : Nat} {S : List oV} {σ : oSg} {Q : Option oV → (Nat → oC) → Prop} : oE d 46 0 [.inr (.inr (.inl a)), l1, l2] S σ Q = oE d 46 1 [.inr (.inr (.inl a)), l1, l2] (.inr (.inr (.inl a)) :: S) σ Q := pLdN (k := 0) f_46_0 rfl rfl rfl
theorem f_46_1 : oFet 46 1 = some (.aload_n 0, 1) := by decide +kernel
theorem s_46_1 {d : Nat} {l1 l2 : oV} {a : Nat} {S : List oV} {σ : oSg} {Q : Option oV → (Nat → oC) → Prop} : oE d 46 1 [.inr (.inr (.inl a)), l1, l2] S σ Q = oE d 46 2 [.inr (.inr (.inl a)), l1, l2] (.inr (.inr (.inl a)) :: S) σ Q := pLdN (k := 0) f_46_1 rfl rfl rfl
theorem f_46_2 : oFet 46 2 = some (.getfield 19, 3) := by decide +kernel
theorem s_46_2 {d : Nat} {l0 l1 l2 : oV} {a : Nat} {S : List oV} {σ : oSg} {Q : Option oV → (Nat → oC) → Prop} (hk : oKd a = some 2) : oE d 46 2 [l0, l1, l2] (.inr (.inr (.inl a)) :: S) σ Q = oE d 46 5 [l0, l1, l2] (.inl (σ.1 a 0) :: S) σ Q := pGfI f_46_2 ow_46 fl_2_19 rfl (by decide) hk
theorem f_46_5 : oFet 46 5 = some (.iconst 1, 1) := by decide +kernel
theorem s_46_5 {d : Nat} {l0 l1 l2 : oV} {S : List oV} {σ : oSg} {Q : Option oV → (Nat → oC) → Prop} : oE d 46 5 [l0, l1, l2] S σ Q = oE d 46 6 [l0, l1, l2] (.inl (1) :: S) σ Q := pKst f_46_5 (by decide)
theorem f_46_6 : oFet 46 6 = some (.isub, 1) := by decide +kernel
theorem s_46_6 {d : Nat} {l0 l1 l2 : oV} {x y : Int} {S : List oV} {σ : oSg} {Q : Option oV → (Nat → oC) → Prop} : oE d 46 6 [l0, l1, l2] (.inl y :: .inl x :: S) σ Q = oE d 46 7 [l0, l1, l2] (.inl (oSub x y) :: S) σ Q := oS3 f_46_6 rfl rfl rfl
theorem f_46_7 : oFet 46 7 = some (.invokevirtual 55, 3) := by decide +kernel
theorem c_46_7 {d : Nat} {l0 l1 l2 : oV} {x0 : oV} {a : Nat} {v : Option oV} {τ : oSg} {S : List oV} {σ : oSg} {Q : Option oV → (Nat → oC) → Prop} (hm : oMi d 47 [.inr (.inr (.inl a)), x0] σ v τ) (hk : oKd a = some 2) (hs : oSmall S = true) : oE d 46 7 [l0, l1, l2] (x0 :: .inr (.inr (.inl a)) :: S) σ Q = oE d 46 10 [l0, l1, l2] (v.toList ++ S) τ Q := pCallV f_46_7 ow_46 lk_2_55 mt_47 rfl rfl rfl hk hs hm
theorem f_46_10 : oFet 46 10 = some (.istore_n 2, 1) := by decide +kernel
theorem s_46_10 {d : Nat} {l0 l1 l2 : oV} {x : Int} {S : List oV} {σ : oSg} {Q : Option oV → (Nat → oC) → Prop} (c2 : oCat l2 = 1) (c1 : oCat l1 = 1)  : oE d 46 10 [l0, l1, l2] (.inl x :: S) σ Q = oE d 46 11 [l0, l1, .inl x] S σ Q := pSt (i := 2) f_46_10 rfl rfl (show (2 : Nat) < 3 by decide) (oC1n c1) (oC1n c2) rfl
theorem f_46_11 : oFet 46 11 = some (.aload_n 0, 1) := by decide +kernel
theorem s_46_11 {d : Nat} {l1 l2 : oV} {a : Nat} {S : List oV} {σ : oSg} {Q : Option oV → (Nat → oC) → Prop} : oE d 46 11 [.inr (.inr (.inl a)), l1, l2] S σ Q = oE d 46 12 [.inr (.inr (.inl a)), l1, l2] (.inr (.inr (.inl a)) :: S) σ Q := pLdN (k := 0) f_46_11 rfl rfl rfl
theorem f_46_12 : oFet 46 12 = some (.getfield 23, 3) := by decide +kernel
theorem s_46_12 {d : Nat} {l0 l1 l2 : oV} {a : Nat} {S : List oV} {σ : oSg} {Q : Option oV → (Nat → oC) → Prop} (hk : oKd a = some 2) : oE d 46 12 [l0, l1, l2] (.inr (.inr (.inl a)) :: S) σ Q = oE d 46 15 [l0, l1, l2] (.inl (σ.1 a 1) :: S) σ Q := pGfI f_46_12 ow_46 fl_2_23 rfl (by decide) hk
theorem f_46_15 : oFet 46 15 = some (.iconst (-1), 1) := by decide +kernel
theorem s_46_15 {d : Nat} {l0 l1 l2 : oV} {S : List oV} {σ : oSg} {Q : Option oV → (Nat → oC) → Prop} : oE d 46 15 [l0, l1, l2] S σ Q = oE d 46 16 [l0, l1, l2] (.inl (-1) :: S) σ Q := pKst f_46_15 (by decide)
theorem f_46_16 : oFet 46 16 = some (.if_icmp .ne 11, 3) := by decide +kernel
theorem s_46_16 {d : Nat} {l0 l1 l2 : oV} {x y : Int} {S : List oV} {σ : oSg} {Q : Option oV → (Nat → oC) → Prop} : oE d 46 16 [l0, l1, l2] (.inl y :: .inl x :: S) σ Q = if ¬ x = y then oE d 46 27 [l0, l1, l2] S σ Q else oE d 46 19 [l0, l1, l2] S σ Q := oCmpNe f_46_16 (by decide)
theorem f_46_19 : oFet 46 19 = some (.aload_n 1, 1) := by decide +kernel
theorem s_46_19 {d : Nat} {l0 l2 : oV} {a : Nat} {S : List oV} {σ : oSg} {Q : Option oV → (Nat → oC) → Prop} : oE d 46 19 [l0, .inr (.inr (.inl a)), l2] S σ Q = oE d 46 20 [l0, .inr (.inr (.inl a)), l2] (.inr (.inr (.inl a)) :: S) σ Q := pLdN (k := 1) f_46_19 rfl rfl rfl
theorem f_46_20 : oFet 46 20 = some (.iload_n 2, 1) := by decide +kernel
theorem s_46_20 {d : Nat} {l0 l1 : oV} {x : Int} {S : List oV} {σ : oSg} {Q : Option oV → (Nat → oC) → Prop} : oE d 46 20 [l0, l1, .inl x] S σ Q = oE d 46 21 [l0, l1, .inl x] (.inl x :: S) σ Q := pLdN (k := 2) f_46_20 rfl rfl rfl
theorem f_46_21 : oFet 46 21 = some (.invokevirtual 51, 3) := by decide +kernel
theorem c_46_21 {d : Nat} {l0 l1 l2 : oV} {x0 : oV} {a : Nat} {v : Option oV} {τ : oSg} {S : List oV} {σ : oSg} {Q : Option oV → (Nat → oC) → Prop} (hm : oMi d 23 [.inr (.inr (.inl a)), x0] σ v τ) (hk : oKd a = some 1) (hs : oSmall S = true) : oE d 46 21 [l0, l1, l2] (x0 :: .inr (.inr (.inl a)) :: S) σ Q = oE d 46 24 [l0, l1, l2] (v.toList ++ S) τ Q := pCallV f_46_21 ow_46 lk_2_51 mt_23 rfl rfl rfl hk hs hm
theorem f_46_24 : oFet 46 24 = some (.goto 19, 3) := by decide +kernel
theorem s_46_24 {d : Nat} {l0 l1 l2 : oV} {S : List oV} {σ : oSg} {Q : Option oV → (Nat → oC) → Prop} : oE d 46 24 [l0, l1, l2] S σ Q = oE d 46 43 [l0, l1, l2] S σ Q := pGoto f_46_24 (by decide)
theorem f_46_27 : oFet 46 27 = some (.aload_n 1, 1) := by decide +kernel
theorem s_46_27 {d : Nat} {l0 l2 : oV} {a : Nat} {S : List oV} {σ : oSg} {Q : Option oV → (Nat → oC) → Prop} : oE d 46 27 [l0, .inr (.inr (.inl a)), l2] S σ Q = oE d 46 28 [l0, .inr (.inr (.inl a)), l2] (.inr (.inr (.inl a)) :: S) σ Q := pLdN (k := 1) f_46_27 rfl rfl rfl
theorem f_46_28 : oFet 46 28 = some (.getfield 34, 3) := by decide +kernel
theorem s_46_28 {d : Nat} {l0 l1 l2 : oV} {a : Nat} {S : List oV} {σ : oSg} {Q : Option oV → (Nat → oC) → Prop} (hk : oKd a = some 1) : oE d 46 28 [l0, l1, l2] (.inr (.inr (.inl a)) :: S) σ Q = oE d 46 31 [l0, l1, l2] (.inr (.inr (.inl (oRf a 0))) :: S) σ Q := pGfR f_46_28 ow_46 fl_2_34 rfl (by decide) hk
theorem f_46_31 : oFet 46 31 = some (.iload_n 2, 1) := by decide +kernel
theorem s_46_31 {d : Nat} {l0 l1 : oV} {x : Int} {S : List oV} {σ : oSg} {Q : Option oV → (Nat → oC) → Prop} : oE d 46 31 [l0, l1, .inl x] S σ Q = oE d 46 32 [l0, l1, .inl x] (.inl x :: S) σ Q := pLdN (k := 2) f_46_31 rfl rfl rfl
theorem f_46_32 : oFet 46 32 = some (.aload_n 0, 1) := by decide +kernel
theorem s_46_32 {d : Nat} {l1 l2 : oV} {a : Nat} {S : List oV} {σ : oSg} {Q : Option oV → (Nat → oC) → Prop} : oE d 46 32 [.inr (.inr (.inl a)), l1, l2] S σ Q = oE d 46 33 [.inr (.inr (.inl a)), l1, l2] (.inr (.inr (.inl a)) :: S) σ Q := pLdN (k := 0) f_46_32 rfl rfl rfl
theorem f_46_33 : oFet 46 33 = some (.aload_n 0, 1) := by decide +kernel
theorem s_46_33 {d : Nat} {l1 l2 : oV} {a : Nat} {S : List oV} {σ : oSg} {Q : Option oV → (Nat → oC) → Prop} : oE d 46 33 [.inr (.inr (.inl a)), l1, l2] S σ Q = oE d 46 34 [.inr (.inr (.inl a)), l1, l2] (.inr (.inr (.inl a)) :: S) σ Q := pLdN (k := 0) f_46_33 rfl rfl rfl
theorem f_46_34 : oFet 46 34 = some (.getfield 23, 3) := by decide +kernel
theorem s_46_34 {d : Nat} {l0 l1 l2 : oV} {a : Nat} {S : List oV} {σ : oSg} {Q : Option oV → (Nat → oC) → Prop} (hk : oKd a = some 2) : oE d 46 34 [l0, l1, l2] (.inr (.inr (.inl a)) :: S) σ Q = oE d 46 37 [l0, l1, l2] (.inl (σ.1 a 1) :: S) σ Q := pGfI f_46_34 ow_46 fl_2_23 rfl (by decide) hk
theorem f_46_37 : oFet 46 37 = some (.invokevirtual 55, 3) := by decide +kernel
theorem c_46_37 {d : Nat} {l0 l1 l2 : oV} {x0 : oV} {a : Nat} {v : Option oV} {τ : oSg} {S : List oV} {σ : oSg} {Q : Option oV → (Nat → oC) → Prop} (hm : oMi d 47 [.inr (.inr (.inl a)), x0] σ v τ) (hk : oKd a = some 2) (hs : oSmall S = true) : oE d 46 37 [l0, l1, l2] (x0 :: .inr (.inr (.inl a)) :: S) σ Q = oE d 46 40 [l0, l1, l2] (v.toList ++ S) τ Q := pCallV f_46_37 ow_46 lk_2_55 mt_47 rfl rfl rfl hk hs hm
theorem f_46_40 : oFet 46 40 = some (.invokevirtual 59, 3) := by decide +kernel
theorem c_46_40 {d : Nat} {l0 l1 l2 : oV} {x0 x1 : oV} {a : Nat} {v : Option oV} {τ : oSg} {S : List oV} {σ : oSg} {Q : Option oV → (Nat → oC) → Prop} (hm : oMi d 22 [.inr (.inr (.inl a)), x0, x1] σ v τ) (hk : oKd a = some 4) (hs : oSmall S = true) : oE d 46 40 [l0, l1, l2] (x1 :: x0 :: .inr (.inr (.inl a)) :: S) σ Q = oE d 46 43 [l0, l1, l2] (v.toList ++ S) τ Q := pCallV f_46_40 ow_46 lk_2_59 mt_22 rfl rfl rfl hk hs hm
theorem f_46_43 : oFet 46 43 = some (.ireturn, 1) := by decide +kernel
theorem s_46_43 {d : Nat} {l0 l1 l2 : oV} {x : Int} {σ : oSg} {Q : Option oV → (Nat → oC) → Prop} (hx : x = 0 ∨ x = 1) : oE d 46 43 [l0, l1, l2] [.inl x] σ Q = Q (some (.inl x)) (oBld σ) := oZret f_46_43 rt_46 hx
theorem ow_47 : (oMt 47).2.2.2.2.1 = 2 := by decide +kernel
theorem rt_47 : (oMt 47).2.2.2.1 = some .int := by decide +kernel
theorem nl_47 : (oMt 47).2.2.1 = 2 := by decide +kernel
theorem f_47_0 : oFet 47 0 = some (.iload_n 1, 1) := by decide +kernel
theorem s_47_0 {d : Nat} {l0 : oV} {x : Int} {S : List oV} {σ : oSg} {Q : Option oV → (Nat → oC) → Prop} : oE d 47 0 [l0, .inl x] S σ Q = oE d 47 1 [l0, .inl x] (.inl x :: S) σ Q := pLdN (k := 1) f_47_0 rfl rfl rfl
theorem f_47_1 : oFet 47 1 = some (.ifCond .lt 26, 3) := by decide +kernel
theorem s_47_1 {d : Nat} {l0 l1 : oV} {x : Int} {S : List oV} {σ : oSg} {Q : Option oV → (Nat → oC) → Prop} : oE d 47 1 [l0, l1] (.inl x :: S) σ Q = if x < 0 then oE d 47 27 [l0, l1] S σ Q else oE d 47 4 [l0, l1] S σ Q := oIfLt f_47_1 (by decide)
theorem f_47_4 : oFet 47 4 = some (.iload_n 1, 1) := by decide +kernel
theorem s_47_4 {d : Nat} {l0 : oV} {x : Int} {S : List oV} {σ : oSg} {Q : Option oV → (Nat → oC) → Prop} : oE d 47 4 [l0, .inl x] S σ Q = oE d 47 5 [l0, .inl x] (.inl x :: S) σ Q := pLdN (k := 1) f_47_4 rfl rfl rfl
theorem f_47_5 : oFet 47 5 = some (.aload_n 0, 1) := by decide +kernel
theorem s_47_5 {d : Nat} {l1 : oV} {a : Nat} {S : List oV} {σ : oSg} {Q : Option oV → (Nat → oC) → Prop} : oE d 47 5 [.inr (.inr (.inl a)), l1] S σ Q = oE d 47 6 [.inr (.inr (.inl a)), l1] (.inr (.inr (.inl a)) :: S) σ Q := pLdN (k := 0) f_47_5 rfl rfl rfl
theorem f_47_6 : oFet 47 6 = some (.getfield 19, 3) := by decide +kernel
theorem s_47_6 {d : Nat} {l0 l1 : oV} {a : Nat} {S : List oV} {σ : oSg} {Q : Option oV → (Nat → oC) → Prop} (hk : oKd a = some 2) : oE d 47 6 [l0, l1] (.inr (.inr (.inl a)) :: S) σ Q = oE d 47 9 [l0, l1] (.inl (σ.1 a 0) :: S) σ Q := pGfI f_47_6 ow_47 fl_2_19 rfl (by decide) hk
theorem f_47_9 : oFet 47 9 = some (.if_icmp .ge 18, 3) := by decide +kernel
theorem s_47_9 {d : Nat} {l0 l1 : oV} {x y : Int} {S : List oV} {σ : oSg} {Q : Option oV → (Nat → oC) → Prop} : oE d 47 9 [l0, l1] (.inl y :: .inl x :: S) σ Q = if y ≤ x then oE d 47 27 [l0, l1] S σ Q else oE d 47 12 [l0, l1] S σ Q := oCmpGe f_47_9 (by decide)
theorem f_47_12 : oFet 47 12 = some (.iload_n 1, 1) := by decide +kernel
theorem s_47_12 {d : Nat} {l0 : oV} {x : Int} {S : List oV} {σ : oSg} {Q : Option oV → (Nat → oC) → Prop} : oE d 47 12 [l0, .inl x] S σ Q = oE d 47 13 [l0, .inl x] (.inl x :: S) σ Q := pLdN (k := 1) f_47_12 rfl rfl rfl
theorem f_47_13 : oFet 47 13 = some (.bipush 7, 2) := by decide +kernel
theorem s_47_13 {d : Nat} {l0 l1 : oV} {S : List oV} {σ : oSg} {Q : Option oV → (Nat → oC) → Prop} : oE d 47 13 [l0, l1] S σ Q = oE d 47 15 [l0, l1] (.inl (7) :: S) σ Q := pBip f_47_13 (by decide)
theorem f_47_15 : oFet 47 15 = some (.if_icmp .ge 12, 3) := by decide +kernel
theorem s_47_15 {d : Nat} {l0 l1 : oV} {x y : Int} {S : List oV} {σ : oSg} {Q : Option oV → (Nat → oC) → Prop} : oE d 47 15 [l0, l1] (.inl y :: .inl x :: S) σ Q = if y ≤ x then oE d 47 27 [l0, l1] S σ Q else oE d 47 18 [l0, l1] S σ Q := oCmpGe f_47_15 (by decide)
theorem f_47_18 : oFet 47 18 = some (.aload_n 0, 1) := by decide +kernel
theorem s_47_18 {d : Nat} {l1 : oV} {a : Nat} {S : List oV} {σ : oSg} {Q : Option oV → (Nat → oC) → Prop} : oE d 47 18 [.inr (.inr (.inl a)), l1] S σ Q = oE d 47 19 [.inr (.inr (.inl a)), l1] (.inr (.inr (.inl a)) :: S) σ Q := pLdN (k := 0) f_47_18 rfl rfl rfl
theorem f_47_19 : oFet 47 19 = some (.getfield 9, 3) := by decide +kernel
theorem s_47_19 {d : Nat} {l0 l1 : oV} {a : Nat} {S : List oV} {σ : oSg} {Q : Option oV → (Nat → oC) → Prop} (hk : oKd a = some 2) : oE d 47 19 [l0, l1] (.inr (.inr (.inl a)) :: S) σ Q = oE d 47 22 [l0, l1] (.inr (.inr (.inl (oRf a 2))) :: S) σ Q := pGfR f_47_19 ow_47 fl_2_9 rfl (by decide) hk
theorem f_47_22 : oFet 47 22 = some (.iload_n 1, 1) := by decide +kernel
theorem s_47_22 {d : Nat} {l0 : oV} {x : Int} {S : List oV} {σ : oSg} {Q : Option oV → (Nat → oC) → Prop} : oE d 47 22 [l0, .inl x] S σ Q = oE d 47 23 [l0, .inl x] (.inl x :: S) σ Q := pLdN (k := 1) f_47_22 rfl rfl rfl
theorem f_47_23 : oFet 47 23 = some (.iaload, 1) := by decide +kernel
theorem s_47_23 {d : Nat} {l0 l1 : oV} {a : Nat} {i : Int} {S : List oV} {σ : oSg} {Q : Option oV → (Nat → oC) → Prop} (hk : oAk a = some 0) (h0 : 0 ≤ i) (h1 : i < (oLn a : Int)) : oE d 47 23 [l0, l1] (.inl i :: .inr (.inr (.inl a)) :: S) σ Q = oE d 47 24 [l0, l1] (.inl (σ.2 a i.toNat) :: S) σ Q := oIal f_47_23 hk h0 h1
theorem f_47_24 : oFet 47 24 = some (.goto 4, 3) := by decide +kernel
theorem s_47_24 {d : Nat} {l0 l1 : oV} {S : List oV} {σ : oSg} {Q : Option oV → (Nat → oC) → Prop} : oE d 47 24 [l0, l1] S σ Q = oE d 47 28 [l0, l1] S σ Q := pGoto f_47_24 (by decide)
theorem f_47_27 : oFet 47 27 = some (.iconst (-1), 1) := by decide +kernel
theorem s_47_27 {d : Nat} {l0 l1 : oV} {S : List oV} {σ : oSg} {Q : Option oV → (Nat → oC) → Prop} : oE d 47 27 [l0, l1] S σ Q = oE d 47 28 [l0, l1] (.inl (-1) :: S) σ Q := pKst f_47_27 (by decide)
theorem f_47_28 : oFet 47 28 = some (.ireturn, 1) := by decide +kernel
theorem s_47_28 {d : Nat} {l0 l1 : oV} {x : Int} {σ : oSg} {Q : Option oV → (Nat → oC) → Prop} : oE d 47 28 [l0, l1] [.inl x] σ Q = Q (some (.inl x)) (oBld σ) := oIret f_47_28 rt_47
theorem ow_48 : (oMt 48).2.2.2.2.1 = 2 := by decide +kernel
theorem rt_48 : (oMt 48).2.2.2.1 = some .boolean := by decide +kernel
theorem nl_48 : (oMt 48).2.2.1 = 5 := by decide +kernel
theorem f_48_0 : oFet 48 0 = some (.iload_n 2, 1) := by decide +kernel
theorem s_48_0 {d : Nat} {l0 l1 l3 l4 : oV} {x : Int} {S : List oV} {σ : oSg} {Q : Option oV → (Nat → oC) → Prop} : oE d 48 0 [l0, l1, .inl x, l3, l4] S σ Q = oE d 48 1 [l0, l1, .inl x, l3, l4] (.inl x :: S) σ Q := pLdN (k := 2) f_48_0 rfl rfl rfl
theorem f_48_1 : oFet 48 1 = some (.ifCond .ne 9, 3) := by decide +kernel
theorem s_48_1 {d : Nat} {l0 l1 l2 l3 l4 : oV} {x : Int} {S : List oV} {σ : oSg} {Q : Option oV → (Nat → oC) → Prop} : oE d 48 1 [l0, l1, l2, l3, l4] (.inl x :: S) σ Q = if ¬ x = 0 then oE d 48 10 [l0, l1, l2, l3, l4] S σ Q else oE d 48 4 [l0, l1, l2, l3, l4] S σ Q := oIfNe f_48_1 (by decide)
theorem f_48_4 : oFet 48 4 = some (.aload_n 1, 1) := by decide +kernel
theorem s_48_4 {d : Nat} {l0 l2 l3 l4 : oV} {a : Nat} {S : List oV} {σ : oSg} {Q : Option oV → (Nat → oC) → Prop} : oE d 48 4 [l0, .inr (.inr (.inl a)), l2, l3, l4] S σ Q = oE d 48 5 [l0, .inr (.inr (.inl a)), l2, l3, l4] (.inr (.inr (.inl a)) :: S) σ Q := pLdN (k := 1) f_48_4 rfl rfl rfl
theorem f_48_5 : oFet 48 5 = some (.iload_n 3, 1) := by decide +kernel
theorem s_48_5 {d : Nat} {l0 l1 l2 l4 : oV} {x : Int} {S : List oV} {σ : oSg} {Q : Option oV → (Nat → oC) → Prop} : oE d 48 5 [l0, l1, l2, .inl x, l4] S σ Q = oE d 48 6 [l0, l1, l2, .inl x, l4] (.inl x :: S) σ Q := pLdN (k := 3) f_48_5 rfl rfl rfl
theorem f_48_6 : oFet 48 6 = some (.invokevirtual 51, 3) := by decide +kernel
theorem c_48_6 {d : Nat} {l0 l1 l2 l3 l4 : oV} {x0 : oV} {a : Nat} {v : Option oV} {τ : oSg} {S : List oV} {σ : oSg} {Q : Option oV → (Nat → oC) → Prop} (hm : oMi d 23 [.inr (.inr (.inl a)), x0] σ v τ) (hk : oKd a = some 1) (hs : oSmall S = true) : oE d 48 6 [l0, l1, l2, l3, l4] (x0 :: .inr (.inr (.inl a)) :: S) σ Q = oE d 48 9 [l0, l1, l2, l3, l4] (v.toList ++ S) τ Q := pCallV f_48_6 ow_48 lk_2_51 mt_23 rfl rfl rfl hk hs hm
theorem f_48_9 : oFet 48 9 = some (.ireturn, 1) := by decide +kernel
theorem s_48_9 {d : Nat} {l0 l1 l2 l3 l4 : oV} {x : Int} {σ : oSg} {Q : Option oV → (Nat → oC) → Prop} (hx : x = 0 ∨ x = 1) : oE d 48 9 [l0, l1, l2, l3, l4] [.inl x] σ Q = Q (some (.inl x)) (oBld σ) := oZret f_48_9 rt_48 hx
theorem f_48_10 : oFet 48 10 = some (.aload_n 0, 1) := by decide +kernel
theorem s_48_10 {d : Nat} {l1 l2 l3 l4 : oV} {a : Nat} {S : List oV} {σ : oSg} {Q : Option oV → (Nat → oC) → Prop} : oE d 48 10 [.inr (.inr (.inl a)), l1, l2, l3, l4] S σ Q = oE d 48 11 [.inr (.inr (.inl a)), l1, l2, l3, l4] (.inr (.inr (.inl a)) :: S) σ Q := pLdN (k := 0) f_48_10 rfl rfl rfl
theorem f_48_11 : oFet 48 11 = some (.iload_n 2, 1) := by decide +kernel
theorem s_48_11 {d : Nat} {l0 l1 l3 l4 : oV} {x : Int} {S : List oV} {σ : oSg} {Q : Option oV → (Nat → oC) → Prop} : oE d 48 11 [l0, l1, .inl x, l3, l4] S σ Q = oE d 48 12 [l0, l1, .inl x, l3, l4] (.inl x :: S) σ Q := pLdN (k := 2) f_48_11 rfl rfl rfl
theorem f_48_12 : oFet 48 12 = some (.iconst 1, 1) := by decide +kernel
theorem s_48_12 {d : Nat} {l0 l1 l2 l3 l4 : oV} {S : List oV} {σ : oSg} {Q : Option oV → (Nat → oC) → Prop} : oE d 48 12 [l0, l1, l2, l3, l4] S σ Q = oE d 48 13 [l0, l1, l2, l3, l4] (.inl (1) :: S) σ Q := pKst f_48_12 (by decide)
theorem f_48_13 : oFet 48 13 = some (.isub, 1) := by decide +kernel
theorem s_48_13 {d : Nat} {l0 l1 l2 l3 l4 : oV} {x y : Int} {S : List oV} {σ : oSg} {Q : Option oV → (Nat → oC) → Prop} : oE d 48 13 [l0, l1, l2, l3, l4] (.inl y :: .inl x :: S) σ Q = oE d 48 14 [l0, l1, l2, l3, l4] (.inl (oSub x y) :: S) σ Q := oS3 f_48_13 rfl rfl rfl
theorem f_48_14 : oFet 48 14 = some (.invokevirtual 55, 3) := by decide +kernel
theorem c_48_14 {d : Nat} {l0 l1 l2 l3 l4 : oV} {x0 : oV} {a : Nat} {v : Option oV} {τ : oSg} {S : List oV} {σ : oSg} {Q : Option oV → (Nat → oC) → Prop} (hm : oMi d 47 [.inr (.inr (.inl a)), x0] σ v τ) (hk : oKd a = some 2) (hs : oSmall S = true) : oE d 48 14 [l0, l1, l2, l3, l4] (x0 :: .inr (.inr (.inl a)) :: S) σ Q = oE d 48 17 [l0, l1, l2, l3, l4] (v.toList ++ S) τ Q := pCallV f_48_14 ow_48 lk_2_55 mt_47 rfl rfl rfl hk hs hm
theorem f_48_17 : oFet 48 17 = some (.istore 4, 2) := by decide +kernel
theorem s_48_17 {d : Nat} {l0 l1 l2 l3 l4 : oV} {x : Int} {S : List oV} {σ : oSg} {Q : Option oV → (Nat → oC) → Prop} (c4 : oCat l4 = 1) (c3 : oCat l3 = 1)  : oE d 48 17 [l0, l1, l2, l3, l4] (.inl x :: S) σ Q = oE d 48 19 [l0, l1, l2, l3, .inl x] S σ Q := pSt (i := 4) f_48_17 rfl rfl (show (4 : Nat) < 5 by decide) (oC1n c3) (oC1n c4) rfl
theorem f_48_19 : oFet 48 19 = some (.iload_n 2, 1) := by decide +kernel
theorem s_48_19 {d : Nat} {l0 l1 l3 l4 : oV} {x : Int} {S : List oV} {σ : oSg} {Q : Option oV → (Nat → oC) → Prop} : oE d 48 19 [l0, l1, .inl x, l3, l4] S σ Q = oE d 48 20 [l0, l1, .inl x, l3, l4] (.inl x :: S) σ Q := pLdN (k := 2) f_48_19 rfl rfl rfl
theorem f_48_20 : oFet 48 20 = some (.iconst 2, 1) := by decide +kernel
theorem s_48_20 {d : Nat} {l0 l1 l2 l3 l4 : oV} {S : List oV} {σ : oSg} {Q : Option oV → (Nat → oC) → Prop} : oE d 48 20 [l0, l1, l2, l3, l4] S σ Q = oE d 48 21 [l0, l1, l2, l3, l4] (.inl (2) :: S) σ Q := pKst f_48_20 (by decide)
theorem f_48_21 : oFet 48 21 = some (.irem, 1) := by decide +kernel
theorem s_48_21 {d : Nat} {l0 l1 l2 l3 l4 : oV} {x y : Int} {S : List oV} {σ : oSg} {Q : Option oV → (Nat → oC) → Prop} (hy : y ≠ 0) : oE d 48 21 [l0, l1, l2, l3, l4] (.inl y :: .inl x :: S) σ Q = oE d 48 22 [l0, l1, l2, l3, l4] (.inl (oRem x y) :: S) σ Q := pRem f_48_21 hy
theorem f_48_22 : oFet 48 22 = some (.iconst 1, 1) := by decide +kernel
theorem s_48_22 {d : Nat} {l0 l1 l2 l3 l4 : oV} {S : List oV} {σ : oSg} {Q : Option oV → (Nat → oC) → Prop} : oE d 48 22 [l0, l1, l2, l3, l4] S σ Q = oE d 48 23 [l0, l1, l2, l3, l4] (.inl (1) :: S) σ Q := pKst f_48_22 (by decide)
theorem f_48_23 : oFet 48 23 = some (.if_icmp .ne 16, 3) := by decide +kernel
theorem s_48_23 {d : Nat} {l0 l1 l2 l3 l4 : oV} {x y : Int} {S : List oV} {σ : oSg} {Q : Option oV → (Nat → oC) → Prop} : oE d 48 23 [l0, l1, l2, l3, l4] (.inl y :: .inl x :: S) σ Q = if ¬ x = y then oE d 48 39 [l0, l1, l2, l3, l4] S σ Q else oE d 48 26 [l0, l1, l2, l3, l4] S σ Q := oCmpNe f_48_23 (by decide)
theorem f_48_26 : oFet 48 26 = some (.aload_n 1, 1) := by decide +kernel
theorem s_48_26 {d : Nat} {l0 l2 l3 l4 : oV} {a : Nat} {S : List oV} {σ : oSg} {Q : Option oV → (Nat → oC) → Prop} : oE d 48 26 [l0, .inr (.inr (.inl a)), l2, l3, l4] S σ Q = oE d 48 27 [l0, .inr (.inr (.inl a)), l2, l3, l4] (.inr (.inr (.inl a)) :: S) σ Q := pLdN (k := 1) f_48_26 rfl rfl rfl
theorem f_48_27 : oFet 48 27 = some (.getfield 34, 3) := by decide +kernel
theorem s_48_27 {d : Nat} {l0 l1 l2 l3 l4 : oV} {a : Nat} {S : List oV} {σ : oSg} {Q : Option oV → (Nat → oC) → Prop} (hk : oKd a = some 1) : oE d 48 27 [l0, l1, l2, l3, l4] (.inr (.inr (.inl a)) :: S) σ Q = oE d 48 30 [l0, l1, l2, l3, l4] (.inr (.inr (.inl (oRf a 0))) :: S) σ Q := pGfR f_48_27 ow_48 fl_2_34 rfl (by decide) hk
theorem f_48_30 : oFet 48 30 = some (.iload 4, 2) := by decide +kernel
theorem s_48_30 {d : Nat} {l0 l1 l2 l3 : oV} {x : Int} {S : List oV} {σ : oSg} {Q : Option oV → (Nat → oC) → Prop} : oE d 48 30 [l0, l1, l2, l3, .inl x] S σ Q = oE d 48 32 [l0, l1, l2, l3, .inl x] (.inl x :: S) σ Q := pLd (i := 4) f_48_30 rfl rfl rfl
theorem f_48_32 : oFet 48 32 = some (.iload_n 3, 1) := by decide +kernel
theorem s_48_32 {d : Nat} {l0 l1 l2 l4 : oV} {x : Int} {S : List oV} {σ : oSg} {Q : Option oV → (Nat → oC) → Prop} : oE d 48 32 [l0, l1, l2, .inl x, l4] S σ Q = oE d 48 33 [l0, l1, l2, .inl x, l4] (.inl x :: S) σ Q := pLdN (k := 3) f_48_32 rfl rfl rfl
theorem f_48_33 : oFet 48 33 = some (.invokevirtual 59, 3) := by decide +kernel
theorem c_48_33 {d : Nat} {l0 l1 l2 l3 l4 : oV} {x0 x1 : oV} {a : Nat} {v : Option oV} {τ : oSg} {S : List oV} {σ : oSg} {Q : Option oV → (Nat → oC) → Prop} (hm : oMi d 22 [.inr (.inr (.inl a)), x0, x1] σ v τ) (hk : oKd a = some 4) (hs : oSmall S = true) : oE d 48 33 [l0, l1, l2, l3, l4] (x1 :: x0 :: .inr (.inr (.inl a)) :: S) σ Q = oE d 48 36 [l0, l1, l2, l3, l4] (v.toList ++ S) τ Q := pCallV f_48_33 ow_48 lk_2_59 mt_22 rfl rfl rfl hk hs hm
theorem f_48_36 : oFet 48 36 = some (.goto 18, 3) := by decide +kernel
theorem s_48_36 {d : Nat} {l0 l1 l2 l3 l4 : oV} {S : List oV} {σ : oSg} {Q : Option oV → (Nat → oC) → Prop} : oE d 48 36 [l0, l1, l2, l3, l4] S σ Q = oE d 48 54 [l0, l1, l2, l3, l4] S σ Q := pGoto f_48_36 (by decide)
theorem f_48_39 : oFet 48 39 = some (.aload_n 1, 1) := by decide +kernel
theorem s_48_39 {d : Nat} {l0 l2 l3 l4 : oV} {a : Nat} {S : List oV} {σ : oSg} {Q : Option oV → (Nat → oC) → Prop} : oE d 48 39 [l0, .inr (.inr (.inl a)), l2, l3, l4] S σ Q = oE d 48 40 [l0, .inr (.inr (.inl a)), l2, l3, l4] (.inr (.inr (.inl a)) :: S) σ Q := pLdN (k := 1) f_48_39 rfl rfl rfl
theorem f_48_40 : oFet 48 40 = some (.iload 4, 2) := by decide +kernel
theorem s_48_40 {d : Nat} {l0 l1 l2 l3 : oV} {x : Int} {S : List oV} {σ : oSg} {Q : Option oV → (Nat → oC) → Prop} : oE d 48 40 [l0, l1, l2, l3, .inl x] S σ Q = oE d 48 42 [l0, l1, l2, l3, .inl x] (.inl x :: S) σ Q := pLd (i := 4) f_48_40 rfl rfl rfl
theorem f_48_42 : oFet 48 42 = some (.invokevirtual 62, 3) := by decide +kernel
theorem c_48_42 {d : Nat} {l0 l1 l2 l3 l4 : oV} {x0 : oV} {a : Nat} {v : Option oV} {τ : oSg} {S : List oV} {σ : oSg} {Q : Option oV → (Nat → oC) → Prop} (hm : oMi d 18 [.inr (.inr (.inl a)), x0] σ v τ) (hk : oKd a = some 1) (hs : oSmall S = true) : oE d 48 42 [l0, l1, l2, l3, l4] (x0 :: .inr (.inr (.inl a)) :: S) σ Q = oE d 48 45 [l0, l1, l2, l3, l4] (v.toList ++ S) τ Q := pCallV f_48_42 ow_48 lk_2_62 mt_18 rfl rfl rfl hk hs hm
theorem f_48_45 : oFet 48 45 = some (.iload_n 3, 1) := by decide +kernel
theorem s_48_45 {d : Nat} {l0 l1 l2 l4 : oV} {x : Int} {S : List oV} {σ : oSg} {Q : Option oV → (Nat → oC) → Prop} : oE d 48 45 [l0, l1, l2, .inl x, l4] S σ Q = oE d 48 46 [l0, l1, l2, .inl x, l4] (.inl x :: S) σ Q := pLdN (k := 3) f_48_45 rfl rfl rfl
theorem f_48_46 : oFet 48 46 = some (.if_icmp .ne 7, 3) := by decide +kernel
theorem s_48_46 {d : Nat} {l0 l1 l2 l3 l4 : oV} {x y : Int} {S : List oV} {σ : oSg} {Q : Option oV → (Nat → oC) → Prop} : oE d 48 46 [l0, l1, l2, l3, l4] (.inl y :: .inl x :: S) σ Q = if ¬ x = y then oE d 48 53 [l0, l1, l2, l3, l4] S σ Q else oE d 48 49 [l0, l1, l2, l3, l4] S σ Q := oCmpNe f_48_46 (by decide)
theorem f_48_49 : oFet 48 49 = some (.iconst 1, 1) := by decide +kernel
theorem s_48_49 {d : Nat} {l0 l1 l2 l3 l4 : oV} {S : List oV} {σ : oSg} {Q : Option oV → (Nat → oC) → Prop} : oE d 48 49 [l0, l1, l2, l3, l4] S σ Q = oE d 48 50 [l0, l1, l2, l3, l4] (.inl (1) :: S) σ Q := pKst f_48_49 (by decide)
theorem f_48_50 : oFet 48 50 = some (.goto 4, 3) := by decide +kernel
theorem s_48_50 {d : Nat} {l0 l1 l2 l3 l4 : oV} {S : List oV} {σ : oSg} {Q : Option oV → (Nat → oC) → Prop} : oE d 48 50 [l0, l1, l2, l3, l4] S σ Q = oE d 48 54 [l0, l1, l2, l3, l4] S σ Q := pGoto f_48_50 (by decide)
theorem f_48_53 : oFet 48 53 = some (.iconst 0, 1) := by decide +kernel
theorem s_48_53 {d : Nat} {l0 l1 l2 l3 l4 : oV} {S : List oV} {σ : oSg} {Q : Option oV → (Nat → oC) → Prop} : oE d 48 53 [l0, l1, l2, l3, l4] S σ Q = oE d 48 54 [l0, l1, l2, l3, l4] (.inl (0) :: S) σ Q := pKst f_48_53 (by decide)
theorem f_48_54 : oFet 48 54 = some (.ireturn, 1) := by decide +kernel
theorem s_48_54 {d : Nat} {l0 l1 l2 l3 l4 : oV} {x : Int} {σ : oSg} {Q : Option oV → (Nat → oC) → Prop} (hx : x = 0 ∨ x = 1) : oE d 48 54 [l0, l1, l2, l3, l4] [.inl x] σ Q = Q (some (.inl x)) (oBld σ) := oZret f_48_54 rt_48 hx
theorem ow_49 : (oMt 49).2.2.2.2.1 = 1 := by decide +kernel
theorem rt_49 : (oMt 49).2.2.2.1 = none := by decide +kernel
theorem nl_49 : (oMt 49).2.2.1 = 3 := by decide +kernel
theorem f_49_0 : oFet 49 0 = some (.iconst 0, 1) := by decide +kernel
theorem s_49_0 {d : Nat} {l0 l1 l2 : oV} {S : List oV} {σ : oSg} {Q : Option oV → (Nat → oC) → Prop} : oE d 49 0 [l0, l1, l2] S σ Q = oE d 49 1 [l0, l1, l2] (.inl (0) :: S) σ Q := pKst f_49_0 (by decide)
theorem f_49_1 : oFet 49 1 = some (.istore_n 2, 1) := by decide +kernel
theorem s_49_1 {d : Nat} {l0 l1 l2 : oV} {x : Int} {S : List oV} {σ : oSg} {Q : Option oV → (Nat → oC) → Prop} (c2 : oCat l2 = 1) (c1 : oCat l1 = 1)  : oE d 49 1 [l0, l1, l2] (.inl x :: S) σ Q = oE d 49 2 [l0, l1, .inl x] S σ Q := pSt (i := 2) f_49_1 rfl rfl (show (2 : Nat) < 3 by decide) (oC1n c1) (oC1n c2) rfl
theorem f_49_2 : oFet 49 2 = some (.iload_n 2, 1) := by decide +kernel
theorem s_49_2 {d : Nat} {l0 l1 : oV} {x : Int} {S : List oV} {σ : oSg} {Q : Option oV → (Nat → oC) → Prop} : oE d 49 2 [l0, l1, .inl x] S σ Q = oE d 49 3 [l0, l1, .inl x] (.inl x :: S) σ Q := pLdN (k := 2) f_49_2 rfl rfl rfl
theorem f_49_3 : oFet 49 3 = some (.iconst 1, 1) := by decide +kernel
theorem s_49_3 {d : Nat} {l0 l1 l2 : oV} {S : List oV} {σ : oSg} {Q : Option oV → (Nat → oC) → Prop} : oE d 49 3 [l0, l1, l2] S σ Q = oE d 49 4 [l0, l1, l2] (.inl (1) :: S) σ Q := pKst f_49_3 (by decide)
theorem f_49_4 : oFet 49 4 = some (.iadd, 1) := by decide +kernel
theorem s_49_4 {d : Nat} {l0 l1 l2 : oV} {x y : Int} {S : List oV} {σ : oSg} {Q : Option oV → (Nat → oC) → Prop} : oE d 49 4 [l0, l1, l2] (.inl y :: .inl x :: S) σ Q = oE d 49 5 [l0, l1, l2] (.inl (oAdd x y) :: S) σ Q := oS3 f_49_4 rfl rfl rfl
theorem f_49_5 : oFet 49 5 = some (.aload_n 1, 1) := by decide +kernel
theorem s_49_5 {d : Nat} {l0 l2 : oV} {a : Nat} {S : List oV} {σ : oSg} {Q : Option oV → (Nat → oC) → Prop} : oE d 49 5 [l0, .inr (.inr (.inl a)), l2] S σ Q = oE d 49 6 [l0, .inr (.inr (.inl a)), l2] (.inr (.inr (.inl a)) :: S) σ Q := pLdN (k := 1) f_49_5 rfl rfl rfl
theorem f_49_6 : oFet 49 6 = some (.getfield 64, 3) := by decide +kernel
theorem s_49_6 {d : Nat} {l0 l1 l2 : oV} {a : Nat} {S : List oV} {σ : oSg} {Q : Option oV → (Nat → oC) → Prop} (hk : oKd a = some 2) : oE d 49 6 [l0, l1, l2] (.inr (.inr (.inl a)) :: S) σ Q = oE d 49 9 [l0, l1, l2] (.inl (σ.1 a 0) :: S) σ Q := pGfI f_49_6 ow_49 fl_1_64 rfl (by decide) hk
theorem f_49_9 : oFet 49 9 = some (.if_icmp .ge 25, 3) := by decide +kernel
theorem s_49_9 {d : Nat} {l0 l1 l2 : oV} {x y : Int} {S : List oV} {σ : oSg} {Q : Option oV → (Nat → oC) → Prop} : oE d 49 9 [l0, l1, l2] (.inl y :: .inl x :: S) σ Q = if y ≤ x then oE d 49 34 [l0, l1, l2] S σ Q else oE d 49 12 [l0, l1, l2] S σ Q := oCmpGe f_49_9 (by decide)
theorem f_49_12 : oFet 49 12 = some (.aload_n 0, 1) := by decide +kernel
theorem s_49_12 {d : Nat} {l1 l2 : oV} {a : Nat} {S : List oV} {σ : oSg} {Q : Option oV → (Nat → oC) → Prop} : oE d 49 12 [.inr (.inr (.inl a)), l1, l2] S σ Q = oE d 49 13 [.inr (.inr (.inl a)), l1, l2] (.inr (.inr (.inl a)) :: S) σ Q := pLdN (k := 0) f_49_12 rfl rfl rfl
theorem f_49_13 : oFet 49 13 = some (.aload_n 1, 1) := by decide +kernel
theorem s_49_13 {d : Nat} {l0 l2 : oV} {a : Nat} {S : List oV} {σ : oSg} {Q : Option oV → (Nat → oC) → Prop} : oE d 49 13 [l0, .inr (.inr (.inl a)), l2] S σ Q = oE d 49 14 [l0, .inr (.inr (.inl a)), l2] (.inr (.inr (.inl a)) :: S) σ Q := pLdN (k := 1) f_49_13 rfl rfl rfl
theorem f_49_14 : oFet 49 14 = some (.iload_n 2, 1) := by decide +kernel
theorem s_49_14 {d : Nat} {l0 l1 : oV} {x : Int} {S : List oV} {σ : oSg} {Q : Option oV → (Nat → oC) → Prop} : oE d 49 14 [l0, l1, .inl x] S σ Q = oE d 49 15 [l0, l1, .inl x] (.inl x :: S) σ Q := pLdN (k := 2) f_49_14 rfl rfl rfl
theorem f_49_15 : oFet 49 15 = some (.invokevirtual 70, 3) := by decide +kernel
theorem c_49_15 {d : Nat} {l0 l1 l2 : oV} {x0 : oV} {a : Nat} {v : Option oV} {τ : oSg} {S : List oV} {σ : oSg} {Q : Option oV → (Nat → oC) → Prop} (hm : oMi d 47 [.inr (.inr (.inl a)), x0] σ v τ) (hk : oKd a = some 2) (hs : oSmall S = true) : oE d 49 15 [l0, l1, l2] (x0 :: .inr (.inr (.inl a)) :: S) σ Q = oE d 49 18 [l0, l1, l2] (v.toList ++ S) τ Q := pCallV f_49_15 ow_49 lk_1_70 mt_47 rfl rfl rfl hk hs hm
theorem f_49_18 : oFet 49 18 = some (.aload_n 1, 1) := by decide +kernel
theorem s_49_18 {d : Nat} {l0 l2 : oV} {a : Nat} {S : List oV} {σ : oSg} {Q : Option oV → (Nat → oC) → Prop} : oE d 49 18 [l0, .inr (.inr (.inl a)), l2] S σ Q = oE d 49 19 [l0, .inr (.inr (.inl a)), l2] (.inr (.inr (.inl a)) :: S) σ Q := pLdN (k := 1) f_49_18 rfl rfl rfl
theorem f_49_19 : oFet 49 19 = some (.iload_n 2, 1) := by decide +kernel
theorem s_49_19 {d : Nat} {l0 l1 : oV} {x : Int} {S : List oV} {σ : oSg} {Q : Option oV → (Nat → oC) → Prop} : oE d 49 19 [l0, l1, .inl x] S σ Q = oE d 49 20 [l0, l1, .inl x] (.inl x :: S) σ Q := pLdN (k := 2) f_49_19 rfl rfl rfl
theorem f_49_20 : oFet 49 20 = some (.iconst 1, 1) := by decide +kernel
theorem s_49_20 {d : Nat} {l0 l1 l2 : oV} {S : List oV} {σ : oSg} {Q : Option oV → (Nat → oC) → Prop} : oE d 49 20 [l0, l1, l2] S σ Q = oE d 49 21 [l0, l1, l2] (.inl (1) :: S) σ Q := pKst f_49_20 (by decide)
theorem f_49_21 : oFet 49 21 = some (.iadd, 1) := by decide +kernel
theorem s_49_21 {d : Nat} {l0 l1 l2 : oV} {x y : Int} {S : List oV} {σ : oSg} {Q : Option oV → (Nat → oC) → Prop} : oE d 49 21 [l0, l1, l2] (.inl y :: .inl x :: S) σ Q = oE d 49 22 [l0, l1, l2] (.inl (oAdd x y) :: S) σ Q := oS3 f_49_21 rfl rfl rfl
theorem f_49_22 : oFet 49 22 = some (.invokevirtual 70, 3) := by decide +kernel
theorem c_49_22 {d : Nat} {l0 l1 l2 : oV} {x0 : oV} {a : Nat} {v : Option oV} {τ : oSg} {S : List oV} {σ : oSg} {Q : Option oV → (Nat → oC) → Prop} (hm : oMi d 47 [.inr (.inr (.inl a)), x0] σ v τ) (hk : oKd a = some 2) (hs : oSmall S = true) : oE d 49 22 [l0, l1, l2] (x0 :: .inr (.inr (.inl a)) :: S) σ Q = oE d 49 25 [l0, l1, l2] (v.toList ++ S) τ Q := pCallV f_49_22 ow_49 lk_1_70 mt_47 rfl rfl rfl hk hs hm
theorem f_49_25 : oFet 49 25 = some (.invokevirtual 73, 3) := by decide +kernel
theorem c_49_25 {d : Nat} {l0 l1 l2 : oV} {x0 x1 : oV} {a : Nat} {v : Option oV} {τ : oSg} {S : List oV} {σ : oSg} {Q : Option oV → (Nat → oC) → Prop} (hm : oMi d 24 [.inr (.inr (.inl a)), x0, x1] σ v τ) (hk : oKd a = some 1) (hs : oSmall S = true) : oE d 49 25 [l0, l1, l2] (x1 :: x0 :: .inr (.inr (.inl a)) :: S) σ Q = oE d 49 28 [l0, l1, l2] (v.toList ++ S) τ Q := pCallV f_49_25 ow_49 lk_1_73 mt_24 rfl rfl rfl hk hs hm
theorem f_49_28 : oFet 49 28 = some (.iinc 2 2, 3) := by decide +kernel
theorem s_49_28 {d : Nat} {l0 l1 : oV} {x : Int} {S : List oV} {σ : oSg} {Q : Option oV → (Nat → oC) → Prop} (c1 : oCat l1 = 1)  : oE d 49 28 [l0, l1, .inl x] S σ Q = oE d 49 31 [l0, l1, .inl (oAdd x (2))] S σ Q := pInc f_49_28 rfl (show (2 : Nat) < 3 by decide) (oC1n c1) (oC1n (v := .inl x) rfl) rfl
theorem f_49_31 : oFet 49 31 = some (.goto (-29), 3) := by decide +kernel
theorem s_49_31 {d : Nat} {l0 l1 l2 : oV} {S : List oV} {σ : oSg} {Q : Option oV → (Nat → oC) → Prop} : oE d 49 31 [l0, l1, l2] S σ Q = oE d 49 2 [l0, l1, l2] S σ Q := pGoto f_49_31 (by decide)
theorem f_49_34 : oFet 49 34 = some (.return_, 1) := by decide +kernel
theorem s_49_34 {d : Nat} {l0 l1 l2 : oV} {σ : oSg} {Q : Option oV → (Nat → oC) → Prop} : oE d 49 34 [l0, l1, l2] [] σ Q = Q none (oBld σ) := oVret f_49_34 rt_49
theorem ow_50 : (oMt 50).2.2.2.2.1 = 10 := by decide +kernel
theorem rt_50 : (oMt 50).2.2.2.1 = some .int := by decide +kernel
theorem nl_50 : (oMt 50).2.2.1 = 2 := by decide +kernel
theorem f_50_0 : oFet 50 0 = some (.aload_n 0, 1) := by decide +kernel
theorem s_50_0 {d : Nat} {l1 : oV} {a : Nat} {S : List oV} {σ : oSg} {Q : Option oV → (Nat → oC) → Prop} : oE d 50 0 [.inr (.inr (.inl a)), l1] S σ Q = oE d 50 1 [.inr (.inr (.inl a)), l1] (.inr (.inr (.inl a)) :: S) σ Q := pLdN (k := 0) f_50_0 rfl rfl rfl
theorem f_50_1 : oFet 50 1 = some (.getfield 12, 3) := by decide +kernel
theorem s_50_1 {d : Nat} {l0 l1 : oV} {a : Nat} {S : List oV} {σ : oSg} {Q : Option oV → (Nat → oC) → Prop} (hk : oKd a = some 10) : oE d 50 1 [l0, l1] (.inr (.inr (.inl a)) :: S) σ Q = oE d 50 4 [l0, l1] (.inr (.inr (.inl (oRf a 0))) :: S) σ Q := pGfR f_50_1 ow_50 fl_10_12 rfl (by decide) hk
theorem f_50_4 : oFet 50 4 = some (.getfield 73, 3) := by decide +kernel
theorem s_50_4 {d : Nat} {l0 l1 : oV} {a : Nat} {S : List oV} {σ : oSg} {Q : Option oV → (Nat → oC) → Prop} (hk : oKd a = some 1) : oE d 50 4 [l0, l1] (.inr (.inr (.inl a)) :: S) σ Q = oE d 50 7 [l0, l1] (.inr (.inr (.inl (oRf a 0))) :: S) σ Q := pGfR f_50_4 ow_50 fl_10_73 rfl (by decide) hk
theorem f_50_7 : oFet 50 7 = some (.iload_n 1, 1) := by decide +kernel
theorem s_50_7 {d : Nat} {l0 : oV} {x : Int} {S : List oV} {σ : oSg} {Q : Option oV → (Nat → oC) → Prop} : oE d 50 7 [l0, .inl x] S σ Q = oE d 50 8 [l0, .inl x] (.inl x :: S) σ Q := pLdN (k := 1) f_50_7 rfl rfl rfl
theorem f_50_8 : oFet 50 8 = some (.invokevirtual 115, 3) := by decide +kernel
theorem c_50_8 {d : Nat} {l0 l1 : oV} {x0 : oV} {a : Nat} {v : Option oV} {τ : oSg} {S : List oV} {σ : oSg} {Q : Option oV → (Nat → oC) → Prop} (hm : oMi d 15 [.inr (.inr (.inl a)), x0] σ v τ) (hk : oKd a = some 4) (hs : oSmall S = true) : oE d 50 8 [l0, l1] (x0 :: .inr (.inr (.inl a)) :: S) σ Q = oE d 50 11 [l0, l1] (v.toList ++ S) τ Q := pCallV f_50_8 ow_50 lk_10_115 mt_15 rfl rfl rfl hk hs hm
theorem f_50_11 : oFet 50 11 = some (.ifCond .eq 17, 3) := by decide +kernel
theorem s_50_11 {d : Nat} {l0 l1 : oV} {x : Int} {S : List oV} {σ : oSg} {Q : Option oV → (Nat → oC) → Prop} : oE d 50 11 [l0, l1] (.inl x :: S) σ Q = if x = 0 then oE d 50 28 [l0, l1] S σ Q else oE d 50 14 [l0, l1] S σ Q := oIfEq f_50_11 (by decide)
theorem f_50_14 : oFet 50 14 = some (.aload_n 0, 1) := by decide +kernel
theorem s_50_14 {d : Nat} {l1 : oV} {a : Nat} {S : List oV} {σ : oSg} {Q : Option oV → (Nat → oC) → Prop} : oE d 50 14 [.inr (.inr (.inl a)), l1] S σ Q = oE d 50 15 [.inr (.inr (.inl a)), l1] (.inr (.inr (.inl a)) :: S) σ Q := pLdN (k := 0) f_50_14 rfl rfl rfl
theorem f_50_15 : oFet 50 15 = some (.getfield 12, 3) := by decide +kernel
theorem s_50_15 {d : Nat} {l0 l1 : oV} {a : Nat} {S : List oV} {σ : oSg} {Q : Option oV → (Nat → oC) → Prop} (hk : oKd a = some 10) : oE d 50 15 [l0, l1] (.inr (.inr (.inl a)) :: S) σ Q = oE d 50 18 [l0, l1] (.inr (.inr (.inl (oRf a 0))) :: S) σ Q := pGfR f_50_15 ow_50 fl_10_12 rfl (by decide) hk
theorem f_50_18 : oFet 50 18 = some (.iload_n 1, 1) := by decide +kernel
theorem s_50_18 {d : Nat} {l0 : oV} {x : Int} {S : List oV} {σ : oSg} {Q : Option oV → (Nat → oC) → Prop} : oE d 50 18 [l0, .inl x] S σ Q = oE d 50 19 [l0, .inl x] (.inl x :: S) σ Q := pLdN (k := 1) f_50_18 rfl rfl rfl
theorem f_50_19 : oFet 50 19 = some (.invokevirtual 92, 3) := by decide +kernel
theorem c_50_19 {d : Nat} {l0 l1 : oV} {x0 : oV} {a : Nat} {v : Option oV} {τ : oSg} {S : List oV} {σ : oSg} {Q : Option oV → (Nat → oC) → Prop} (hm : oMi d 18 [.inr (.inr (.inl a)), x0] σ v τ) (hk : oKd a = some 1) (hs : oSmall S = true) : oE d 50 19 [l0, l1] (x0 :: .inr (.inr (.inl a)) :: S) σ Q = oE d 50 22 [l0, l1] (v.toList ++ S) τ Q := pCallV f_50_19 ow_50 lk_10_92 mt_18 rfl rfl rfl hk hs hm
theorem f_50_22 : oFet 50 22 = some (.invokestatic 118, 3) := by decide +kernel
theorem c_50_22 {d : Nat} {l0 l1 : oV} {x0 : oV} {v : Option oV} {τ : oSg} {S : List oV} {σ : oSg} {Q : Option oV → (Nat → oC) → Prop} (hm : oMi d 30 [x0] σ v τ) (hs : oSmall S = true) : oE d 50 22 [l0, l1] (x0 :: S) σ Q = oE d 50 25 [l0, l1] (v.toList ++ S) τ Q := pCallS f_50_22 ow_50 lk_10_118 mt_30 rfl rfl rfl hs hm
theorem f_50_25 : oFet 50 25 = some (.goto 4, 3) := by decide +kernel
theorem s_50_25 {d : Nat} {l0 l1 : oV} {S : List oV} {σ : oSg} {Q : Option oV → (Nat → oC) → Prop} : oE d 50 25 [l0, l1] S σ Q = oE d 50 29 [l0, l1] S σ Q := pGoto f_50_25 (by decide)
theorem f_50_28 : oFet 50 28 = some (.iconst (-1), 1) := by decide +kernel
theorem s_50_28 {d : Nat} {l0 l1 : oV} {S : List oV} {σ : oSg} {Q : Option oV → (Nat → oC) → Prop} : oE d 50 28 [l0, l1] S σ Q = oE d 50 29 [l0, l1] (.inl (-1) :: S) σ Q := pKst f_50_28 (by decide)
theorem f_50_29 : oFet 50 29 = some (.ireturn, 1) := by decide +kernel
theorem s_50_29 {d : Nat} {l0 l1 : oV} {x : Int} {σ : oSg} {Q : Option oV → (Nat → oC) → Prop} : oE d 50 29 [l0, l1] [.inl x] σ Q = Q (some (.inl x)) (oBld σ) := oIret f_50_29 rt_50
theorem ow_51 : (oMt 51).2.2.2.2.1 = 10 := by decide +kernel
theorem rt_51 : (oMt 51).2.2.2.1 = some .int := by decide +kernel
theorem nl_51 : (oMt 51).2.2.1 = 2 := by decide +kernel
theorem f_51_0 : oFet 51 0 = some (.iload_n 1, 1) := by decide +kernel
theorem s_51_0 {d : Nat} {l0 : oV} {x : Int} {S : List oV} {σ : oSg} {Q : Option oV → (Nat → oC) → Prop} : oE d 51 0 [l0, .inl x] S σ Q = oE d 51 1 [l0, .inl x] (.inl x :: S) σ Q := pLdN (k := 1) f_51_0 rfl rfl rfl
theorem f_51_1 : oFet 51 1 = some (.ifCond .lt 9, 3) := by decide +kernel
theorem s_51_1 {d : Nat} {l0 l1 : oV} {x : Int} {S : List oV} {σ : oSg} {Q : Option oV → (Nat → oC) → Prop} : oE d 51 1 [l0, l1] (.inl x :: S) σ Q = if x < 0 then oE d 51 10 [l0, l1] S σ Q else oE d 51 4 [l0, l1] S σ Q := oIfLt f_51_1 (by decide)
theorem f_51_4 : oFet 51 4 = some (.iload_n 1, 1) := by decide +kernel
theorem s_51_4 {d : Nat} {l0 : oV} {x : Int} {S : List oV} {σ : oSg} {Q : Option oV → (Nat → oC) → Prop} : oE d 51 4 [l0, .inl x] S σ Q = oE d 51 5 [l0, .inl x] (.inl x :: S) σ Q := pLdN (k := 1) f_51_4 rfl rfl rfl
theorem f_51_5 : oFet 51 5 = some (.bipush 127, 2) := by decide +kernel
theorem s_51_5 {d : Nat} {l0 l1 : oV} {S : List oV} {σ : oSg} {Q : Option oV → (Nat → oC) → Prop} : oE d 51 5 [l0, l1] S σ Q = oE d 51 7 [l0, l1] (.inl (127) :: S) σ Q := pBip f_51_5 (by decide)
theorem f_51_7 : oFet 51 7 = some (.if_icmp .le 6, 3) := by decide +kernel
theorem s_51_7 {d : Nat} {l0 l1 : oV} {x y : Int} {S : List oV} {σ : oSg} {Q : Option oV → (Nat → oC) → Prop} : oE d 51 7 [l0, l1] (.inl y :: .inl x :: S) σ Q = if x ≤ y then oE d 51 13 [l0, l1] S σ Q else oE d 51 10 [l0, l1] S σ Q := oCmpLe f_51_7 (by decide)
theorem f_51_10 : oFet 51 10 = some (.bipush (-2), 2) := by decide +kernel
theorem s_51_10 {d : Nat} {l0 l1 : oV} {S : List oV} {σ : oSg} {Q : Option oV → (Nat → oC) → Prop} : oE d 51 10 [l0, l1] S σ Q = oE d 51 12 [l0, l1] (.inl (-2) :: S) σ Q := pBip f_51_10 (by decide)
theorem f_51_12 : oFet 51 12 = some (.ireturn, 1) := by decide +kernel
theorem s_51_12 {d : Nat} {l0 l1 : oV} {x : Int} {σ : oSg} {Q : Option oV → (Nat → oC) → Prop} : oE d 51 12 [l0, l1] [.inl x] σ Q = Q (some (.inl x)) (oBld σ) := oIret f_51_12 rt_51
theorem f_51_13 : oFet 51 13 = some (.aload_n 0, 1) := by decide +kernel
theorem s_51_13 {d : Nat} {l1 : oV} {a : Nat} {S : List oV} {σ : oSg} {Q : Option oV → (Nat → oC) → Prop} : oE d 51 13 [.inr (.inr (.inl a)), l1] S σ Q = oE d 51 14 [.inr (.inr (.inl a)), l1] (.inr (.inr (.inl a)) :: S) σ Q := pLdN (k := 0) f_51_13 rfl rfl rfl
theorem f_51_14 : oFet 51 14 = some (.getfield 24, 3) := by decide +kernel
theorem s_51_14 {d : Nat} {l0 l1 : oV} {a : Nat} {S : List oV} {σ : oSg} {Q : Option oV → (Nat → oC) → Prop} (hk : oKd a = some 10) : oE d 51 14 [l0, l1] (.inr (.inr (.inl a)) :: S) σ Q = oE d 51 17 [l0, l1] (.inr (.inr (.inl (oRf a 3))) :: S) σ Q := pGfR f_51_14 ow_51 fl_10_24 rfl (by decide) hk
theorem f_51_17 : oFet 51 17 = some (.iload_n 1, 1) := by decide +kernel
theorem s_51_17 {d : Nat} {l0 : oV} {x : Int} {S : List oV} {σ : oSg} {Q : Option oV → (Nat → oC) → Prop} : oE d 51 17 [l0, .inl x] S σ Q = oE d 51 18 [l0, .inl x] (.inl x :: S) σ Q := pLdN (k := 1) f_51_17 rfl rfl rfl
theorem f_51_18 : oFet 51 18 = some (.invokevirtual 142, 3) := by decide +kernel
theorem c_51_18 {d : Nat} {l0 l1 : oV} {x0 : oV} {a : Nat} {v : Option oV} {τ : oSg} {S : List oV} {σ : oSg} {Q : Option oV → (Nat → oC) → Prop} (hm : oMi d 52 [.inr (.inr (.inl a)), x0] σ v τ) (hk : oKd a = some 9) (hs : oSmall S = true) : oE d 51 18 [l0, l1] (x0 :: .inr (.inr (.inl a)) :: S) σ Q = oE d 51 21 [l0, l1] (v.toList ++ S) τ Q := pCallV f_51_18 ow_51 lk_10_142 mt_52 rfl rfl rfl hk hs hm
theorem f_51_21 : oFet 51 21 = some (.ifCond .eq 13, 3) := by decide +kernel
theorem s_51_21 {d : Nat} {l0 l1 : oV} {x : Int} {S : List oV} {σ : oSg} {Q : Option oV → (Nat → oC) → Prop} : oE d 51 21 [l0, l1] (.inl x :: S) σ Q = if x = 0 then oE d 51 34 [l0, l1] S σ Q else oE d 51 24 [l0, l1] S σ Q := oIfEq f_51_21 (by decide)
theorem f_51_24 : oFet 51 24 = some (.aload_n 0, 1) := by decide +kernel
theorem s_51_24 {d : Nat} {l1 : oV} {a : Nat} {S : List oV} {σ : oSg} {Q : Option oV → (Nat → oC) → Prop} : oE d 51 24 [.inr (.inr (.inl a)), l1] S σ Q = oE d 51 25 [.inr (.inr (.inl a)), l1] (.inr (.inr (.inl a)) :: S) σ Q := pLdN (k := 0) f_51_24 rfl rfl rfl
theorem f_51_25 : oFet 51 25 = some (.getfield 24, 3) := by decide +kernel
theorem s_51_25 {d : Nat} {l0 l1 : oV} {a : Nat} {S : List oV} {σ : oSg} {Q : Option oV → (Nat → oC) → Prop} (hk : oKd a = some 10) : oE d 51 25 [l0, l1] (.inr (.inr (.inl a)) :: S) σ Q = oE d 51 28 [l0, l1] (.inr (.inr (.inl (oRf a 3))) :: S) σ Q := pGfR f_51_25 ow_51 fl_10_24 rfl (by decide) hk
theorem f_51_28 : oFet 51 28 = some (.getfield 145, 3) := by decide +kernel
theorem s_51_28 {d : Nat} {l0 l1 : oV} {a : Nat} {S : List oV} {σ : oSg} {Q : Option oV → (Nat → oC) → Prop} (hk : oKd a = some 9) : oE d 51 28 [l0, l1] (.inr (.inr (.inl a)) :: S) σ Q = oE d 51 31 [l0, l1] (.inl (σ.1 a 0) :: S) σ Q := pGfI f_51_28 ow_51 fl_10_145 rfl (by decide) hk
theorem f_51_31 : oFet 51 31 = some (.goto 5, 3) := by decide +kernel
theorem s_51_31 {d : Nat} {l0 l1 : oV} {S : List oV} {σ : oSg} {Q : Option oV → (Nat → oC) → Prop} : oE d 51 31 [l0, l1] S σ Q = oE d 51 36 [l0, l1] S σ Q := pGoto f_51_31 (by decide)
theorem f_51_34 : oFet 51 34 = some (.bipush (-4), 2) := by decide +kernel
theorem s_51_34 {d : Nat} {l0 l1 : oV} {S : List oV} {σ : oSg} {Q : Option oV → (Nat → oC) → Prop} : oE d 51 34 [l0, l1] S σ Q = oE d 51 36 [l0, l1] (.inl (-4) :: S) σ Q := pBip f_51_34 (by decide)
theorem f_51_36 : oFet 51 36 = some (.ireturn, 1) := by decide +kernel
theorem s_51_36 {d : Nat} {l0 l1 : oV} {x : Int} {σ : oSg} {Q : Option oV → (Nat → oC) → Prop} : oE d 51 36 [l0, l1] [.inl x] σ Q = Q (some (.inl x)) (oBld σ) := oIret f_51_36 rt_51
theorem ow_52 : (oMt 52).2.2.2.2.1 = 9 := by decide +kernel
theorem rt_52 : (oMt 52).2.2.2.1 = some .boolean := by decide +kernel
theorem nl_52 : (oMt 52).2.2.1 = 2 := by decide +kernel
theorem f_52_0 : oFet 52 0 = some (.aload_n 0, 1) := by decide +kernel
theorem s_52_0 {d : Nat} {l1 : oV} {a : Nat} {S : List oV} {σ : oSg} {Q : Option oV → (Nat → oC) → Prop} : oE d 52 0 [.inr (.inr (.inl a)), l1] S σ Q = oE d 52 1 [.inr (.inr (.inl a)), l1] (.inr (.inr (.inl a)) :: S) σ Q := pLdN (k := 0) f_52_0 rfl rfl rfl
theorem f_52_1 : oFet 52 1 = some (.getfield 24, 3) := by decide +kernel
theorem s_52_1 {d : Nat} {l0 l1 : oV} {a : Nat} {S : List oV} {σ : oSg} {Q : Option oV → (Nat → oC) → Prop} (hk : oKd a = some 9) : oE d 52 1 [l0, l1] (.inr (.inr (.inl a)) :: S) σ Q = oE d 52 4 [l0, l1] (.inl (σ.1 a 0) :: S) σ Q := pGfI f_52_1 ow_52 fl_9_24 rfl (by decide) hk
theorem f_52_4 : oFet 52 4 = some (.ifCond .lt 12, 3) := by decide +kernel
theorem s_52_4 {d : Nat} {l0 l1 : oV} {x : Int} {S : List oV} {σ : oSg} {Q : Option oV → (Nat → oC) → Prop} : oE d 52 4 [l0, l1] (.inl x :: S) σ Q = if x < 0 then oE d 52 16 [l0, l1] S σ Q else oE d 52 7 [l0, l1] S σ Q := oIfLt f_52_4 (by decide)
theorem f_52_7 : oFet 52 7 = some (.aload_n 0, 1) := by decide +kernel
theorem s_52_7 {d : Nat} {l1 : oV} {a : Nat} {S : List oV} {σ : oSg} {Q : Option oV → (Nat → oC) → Prop} : oE d 52 7 [.inr (.inr (.inl a)), l1] S σ Q = oE d 52 8 [.inr (.inr (.inl a)), l1] (.inr (.inr (.inl a)) :: S) σ Q := pLdN (k := 0) f_52_7 rfl rfl rfl
theorem f_52_8 : oFet 52 8 = some (.getfield 24, 3) := by decide +kernel
theorem s_52_8 {d : Nat} {l0 l1 : oV} {a : Nat} {S : List oV} {σ : oSg} {Q : Option oV → (Nat → oC) → Prop} (hk : oKd a = some 9) : oE d 52 8 [l0, l1] (.inr (.inr (.inl a)) :: S) σ Q = oE d 52 11 [l0, l1] (.inl (σ.1 a 0) :: S) σ Q := pGfI f_52_8 ow_52 fl_9_24 rfl (by decide) hk
theorem f_52_11 : oFet 52 11 = some (.bipush 100, 2) := by decide +kernel
theorem s_52_11 {d : Nat} {l0 l1 : oV} {S : List oV} {σ : oSg} {Q : Option oV → (Nat → oC) → Prop} : oE d 52 11 [l0, l1] S σ Q = oE d 52 13 [l0, l1] (.inl (100) :: S) σ Q := pBip f_52_11 (by decide)
theorem f_52_13 : oFet 52 13 = some (.if_icmp .lt 5, 3) := by decide +kernel
theorem s_52_13 {d : Nat} {l0 l1 : oV} {x y : Int} {S : List oV} {σ : oSg} {Q : Option oV → (Nat → oC) → Prop} : oE d 52 13 [l0, l1] (.inl y :: .inl x :: S) σ Q = if x < y then oE d 52 18 [l0, l1] S σ Q else oE d 52 16 [l0, l1] S σ Q := oCmpLt f_52_13 (by decide)
theorem f_52_16 : oFet 52 16 = some (.iconst 0, 1) := by decide +kernel
theorem s_52_16 {d : Nat} {l0 l1 : oV} {S : List oV} {σ : oSg} {Q : Option oV → (Nat → oC) → Prop} : oE d 52 16 [l0, l1] S σ Q = oE d 52 17 [l0, l1] (.inl (0) :: S) σ Q := pKst f_52_16 (by decide)
theorem f_52_17 : oFet 52 17 = some (.ireturn, 1) := by decide +kernel
theorem s_52_17 {d : Nat} {l0 l1 : oV} {x : Int} {σ : oSg} {Q : Option oV → (Nat → oC) → Prop} (hx : x = 0 ∨ x = 1) : oE d 52 17 [l0, l1] [.inl x] σ Q = Q (some (.inl x)) (oBld σ) := oZret f_52_17 rt_52 hx
theorem f_52_18 : oFet 52 18 = some (.aload_n 0, 1) := by decide +kernel
theorem s_52_18 {d : Nat} {l1 : oV} {a : Nat} {S : List oV} {σ : oSg} {Q : Option oV → (Nat → oC) → Prop} : oE d 52 18 [.inr (.inr (.inl a)), l1] S σ Q = oE d 52 19 [.inr (.inr (.inl a)), l1] (.inr (.inr (.inl a)) :: S) σ Q := pLdN (k := 0) f_52_18 rfl rfl rfl
theorem f_52_19 : oFet 52 19 = some (.getfield 9, 3) := by decide +kernel
theorem s_52_19 {d : Nat} {l0 l1 : oV} {a : Nat} {S : List oV} {σ : oSg} {Q : Option oV → (Nat → oC) → Prop} (hk : oKd a = some 9) : oE d 52 19 [l0, l1] (.inr (.inr (.inl a)) :: S) σ Q = oE d 52 22 [l0, l1] (.inr (.inr (.inl (oRf a 3))) :: S) σ Q := pGfR f_52_19 ow_52 fl_9_9 rfl (by decide) hk
theorem f_52_22 : oFet 52 22 = some (.aload_n 0, 1) := by decide +kernel
theorem s_52_22 {d : Nat} {l1 : oV} {a : Nat} {S : List oV} {σ : oSg} {Q : Option oV → (Nat → oC) → Prop} : oE d 52 22 [.inr (.inr (.inl a)), l1] S σ Q = oE d 52 23 [.inr (.inr (.inl a)), l1] (.inr (.inr (.inl a)) :: S) σ Q := pLdN (k := 0) f_52_22 rfl rfl rfl
theorem f_52_23 : oFet 52 23 = some (.getfield 24, 3) := by decide +kernel
theorem s_52_23 {d : Nat} {l0 l1 : oV} {a : Nat} {S : List oV} {σ : oSg} {Q : Option oV → (Nat → oC) → Prop} (hk : oKd a = some 9) : oE d 52 23 [l0, l1] (.inr (.inr (.inl a)) :: S) σ Q = oE d 52 26 [l0, l1] (.inl (σ.1 a 0) :: S) σ Q := pGfI f_52_23 ow_52 fl_9_24 rfl (by decide) hk
theorem f_52_26 : oFet 52 26 = some (.iload_n 1, 1) := by decide +kernel
theorem s_52_26 {d : Nat} {l0 : oV} {x : Int} {S : List oV} {σ : oSg} {Q : Option oV → (Nat → oC) → Prop} : oE d 52 26 [l0, .inl x] S σ Q = oE d 52 27 [l0, .inl x] (.inl x :: S) σ Q := pLdN (k := 1) f_52_26 rfl rfl rfl
theorem f_52_27 : oFet 52 27 = some (.i2b, 1) := by decide +kernel
theorem s_52_27 {d : Nat} {l0 l1 : oV} {x : Int} {S : List oV} {σ : oSg} {Q : Option oV → (Nat → oC) → Prop} : oE d 52 27 [l0, l1] (.inl x :: S) σ Q = oE d 52 28 [l0, l1] (.inl (oI2b x) :: S) σ Q := oS4 f_52_27 rfl rfl rfl rfl
theorem f_52_28 : oFet 52 28 = some (.bastore, 1) := by decide +kernel
theorem s_52_28 {d : Nat} {l0 l1 : oV} {a : Nat} {i v : Int} {S : List oV} {σ : oSg} {Q : Option oV → (Nat → oC) → Prop} (hk : oAk a = some 2) (h0 : 0 ≤ i) (h1 : i < (oLn a : Int)) : oE d 52 28 [l0, l1] (.inl v :: .inl i :: .inr (.inr (.inl a)) :: S) σ Q = oE d 52 29 [l0, l1] S (oSA σ a i.toNat (oI2b v)) Q := oBas f_52_28 hk h0 h1
theorem f_52_29 : oFet 52 29 = some (.aload_n 0, 1) := by decide +kernel
theorem s_52_29 {d : Nat} {l1 : oV} {a : Nat} {S : List oV} {σ : oSg} {Q : Option oV → (Nat → oC) → Prop} : oE d 52 29 [.inr (.inr (.inl a)), l1] S σ Q = oE d 52 30 [.inr (.inr (.inl a)), l1] (.inr (.inr (.inl a)) :: S) σ Q := pLdN (k := 0) f_52_29 rfl rfl rfl
theorem f_52_30 : oFet 52 30 = some (.dup, 1) := by decide +kernel
theorem s_52_30 {d : Nat} {l0 l1 : oV} {a : Nat} {S : List oV} {σ : oSg} {Q : Option oV → (Nat → oC) → Prop} : oE d 52 30 [l0, l1] (.inr (.inr (.inl a)) :: S) σ Q = oE d 52 31 [l0, l1] (.inr (.inr (.inl a)) :: .inr (.inr (.inl a)) :: S) σ Q := pDupR f_52_30
theorem s_52_30_i {d : Nat} {l0 l1 : oV} {x : Int} {S : List oV} {σ : oSg} {Q : Option oV → (Nat → oC) → Prop} : oE d 52 30 [l0, l1] (.inl x :: S) σ Q = oE d 52 31 [l0, l1] (.inl x :: .inl x :: S) σ Q := pDupI f_52_30
theorem f_52_31 : oFet 52 31 = some (.getfield 24, 3) := by decide +kernel
theorem s_52_31 {d : Nat} {l0 l1 : oV} {a : Nat} {S : List oV} {σ : oSg} {Q : Option oV → (Nat → oC) → Prop} (hk : oKd a = some 9) : oE d 52 31 [l0, l1] (.inr (.inr (.inl a)) :: S) σ Q = oE d 52 34 [l0, l1] (.inl (σ.1 a 0) :: S) σ Q := pGfI f_52_31 ow_52 fl_9_24 rfl (by decide) hk
theorem f_52_34 : oFet 52 34 = some (.iconst 1, 1) := by decide +kernel
theorem s_52_34 {d : Nat} {l0 l1 : oV} {S : List oV} {σ : oSg} {Q : Option oV → (Nat → oC) → Prop} : oE d 52 34 [l0, l1] S σ Q = oE d 52 35 [l0, l1] (.inl (1) :: S) σ Q := pKst f_52_34 (by decide)
theorem f_52_35 : oFet 52 35 = some (.iadd, 1) := by decide +kernel
theorem s_52_35 {d : Nat} {l0 l1 : oV} {x y : Int} {S : List oV} {σ : oSg} {Q : Option oV → (Nat → oC) → Prop} : oE d 52 35 [l0, l1] (.inl y :: .inl x :: S) σ Q = oE d 52 36 [l0, l1] (.inl (oAdd x y) :: S) σ Q := oS3 f_52_35 rfl rfl rfl
theorem f_52_36 : oFet 52 36 = some (.putfield 24, 3) := by decide +kernel
theorem s_52_36 {d : Nat} {l0 l1 : oV} {a : Nat} {v : Int} {S : List oV} {σ : oSg} {Q : Option oV → (Nat → oC) → Prop} (hk : oKd a = some 9) : oE d 52 36 [l0, l1] (.inl v :: .inr (.inr (.inl a)) :: S) σ Q = oE d 52 39 [l0, l1] S (oSF σ a 0 v) Q := pPfI f_52_36 ow_52 fl_9_24 rfl (by decide) rfl rfl hk
theorem f_52_39 : oFet 52 39 = some (.iconst 1, 1) := by decide +kernel
theorem s_52_39 {d : Nat} {l0 l1 : oV} {S : List oV} {σ : oSg} {Q : Option oV → (Nat → oC) → Prop} : oE d 52 39 [l0, l1] S σ Q = oE d 52 40 [l0, l1] (.inl (1) :: S) σ Q := pKst f_52_39 (by decide)
theorem f_52_40 : oFet 52 40 = some (.ireturn, 1) := by decide +kernel
theorem s_52_40 {d : Nat} {l0 l1 : oV} {x : Int} {σ : oSg} {Q : Option oV → (Nat → oC) → Prop} (hx : x = 0 ∨ x = 1) : oE d 52 40 [l0, l1] [.inl x] σ Q = Q (some (.inl x)) (oBld σ) := oZret f_52_40 rt_52 hx
theorem ow_53 : (oMt 53).2.2.2.2.1 = 10 := by decide +kernel
theorem rt_53 : (oMt 53).2.2.2.1 = some .int := by decide +kernel
theorem nl_53 : (oMt 53).2.2.1 = 2 := by decide +kernel
theorem f_53_0 : oFet 53 0 = some (.aload_n 0, 1) := by decide +kernel
theorem s_53_0 {d : Nat} {l1 : oV} {a : Nat} {S : List oV} {σ : oSg} {Q : Option oV → (Nat → oC) → Prop} : oE d 53 0 [.inr (.inr (.inl a)), l1] S σ Q = oE d 53 1 [.inr (.inr (.inl a)), l1] (.inr (.inr (.inl a)) :: S) σ Q := pLdN (k := 0) f_53_0 rfl rfl rfl
theorem f_53_1 : oFet 53 1 = some (.getfield 24, 3) := by decide +kernel
theorem s_53_1 {d : Nat} {l0 l1 : oV} {a : Nat} {S : List oV} {σ : oSg} {Q : Option oV → (Nat → oC) → Prop} (hk : oKd a = some 10) : oE d 53 1 [l0, l1] (.inr (.inr (.inl a)) :: S) σ Q = oE d 53 4 [l0, l1] (.inr (.inr (.inl (oRf a 3))) :: S) σ Q := pGfR f_53_1 ow_53 fl_10_24 rfl (by decide) hk
theorem f_53_4 : oFet 53 4 = some (.invokevirtual 148, 3) := by decide +kernel
theorem c_53_4 {d : Nat} {l0 l1 : oV} {a : Nat} {v : Option oV} {τ : oSg} {S : List oV} {σ : oSg} {Q : Option oV → (Nat → oC) → Prop} (hm : oMi d 54 [.inr (.inr (.inl a))] σ v τ) (hk : oKd a = some 9) (hs : oSmall S = true) : oE d 53 4 [l0, l1] (.inr (.inr (.inl a)) :: S) σ Q = oE d 53 7 [l0, l1] (v.toList ++ S) τ Q := pCallV f_53_4 ow_53 lk_10_148 mt_54 rfl rfl rfl hk hs hm
theorem f_53_7 : oFet 53 7 = some (.istore_n 1, 1) := by decide +kernel
theorem s_53_7 {d : Nat} {l0 l1 : oV} {x : Int} {S : List oV} {σ : oSg} {Q : Option oV → (Nat → oC) → Prop} (c1 : oCat l1 = 1) (c0 : oCat l0 = 1)  : oE d 53 7 [l0, l1] (.inl x :: S) σ Q = oE d 53 8 [l0, .inl x] S σ Q := pSt (i := 1) f_53_7 rfl rfl (show (1 : Nat) < 2 by decide) (oC1n c0) (oC1n c1) rfl
theorem f_53_8 : oFet 53 8 = some (.aload_n 0, 1) := by decide +kernel
theorem s_53_8 {d : Nat} {l1 : oV} {a : Nat} {S : List oV} {σ : oSg} {Q : Option oV → (Nat → oC) → Prop} : oE d 53 8 [.inr (.inr (.inl a)), l1] S σ Q = oE d 53 9 [.inr (.inr (.inl a)), l1] (.inr (.inr (.inl a)) :: S) σ Q := pLdN (k := 0) f_53_8 rfl rfl rfl
theorem f_53_9 : oFet 53 9 = some (.getfield 24, 3) := by decide +kernel
theorem s_53_9 {d : Nat} {l0 l1 : oV} {a : Nat} {S : List oV} {σ : oSg} {Q : Option oV → (Nat → oC) → Prop} (hk : oKd a = some 10) : oE d 53 9 [l0, l1] (.inr (.inr (.inl a)) :: S) σ Q = oE d 53 12 [l0, l1] (.inr (.inr (.inl (oRf a 3))) :: S) σ Q := pGfR f_53_9 ow_53 fl_10_24 rfl (by decide) hk
theorem f_53_12 : oFet 53 12 = some (.iconst 0, 1) := by decide +kernel
theorem s_53_12 {d : Nat} {l0 l1 : oV} {S : List oV} {σ : oSg} {Q : Option oV → (Nat → oC) → Prop} : oE d 53 12 [l0, l1] S σ Q = oE d 53 13 [l0, l1] (.inl (0) :: S) σ Q := pKst f_53_12 (by decide)
theorem f_53_13 : oFet 53 13 = some (.putfield 145, 3) := by decide +kernel
theorem s_53_13 {d : Nat} {l0 l1 : oV} {a : Nat} {v : Int} {S : List oV} {σ : oSg} {Q : Option oV → (Nat → oC) → Prop} (hk : oKd a = some 9) : oE d 53 13 [l0, l1] (.inl v :: .inr (.inr (.inl a)) :: S) σ Q = oE d 53 16 [l0, l1] S (oSF σ a 0 v) Q := pPfI f_53_13 ow_53 fl_10_145 rfl (by decide) rfl rfl hk
theorem f_53_16 : oFet 53 16 = some (.iload_n 1, 1) := by decide +kernel
theorem s_53_16 {d : Nat} {l0 : oV} {x : Int} {S : List oV} {σ : oSg} {Q : Option oV → (Nat → oC) → Prop} : oE d 53 16 [l0, .inl x] S σ Q = oE d 53 17 [l0, .inl x] (.inl x :: S) σ Q := pLdN (k := 1) f_53_16 rfl rfl rfl
theorem f_53_17 : oFet 53 17 = some (.ifCond .ge 10, 3) := by decide +kernel
theorem s_53_17 {d : Nat} {l0 l1 : oV} {x : Int} {S : List oV} {σ : oSg} {Q : Option oV → (Nat → oC) → Prop} : oE d 53 17 [l0, l1] (.inl x :: S) σ Q = if 0 ≤ x then oE d 53 27 [l0, l1] S σ Q else oE d 53 20 [l0, l1] S σ Q := oIfGe f_53_17 (by decide)
theorem f_53_20 : oFet 53 20 = some (.aload_n 0, 1) := by decide +kernel
theorem s_53_20 {d : Nat} {l1 : oV} {a : Nat} {S : List oV} {σ : oSg} {Q : Option oV → (Nat → oC) → Prop} : oE d 53 20 [.inr (.inr (.inl a)), l1] S σ Q = oE d 53 21 [.inr (.inr (.inl a)), l1] (.inr (.inr (.inl a)) :: S) σ Q := pLdN (k := 0) f_53_20 rfl rfl rfl
theorem f_53_21 : oFet 53 21 = some (.invokevirtual 151, 3) := by decide +kernel
theorem c_53_21 {d : Nat} {l0 l1 : oV} {a : Nat} {v : Option oV} {τ : oSg} {S : List oV} {σ : oSg} {Q : Option oV → (Nat → oC) → Prop} (hm : oMi d 60 [.inr (.inr (.inl a))] σ v τ) (hk : oKd a = some 10) (hs : oSmall S = true) : oE d 53 21 [l0, l1] (.inr (.inr (.inl a)) :: S) σ Q = oE d 53 24 [l0, l1] (v.toList ++ S) τ Q := pCallV f_53_21 ow_53 lk_10_151 mt_60 rfl rfl rfl hk hs hm
theorem f_53_24 : oFet 53 24 = some (.goto 7, 3) := by decide +kernel
theorem s_53_24 {d : Nat} {l0 l1 : oV} {S : List oV} {σ : oSg} {Q : Option oV → (Nat → oC) → Prop} : oE d 53 24 [l0, l1] S σ Q = oE d 53 31 [l0, l1] S σ Q := pGoto f_53_24 (by decide)
theorem f_53_27 : oFet 53 27 = some (.bipush (-10), 2) := by decide +kernel
theorem s_53_27 {d : Nat} {l0 l1 : oV} {S : List oV} {σ : oSg} {Q : Option oV → (Nat → oC) → Prop} : oE d 53 27 [l0, l1] S σ Q = oE d 53 29 [l0, l1] (.inl (-10) :: S) σ Q := pBip f_53_27 (by decide)
theorem f_53_29 : oFet 53 29 = some (.iload_n 1, 1) := by decide +kernel
theorem s_53_29 {d : Nat} {l0 : oV} {x : Int} {S : List oV} {σ : oSg} {Q : Option oV → (Nat → oC) → Prop} : oE d 53 29 [l0, .inl x] S σ Q = oE d 53 30 [l0, .inl x] (.inl x :: S) σ Q := pLdN (k := 1) f_53_29 rfl rfl rfl
theorem f_53_30 : oFet 53 30 = some (.isub, 1) := by decide +kernel
theorem s_53_30 {d : Nat} {l0 l1 : oV} {x y : Int} {S : List oV} {σ : oSg} {Q : Option oV → (Nat → oC) → Prop} : oE d 53 30 [l0, l1] (.inl y :: .inl x :: S) σ Q = oE d 53 31 [l0, l1] (.inl (oSub x y) :: S) σ Q := oS3 f_53_30 rfl rfl rfl
theorem f_53_31 : oFet 53 31 = some (.ireturn, 1) := by decide +kernel
theorem s_53_31 {d : Nat} {l0 l1 : oV} {x : Int} {σ : oSg} {Q : Option oV → (Nat → oC) → Prop} : oE d 53 31 [l0, l1] [.inl x] σ Q = Q (some (.inl x)) (oBld σ) := oIret f_53_31 rt_53
theorem ow_54 : (oMt 54).2.2.2.2.1 = 9 := by decide +kernel
theorem rt_54 : (oMt 54).2.2.2.1 = some .int := by decide +kernel
theorem nl_54 : (oMt 54).2.2.1 = 2 := by decide +kernel
theorem f_54_0 : oFet 54 0 = some (.aload_n 0, 1) := by decide +kernel
theorem s_54_0 {d : Nat} {l1 : oV} {a : Nat} {S : List oV} {σ : oSg} {Q : Option oV → (Nat → oC) → Prop} : oE d 54 0 [.inr (.inr (.inl a)), l1] S σ Q = oE d 54 1 [.inr (.inr (.inl a)), l1] (.inr (.inr (.inl a)) :: S) σ Q := pLdN (k := 0) f_54_0 rfl rfl rfl
theorem f_54_1 : oFet 54 1 = some (.iconst 0, 1) := by decide +kernel
theorem s_54_1 {d : Nat} {l0 l1 : oV} {S : List oV} {σ : oSg} {Q : Option oV → (Nat → oC) → Prop} : oE d 54 1 [l0, l1] S σ Q = oE d 54 2 [l0, l1] (.inl (0) :: S) σ Q := pKst f_54_1 (by decide)
theorem f_54_2 : oFet 54 2 = some (.putfield 28, 3) := by decide +kernel
theorem s_54_2 {d : Nat} {l0 l1 : oV} {a : Nat} {v : Int} {S : List oV} {σ : oSg} {Q : Option oV → (Nat → oC) → Prop} (hk : oKd a = some 9) : oE d 54 2 [l0, l1] (.inl v :: .inr (.inr (.inl a)) :: S) σ Q = oE d 54 5 [l0, l1] S (oSF σ a 2 v) Q := pPfI f_54_2 ow_54 fl_9_28 rfl (by decide) rfl rfl hk
theorem f_54_5 : oFet 54 5 = some (.aload_n 0, 1) := by decide +kernel
theorem s_54_5 {d : Nat} {l1 : oV} {a : Nat} {S : List oV} {σ : oSg} {Q : Option oV → (Nat → oC) → Prop} : oE d 54 5 [.inr (.inr (.inl a)), l1] S σ Q = oE d 54 6 [.inr (.inr (.inl a)), l1] (.inr (.inr (.inl a)) :: S) σ Q := pLdN (k := 0) f_54_5 rfl rfl rfl
theorem f_54_6 : oFet 54 6 = some (.iconst 0, 1) := by decide +kernel
theorem s_54_6 {d : Nat} {l0 l1 : oV} {S : List oV} {σ : oSg} {Q : Option oV → (Nat → oC) → Prop} : oE d 54 6 [l0, l1] S σ Q = oE d 54 7 [l0, l1] (.inl (0) :: S) σ Q := pKst f_54_6 (by decide)
theorem f_54_7 : oFet 54 7 = some (.putfield 31, 3) := by decide +kernel
theorem s_54_7 {d : Nat} {l0 l1 : oV} {a : Nat} {v : Int} {S : List oV} {σ : oSg} {Q : Option oV → (Nat → oC) → Prop} (hk : oKd a = some 9) : oE d 54 7 [l0, l1] (.inl v :: .inr (.inr (.inl a)) :: S) σ Q = oE d 54 10 [l0, l1] S (oSF σ a 1 v) Q := pPfI f_54_7 ow_54 fl_9_31 rfl (by decide) rfl rfl hk
theorem f_54_10 : oFet 54 10 = some (.iconst 0, 1) := by decide +kernel
theorem s_54_10 {d : Nat} {l0 l1 : oV} {S : List oV} {σ : oSg} {Q : Option oV → (Nat → oC) → Prop} : oE d 54 10 [l0, l1] S σ Q = oE d 54 11 [l0, l1] (.inl (0) :: S) σ Q := pKst f_54_10 (by decide)
theorem f_54_11 : oFet 54 11 = some (.istore_n 1, 1) := by decide +kernel
theorem s_54_11 {d : Nat} {l0 l1 : oV} {x : Int} {S : List oV} {σ : oSg} {Q : Option oV → (Nat → oC) → Prop} (c1 : oCat l1 = 1) (c0 : oCat l0 = 1)  : oE d 54 11 [l0, l1] (.inl x :: S) σ Q = oE d 54 12 [l0, .inl x] S σ Q := pSt (i := 1) f_54_11 rfl rfl (show (1 : Nat) < 2 by decide) (oC1n c0) (oC1n c1) rfl
theorem f_54_12 : oFet 54 12 = some (.iload_n 1, 1) := by decide +kernel
theorem s_54_12 {d : Nat} {l0 : oV} {x : Int} {S : List oV} {σ : oSg} {Q : Option oV → (Nat → oC) → Prop} : oE d 54 12 [l0, .inl x] S σ Q = oE d 54 13 [l0, .inl x] (.inl x :: S) σ Q := pLdN (k := 1) f_54_12 rfl rfl rfl
theorem f_54_13 : oFet 54 13 = some (.bipush 12, 2) := by decide +kernel
theorem s_54_13 {d : Nat} {l0 l1 : oV} {S : List oV} {σ : oSg} {Q : Option oV → (Nat → oC) → Prop} : oE d 54 13 [l0, l1] S σ Q = oE d 54 15 [l0, l1] (.inl (12) :: S) σ Q := pBip f_54_13 (by decide)
theorem f_54_15 : oFet 54 15 = some (.if_icmp .ge 79, 3) := by decide +kernel
theorem s_54_15 {d : Nat} {l0 l1 : oV} {x y : Int} {S : List oV} {σ : oSg} {Q : Option oV → (Nat → oC) → Prop} : oE d 54 15 [l0, l1] (.inl y :: .inl x :: S) σ Q = if y ≤ x then oE d 54 94 [l0, l1] S σ Q else oE d 54 18 [l0, l1] S σ Q := oCmpGe f_54_15 (by decide)
theorem f_54_18 : oFet 54 18 = some (.aload_n 0, 1) := by decide +kernel
theorem s_54_18 {d : Nat} {l1 : oV} {a : Nat} {S : List oV} {σ : oSg} {Q : Option oV → (Nat → oC) → Prop} : oE d 54 18 [.inr (.inr (.inl a)), l1] S σ Q = oE d 54 19 [.inr (.inr (.inl a)), l1] (.inr (.inr (.inl a)) :: S) σ Q := pLdN (k := 0) f_54_18 rfl rfl rfl
theorem f_54_19 : oFet 54 19 = some (.aload_n 0, 1) := by decide +kernel
theorem s_54_19 {d : Nat} {l1 : oV} {a : Nat} {S : List oV} {σ : oSg} {Q : Option oV → (Nat → oC) → Prop} : oE d 54 19 [.inr (.inr (.inl a)), l1] S σ Q = oE d 54 20 [.inr (.inr (.inl a)), l1] (.inr (.inr (.inl a)) :: S) σ Q := pLdN (k := 0) f_54_19 rfl rfl rfl
theorem f_54_20 : oFet 54 20 = some (.iload_n 1, 1) := by decide +kernel
theorem s_54_20 {d : Nat} {l0 : oV} {x : Int} {S : List oV} {σ : oSg} {Q : Option oV → (Nat → oC) → Prop} : oE d 54 20 [l0, .inl x] S σ Q = oE d 54 21 [l0, .inl x] (.inl x :: S) σ Q := pLdN (k := 1) f_54_20 rfl rfl rfl
theorem f_54_21 : oFet 54 21 = some (.invokevirtual 34, 3) := by decide +kernel
theorem c_54_21 {d : Nat} {l0 l1 : oV} {x0 : oV} {a : Nat} {v : Option oV} {τ : oSg} {S : List oV} {σ : oSg} {Q : Option oV → (Nat → oC) → Prop} (hm : oMi d 55 [.inr (.inr (.inl a)), x0] σ v τ) (hk : oKd a = some 9) (hs : oSmall S = true) : oE d 54 21 [l0, l1] (x0 :: .inr (.inr (.inl a)) :: S) σ Q = oE d 54 24 [l0, l1] (v.toList ++ S) τ Q := pCallV f_54_21 ow_54 lk_9_34 mt_55 rfl rfl rfl hk hs hm
theorem f_54_24 : oFet 54 24 = some (.invokevirtual 38, 3) := by decide +kernel
theorem c_54_24 {d : Nat} {l0 l1 : oV} {x0 : oV} {a : Nat} {v : Option oV} {τ : oSg} {S : List oV} {σ : oSg} {Q : Option oV → (Nat → oC) → Prop} (hm : oMi d 56 [.inr (.inr (.inl a)), x0] σ v τ) (hk : oKd a = some 9) (hs : oSmall S = true) : oE d 54 24 [l0, l1] (x0 :: .inr (.inr (.inl a)) :: S) σ Q = oE d 54 27 [l0, l1] (v.toList ++ S) τ Q := pCallV f_54_24 ow_54 lk_9_38 mt_56 rfl rfl rfl hk hs hm
theorem f_54_27 : oFet 54 27 = some (.ifCond .ne 8, 3) := by decide +kernel
theorem s_54_27 {d : Nat} {l0 l1 : oV} {x : Int} {S : List oV} {σ : oSg} {Q : Option oV → (Nat → oC) → Prop} : oE d 54 27 [l0, l1] (.inl x :: S) σ Q = if ¬ x = 0 then oE d 54 35 [l0, l1] S σ Q else oE d 54 30 [l0, l1] S σ Q := oIfNe f_54_27 (by decide)
theorem f_54_30 : oFet 54 30 = some (.aload_n 0, 1) := by decide +kernel
theorem s_54_30 {d : Nat} {l1 : oV} {a : Nat} {S : List oV} {σ : oSg} {Q : Option oV → (Nat → oC) → Prop} : oE d 54 30 [.inr (.inr (.inl a)), l1] S σ Q = oE d 54 31 [.inr (.inr (.inl a)), l1] (.inr (.inr (.inl a)) :: S) σ Q := pLdN (k := 0) f_54_30 rfl rfl rfl
theorem f_54_31 : oFet 54 31 = some (.getfield 28, 3) := by decide +kernel
theorem s_54_31 {d : Nat} {l0 l1 : oV} {a : Nat} {S : List oV} {σ : oSg} {Q : Option oV → (Nat → oC) → Prop} (hk : oKd a = some 9) : oE d 54 31 [l0, l1] (.inr (.inr (.inl a)) :: S) σ Q = oE d 54 34 [l0, l1] (.inl (σ.1 a 2) :: S) σ Q := pGfI f_54_31 ow_54 fl_9_28 rfl (by decide) hk
theorem f_54_34 : oFet 54 34 = some (.ireturn, 1) := by decide +kernel
theorem s_54_34 {d : Nat} {l0 l1 : oV} {x : Int} {σ : oSg} {Q : Option oV → (Nat → oC) → Prop} : oE d 54 34 [l0, l1] [.inl x] σ Q = Q (some (.inl x)) (oBld σ) := oIret f_54_34 rt_54
theorem f_54_35 : oFet 54 35 = some (.aload_n 0, 1) := by decide +kernel
theorem s_54_35 {d : Nat} {l1 : oV} {a : Nat} {S : List oV} {σ : oSg} {Q : Option oV → (Nat → oC) → Prop} : oE d 54 35 [.inr (.inr (.inl a)), l1] S σ Q = oE d 54 36 [.inr (.inr (.inl a)), l1] (.inr (.inr (.inl a)) :: S) σ Q := pLdN (k := 0) f_54_35 rfl rfl rfl
theorem f_54_36 : oFet 54 36 = some (.iload_n 1, 1) := by decide +kernel
theorem s_54_36 {d : Nat} {l0 : oV} {x : Int} {S : List oV} {σ : oSg} {Q : Option oV → (Nat → oC) → Prop} : oE d 54 36 [l0, .inl x] S σ Q = oE d 54 37 [l0, .inl x] (.inl x :: S) σ Q := pLdN (k := 1) f_54_36 rfl rfl rfl
theorem f_54_37 : oFet 54 37 = some (.iconst 1, 1) := by decide +kernel
theorem s_54_37 {d : Nat} {l0 l1 : oV} {S : List oV} {σ : oSg} {Q : Option oV → (Nat → oC) → Prop} : oE d 54 37 [l0, l1] S σ Q = oE d 54 38 [l0, l1] (.inl (1) :: S) σ Q := pKst f_54_37 (by decide)
theorem f_54_38 : oFet 54 38 = some (.iadd, 1) := by decide +kernel
theorem s_54_38 {d : Nat} {l0 l1 : oV} {x y : Int} {S : List oV} {σ : oSg} {Q : Option oV → (Nat → oC) → Prop} : oE d 54 38 [l0, l1] (.inl y :: .inl x :: S) σ Q = oE d 54 39 [l0, l1] (.inl (oAdd x y) :: S) σ Q := oS3 f_54_38 rfl rfl rfl
theorem f_54_39 : oFet 54 39 = some (.putfield 31, 3) := by decide +kernel
theorem s_54_39 {d : Nat} {l0 l1 : oV} {a : Nat} {v : Int} {S : List oV} {σ : oSg} {Q : Option oV → (Nat → oC) → Prop} (hk : oKd a = some 9) : oE d 54 39 [l0, l1] (.inl v :: .inr (.inr (.inl a)) :: S) σ Q = oE d 54 42 [l0, l1] S (oSF σ a 1 v) Q := pPfI f_54_39 ow_54 fl_9_31 rfl (by decide) rfl rfl hk
theorem f_54_42 : oFet 54 42 = some (.aload_n 0, 1) := by decide +kernel
theorem s_54_42 {d : Nat} {l1 : oV} {a : Nat} {S : List oV} {σ : oSg} {Q : Option oV → (Nat → oC) → Prop} : oE d 54 42 [.inr (.inr (.inl a)), l1] S σ Q = oE d 54 43 [.inr (.inr (.inl a)), l1] (.inr (.inr (.inl a)) :: S) σ Q := pLdN (k := 0) f_54_42 rfl rfl rfl
theorem f_54_43 : oFet 54 43 = some (.getfield 28, 3) := by decide +kernel
theorem s_54_43 {d : Nat} {l0 l1 : oV} {a : Nat} {S : List oV} {σ : oSg} {Q : Option oV → (Nat → oC) → Prop} (hk : oKd a = some 9) : oE d 54 43 [l0, l1] (.inr (.inr (.inl a)) :: S) σ Q = oE d 54 46 [l0, l1] (.inl (σ.1 a 2) :: S) σ Q := pGfI f_54_43 ow_54 fl_9_28 rfl (by decide) hk
theorem f_54_46 : oFet 54 46 = some (.aload_n 0, 1) := by decide +kernel
theorem s_54_46 {d : Nat} {l1 : oV} {a : Nat} {S : List oV} {σ : oSg} {Q : Option oV → (Nat → oC) → Prop} : oE d 54 46 [.inr (.inr (.inl a)), l1] S σ Q = oE d 54 47 [.inr (.inr (.inl a)), l1] (.inr (.inr (.inl a)) :: S) σ Q := pLdN (k := 0) f_54_46 rfl rfl rfl
theorem f_54_47 : oFet 54 47 = some (.getfield 24, 3) := by decide +kernel
theorem s_54_47 {d : Nat} {l0 l1 : oV} {a : Nat} {S : List oV} {σ : oSg} {Q : Option oV → (Nat → oC) → Prop} (hk : oKd a = some 9) : oE d 54 47 [l0, l1] (.inr (.inr (.inl a)) :: S) σ Q = oE d 54 50 [l0, l1] (.inl (σ.1 a 0) :: S) σ Q := pGfI f_54_47 ow_54 fl_9_24 rfl (by decide) hk
theorem f_54_50 : oFet 54 50 = some (.if_icmp .lt 5, 3) := by decide +kernel
theorem s_54_50 {d : Nat} {l0 l1 : oV} {x y : Int} {S : List oV} {σ : oSg} {Q : Option oV → (Nat → oC) → Prop} : oE d 54 50 [l0, l1] (.inl y :: .inl x :: S) σ Q = if x < y then oE d 54 55 [l0, l1] S σ Q else oE d 54 53 [l0, l1] S σ Q := oCmpLt f_54_50 (by decide)
theorem f_54_53 : oFet 54 53 = some (.iconst (-1), 1) := by decide +kernel
theorem s_54_53 {d : Nat} {l0 l1 : oV} {S : List oV} {σ : oSg} {Q : Option oV → (Nat → oC) → Prop} : oE d 54 53 [l0, l1] S σ Q = oE d 54 54 [l0, l1] (.inl (-1) :: S) σ Q := pKst f_54_53 (by decide)
theorem f_54_54 : oFet 54 54 = some (.ireturn, 1) := by decide +kernel
theorem s_54_54 {d : Nat} {l0 l1 : oV} {x : Int} {σ : oSg} {Q : Option oV → (Nat → oC) → Prop} : oE d 54 54 [l0, l1] [.inl x] σ Q = Q (some (.inl x)) (oBld σ) := oIret f_54_54 rt_54
theorem f_54_55 : oFet 54 55 = some (.aload_n 0, 1) := by decide +kernel
theorem s_54_55 {d : Nat} {l1 : oV} {a : Nat} {S : List oV} {σ : oSg} {Q : Option oV → (Nat → oC) → Prop} : oE d 54 55 [.inr (.inr (.inl a)), l1] S σ Q = oE d 54 56 [.inr (.inr (.inl a)), l1] (.inr (.inr (.inl a)) :: S) σ Q := pLdN (k := 0) f_54_55 rfl rfl rfl
theorem f_54_56 : oFet 54 56 = some (.invokevirtual 42, 3) := by decide +kernel
theorem c_54_56 {d : Nat} {l0 l1 : oV} {a : Nat} {v : Option oV} {τ : oSg} {S : List oV} {σ : oSg} {Q : Option oV → (Nat → oC) → Prop} (hm : oMi d 57 [.inr (.inr (.inl a))] σ v τ) (hk : oKd a = some 9) (hs : oSmall S = true) : oE d 54 56 [l0, l1] (.inr (.inr (.inl a)) :: S) σ Q = oE d 54 59 [l0, l1] (v.toList ++ S) τ Q := pCallV f_54_56 ow_54 lk_9_42 mt_57 rfl rfl rfl hk hs hm
theorem f_54_59 : oFet 54 59 = some (.bipush 59, 2) := by decide +kernel
theorem s_54_59 {d : Nat} {l0 l1 : oV} {S : List oV} {σ : oSg} {Q : Option oV → (Nat → oC) → Prop} : oE d 54 59 [l0, l1] S σ Q = oE d 54 61 [l0, l1] (.inl (59) :: S) σ Q := pBip f_54_59 (by decide)
theorem f_54_61 : oFet 54 61 = some (.if_icmp .ne 12, 3) := by decide +kernel
theorem s_54_61 {d : Nat} {l0 l1 : oV} {x y : Int} {S : List oV} {σ : oSg} {Q : Option oV → (Nat → oC) → Prop} : oE d 54 61 [l0, l1] (.inl y :: .inl x :: S) σ Q = if ¬ x = y then oE d 54 73 [l0, l1] S σ Q else oE d 54 64 [l0, l1] S σ Q := oCmpNe f_54_61 (by decide)
theorem f_54_64 : oFet 54 64 = some (.aload_n 0, 1) := by decide +kernel
theorem s_54_64 {d : Nat} {l1 : oV} {a : Nat} {S : List oV} {σ : oSg} {Q : Option oV → (Nat → oC) → Prop} : oE d 54 64 [.inr (.inr (.inl a)), l1] S σ Q = oE d 54 65 [.inr (.inr (.inl a)), l1] (.inr (.inr (.inl a)) :: S) σ Q := pLdN (k := 0) f_54_64 rfl rfl rfl
theorem f_54_65 : oFet 54 65 = some (.getfield 31, 3) := by decide +kernel
theorem s_54_65 {d : Nat} {l0 l1 : oV} {a : Nat} {S : List oV} {σ : oSg} {Q : Option oV → (Nat → oC) → Prop} (hk : oKd a = some 9) : oE d 54 65 [l0, l1] (.inr (.inr (.inl a)) :: S) σ Q = oE d 54 68 [l0, l1] (.inl (σ.1 a 1) :: S) σ Q := pGfI f_54_65 ow_54 fl_9_31 rfl (by decide) hk
theorem f_54_68 : oFet 54 68 = some (.bipush 12, 2) := by decide +kernel
theorem s_54_68 {d : Nat} {l0 l1 : oV} {S : List oV} {σ : oSg} {Q : Option oV → (Nat → oC) → Prop} : oE d 54 68 [l0, l1] S σ Q = oE d 54 70 [l0, l1] (.inl (12) :: S) σ Q := pBip f_54_68 (by decide)
theorem f_54_70 : oFet 54 70 = some (.if_icmp .ne 8, 3) := by decide +kernel
theorem s_54_70 {d : Nat} {l0 l1 : oV} {x y : Int} {S : List oV} {σ : oSg} {Q : Option oV → (Nat → oC) → Prop} : oE d 54 70 [l0, l1] (.inl y :: .inl x :: S) σ Q = if ¬ x = y then oE d 54 78 [l0, l1] S σ Q else oE d 54 73 [l0, l1] S σ Q := oCmpNe f_54_70 (by decide)
theorem f_54_73 : oFet 54 73 = some (.aload_n 0, 1) := by decide +kernel
theorem s_54_73 {d : Nat} {l1 : oV} {a : Nat} {S : List oV} {σ : oSg} {Q : Option oV → (Nat → oC) → Prop} : oE d 54 73 [.inr (.inr (.inl a)), l1] S σ Q = oE d 54 74 [.inr (.inr (.inl a)), l1] (.inr (.inr (.inl a)) :: S) σ Q := pLdN (k := 0) f_54_73 rfl rfl rfl
theorem f_54_74 : oFet 54 74 = some (.getfield 28, 3) := by decide +kernel
theorem s_54_74 {d : Nat} {l0 l1 : oV} {a : Nat} {S : List oV} {σ : oSg} {Q : Option oV → (Nat → oC) → Prop} (hk : oKd a = some 9) : oE d 54 74 [l0, l1] (.inr (.inr (.inl a)) :: S) σ Q = oE d 54 77 [l0, l1] (.inl (σ.1 a 2) :: S) σ Q := pGfI f_54_74 ow_54 fl_9_28 rfl (by decide) hk
theorem f_54_77 : oFet 54 77 = some (.ireturn, 1) := by decide +kernel
theorem s_54_77 {d : Nat} {l0 l1 : oV} {x : Int} {σ : oSg} {Q : Option oV → (Nat → oC) → Prop} : oE d 54 77 [l0, l1] [.inl x] σ Q = Q (some (.inl x)) (oBld σ) := oIret f_54_77 rt_54
theorem f_54_78 : oFet 54 78 = some (.aload_n 0, 1) := by decide +kernel
theorem s_54_78 {d : Nat} {l1 : oV} {a : Nat} {S : List oV} {σ : oSg} {Q : Option oV → (Nat → oC) → Prop} : oE d 54 78 [.inr (.inr (.inl a)), l1] S σ Q = oE d 54 79 [.inr (.inr (.inl a)), l1] (.inr (.inr (.inl a)) :: S) σ Q := pLdN (k := 0) f_54_78 rfl rfl rfl
theorem f_54_79 : oFet 54 79 = some (.dup, 1) := by decide +kernel
theorem s_54_79 {d : Nat} {l0 l1 : oV} {a : Nat} {S : List oV} {σ : oSg} {Q : Option oV → (Nat → oC) → Prop} : oE d 54 79 [l0, l1] (.inr (.inr (.inl a)) :: S) σ Q = oE d 54 80 [l0, l1] (.inr (.inr (.inl a)) :: .inr (.inr (.inl a)) :: S) σ Q := pDupR f_54_79
theorem s_54_79_i {d : Nat} {l0 l1 : oV} {x : Int} {S : List oV} {σ : oSg} {Q : Option oV → (Nat → oC) → Prop} : oE d 54 79 [l0, l1] (.inl x :: S) σ Q = oE d 54 80 [l0, l1] (.inl x :: .inl x :: S) σ Q := pDupI f_54_79
theorem f_54_80 : oFet 54 80 = some (.getfield 28, 3) := by decide +kernel
theorem s_54_80 {d : Nat} {l0 l1 : oV} {a : Nat} {S : List oV} {σ : oSg} {Q : Option oV → (Nat → oC) → Prop} (hk : oKd a = some 9) : oE d 54 80 [l0, l1] (.inr (.inr (.inl a)) :: S) σ Q = oE d 54 83 [l0, l1] (.inl (σ.1 a 2) :: S) σ Q := pGfI f_54_80 ow_54 fl_9_28 rfl (by decide) hk
theorem f_54_83 : oFet 54 83 = some (.iconst 1, 1) := by decide +kernel
theorem s_54_83 {d : Nat} {l0 l1 : oV} {S : List oV} {σ : oSg} {Q : Option oV → (Nat → oC) → Prop} : oE d 54 83 [l0, l1] S σ Q = oE d 54 84 [l0, l1] (.inl (1) :: S) σ Q := pKst f_54_83 (by decide)
theorem f_54_84 : oFet 54 84 = some (.iadd, 1) := by decide +kernel
theorem s_54_84 {d : Nat} {l0 l1 : oV} {x y : Int} {S : List oV} {σ : oSg} {Q : Option oV → (Nat → oC) → Prop} : oE d 54 84 [l0, l1] (.inl y :: .inl x :: S) σ Q = oE d 54 85 [l0, l1] (.inl (oAdd x y) :: S) σ Q := oS3 f_54_84 rfl rfl rfl
theorem f_54_85 : oFet 54 85 = some (.putfield 28, 3) := by decide +kernel
theorem s_54_85 {d : Nat} {l0 l1 : oV} {a : Nat} {v : Int} {S : List oV} {σ : oSg} {Q : Option oV → (Nat → oC) → Prop} (hk : oKd a = some 9) : oE d 54 85 [l0, l1] (.inl v :: .inr (.inr (.inl a)) :: S) σ Q = oE d 54 88 [l0, l1] S (oSF σ a 2 v) Q := pPfI f_54_85 ow_54 fl_9_28 rfl (by decide) rfl rfl hk
theorem f_54_88 : oFet 54 88 = some (.iinc 1 1, 3) := by decide +kernel
theorem s_54_88 {d : Nat} {l0 : oV} {x : Int} {S : List oV} {σ : oSg} {Q : Option oV → (Nat → oC) → Prop} (c0 : oCat l0 = 1)  : oE d 54 88 [l0, .inl x] S σ Q = oE d 54 91 [l0, .inl (oAdd x (1))] S σ Q := pInc f_54_88 rfl (show (1 : Nat) < 2 by decide) (oC1n c0) (oC1n (v := .inl x) rfl) rfl
theorem f_54_91 : oFet 54 91 = some (.goto (-79), 3) := by decide +kernel
theorem s_54_91 {d : Nat} {l0 l1 : oV} {S : List oV} {σ : oSg} {Q : Option oV → (Nat → oC) → Prop} : oE d 54 91 [l0, l1] S σ Q = oE d 54 12 [l0, l1] S σ Q := pGoto f_54_91 (by decide)
theorem f_54_94 : oFet 54 94 = some (.aload_n 0, 1) := by decide +kernel
theorem s_54_94 {d : Nat} {l1 : oV} {a : Nat} {S : List oV} {σ : oSg} {Q : Option oV → (Nat → oC) → Prop} : oE d 54 94 [.inr (.inr (.inl a)), l1] S σ Q = oE d 54 95 [.inr (.inr (.inl a)), l1] (.inr (.inr (.inl a)) :: S) σ Q := pLdN (k := 0) f_54_94 rfl rfl rfl
theorem f_54_95 : oFet 54 95 = some (.getfield 28, 3) := by decide +kernel
theorem s_54_95 {d : Nat} {l0 l1 : oV} {a : Nat} {S : List oV} {σ : oSg} {Q : Option oV → (Nat → oC) → Prop} (hk : oKd a = some 9) : oE d 54 95 [l0, l1] (.inr (.inr (.inl a)) :: S) σ Q = oE d 54 98 [l0, l1] (.inl (σ.1 a 2) :: S) σ Q := pGfI f_54_95 ow_54 fl_9_28 rfl (by decide) hk
theorem f_54_98 : oFet 54 98 = some (.ireturn, 1) := by decide +kernel
theorem s_54_98 {d : Nat} {l0 l1 : oV} {x : Int} {σ : oSg} {Q : Option oV → (Nat → oC) → Prop} : oE d 54 98 [l0, l1] [.inl x] σ Q = Q (some (.inl x)) (oBld σ) := oIret f_54_98 rt_54
theorem ow_55 : (oMt 55).2.2.2.2.1 = 9 := by decide +kernel
theorem rt_55 : (oMt 55).2.2.2.1 = some (.object "OddPartners$Clause") := by decide +kernel
theorem nl_55 : (oMt 55).2.2.1 = 3 := by decide +kernel
theorem f_55_0 : oFet 55 0 = some (.iload_n 1, 1) := by decide +kernel
theorem s_55_0 {d : Nat} {l0 l2 : oV} {x : Int} {S : List oV} {σ : oSg} {Q : Option oV → (Nat → oC) → Prop} : oE d 55 0 [l0, .inl x, l2] S σ Q = oE d 55 1 [l0, .inl x, l2] (.inl x :: S) σ Q := pLdN (k := 1) f_55_0 rfl rfl rfl
theorem f_55_1 : oFet 55 1 = some (.ifCond .lt 18, 3) := by decide +kernel
theorem s_55_1 {d : Nat} {l0 l1 l2 : oV} {x : Int} {S : List oV} {σ : oSg} {Q : Option oV → (Nat → oC) → Prop} : oE d 55 1 [l0, l1, l2] (.inl x :: S) σ Q = if x < 0 then oE d 55 19 [l0, l1, l2] S σ Q else oE d 55 4 [l0, l1, l2] S σ Q := oIfLt f_55_1 (by decide)
theorem f_55_4 : oFet 55 4 = some (.iload_n 1, 1) := by decide +kernel
theorem s_55_4 {d : Nat} {l0 l2 : oV} {x : Int} {S : List oV} {σ : oSg} {Q : Option oV → (Nat → oC) → Prop} : oE d 55 4 [l0, .inl x, l2] S σ Q = oE d 55 5 [l0, .inl x, l2] (.inl x :: S) σ Q := pLdN (k := 1) f_55_4 rfl rfl rfl
theorem f_55_5 : oFet 55 5 = some (.bipush 12, 2) := by decide +kernel
theorem s_55_5 {d : Nat} {l0 l1 l2 : oV} {S : List oV} {σ : oSg} {Q : Option oV → (Nat → oC) → Prop} : oE d 55 5 [l0, l1, l2] S σ Q = oE d 55 7 [l0, l1, l2] (.inl (12) :: S) σ Q := pBip f_55_5 (by decide)
theorem f_55_7 : oFet 55 7 = some (.if_icmp .ge 12, 3) := by decide +kernel
theorem s_55_7 {d : Nat} {l0 l1 l2 : oV} {x y : Int} {S : List oV} {σ : oSg} {Q : Option oV → (Nat → oC) → Prop} : oE d 55 7 [l0, l1, l2] (.inl y :: .inl x :: S) σ Q = if y ≤ x then oE d 55 19 [l0, l1, l2] S σ Q else oE d 55 10 [l0, l1, l2] S σ Q := oCmpGe f_55_7 (by decide)
theorem f_55_10 : oFet 55 10 = some (.aload_n 0, 1) := by decide +kernel
theorem s_55_10 {d : Nat} {l1 l2 : oV} {a : Nat} {S : List oV} {σ : oSg} {Q : Option oV → (Nat → oC) → Prop} : oE d 55 10 [.inr (.inr (.inl a)), l1, l2] S σ Q = oE d 55 11 [.inr (.inr (.inl a)), l1, l2] (.inr (.inr (.inl a)) :: S) σ Q := pLdN (k := 0) f_55_10 rfl rfl rfl
theorem f_55_11 : oFet 55 11 = some (.getfield 15, 3) := by decide +kernel
theorem s_55_11 {d : Nat} {l0 l1 l2 : oV} {a : Nat} {S : List oV} {σ : oSg} {Q : Option oV → (Nat → oC) → Prop} (hk : oKd a = some 9) : oE d 55 11 [l0, l1, l2] (.inr (.inr (.inl a)) :: S) σ Q = oE d 55 14 [l0, l1, l2] (.inr (.inr (.inl (oRf a 4))) :: S) σ Q := pGfR f_55_11 ow_55 fl_9_15 rfl (by decide) hk
theorem f_55_14 : oFet 55 14 = some (.iload_n 1, 1) := by decide +kernel
theorem s_55_14 {d : Nat} {l0 l2 : oV} {x : Int} {S : List oV} {σ : oSg} {Q : Option oV → (Nat → oC) → Prop} : oE d 55 14 [l0, .inl x, l2] S σ Q = oE d 55 15 [l0, .inl x, l2] (.inl x :: S) σ Q := pLdN (k := 1) f_55_14 rfl rfl rfl
theorem f_55_15 : oFet 55 15 = some (.aaload, 1) := by decide +kernel
theorem s_55_15 {d : Nat} {l0 l1 l2 : oV} {a : Nat} {i : Int} {S : List oV} {σ : oSg} {Q : Option oV → (Nat → oC) → Prop} (hk : oAk a = some 3) (h0 : 0 ≤ i) (h1 : i < (oLn a : Int)) : oE d 55 15 [l0, l1, l2] (.inl i :: .inr (.inr (.inl a)) :: S) σ Q = oE d 55 16 [l0, l1, l2] (.inr (.inr (.inl (oRe a i.toNat))) :: S) σ Q := oAal f_55_15 hk (by decide) h0 h1
theorem f_55_16 : oFet 55 16 = some (.goto 7, 3) := by decide +kernel
theorem s_55_16 {d : Nat} {l0 l1 l2 : oV} {S : List oV} {σ : oSg} {Q : Option oV → (Nat → oC) → Prop} : oE d 55 16 [l0, l1, l2] S σ Q = oE d 55 23 [l0, l1, l2] S σ Q := pGoto f_55_16 (by decide)
theorem f_55_19 : oFet 55 19 = some (.aload_n 0, 1) := by decide +kernel
theorem s_55_19 {d : Nat} {l1 l2 : oV} {a : Nat} {S : List oV} {σ : oSg} {Q : Option oV → (Nat → oC) → Prop} : oE d 55 19 [.inr (.inr (.inl a)), l1, l2] S σ Q = oE d 55 20 [.inr (.inr (.inl a)), l1, l2] (.inr (.inr (.inl a)) :: S) σ Q := pLdN (k := 0) f_55_19 rfl rfl rfl
theorem f_55_20 : oFet 55 20 = some (.getfield 20, 3) := by decide +kernel
theorem s_55_20 {d : Nat} {l0 l1 l2 : oV} {a : Nat} {S : List oV} {σ : oSg} {Q : Option oV → (Nat → oC) → Prop} (hk : oKd a = some 9) : oE d 55 20 [l0, l1, l2] (.inr (.inr (.inl a)) :: S) σ Q = oE d 55 23 [l0, l1, l2] (.inr (.inr (.inl (oRf a 5))) :: S) σ Q := pGfR f_55_20 ow_55 fl_9_20 rfl (by decide) hk
theorem f_55_23 : oFet 55 23 = some (.astore_n 2, 1) := by decide +kernel
theorem s_55_23 {d : Nat} {l0 l1 l2 : oV} {a : Nat} {S : List oV} {σ : oSg} {Q : Option oV → (Nat → oC) → Prop} (c2 : oCat l2 = 1) (c1 : oCat l1 = 1)  : oE d 55 23 [l0, l1, l2] (.inr (.inr (.inl a)) :: S) σ Q = oE d 55 24 [l0, l1, .inr (.inr (.inl a))] S σ Q := pSt (i := 2) f_55_23 rfl rfl (show (2 : Nat) < 3 by decide) (oC1n c1) (oC1n c2) rfl
theorem f_55_24 : oFet 55 24 = some (.aload_n 2, 1) := by decide +kernel
theorem s_55_24 {d : Nat} {l0 l1 : oV} {a : Nat} {S : List oV} {σ : oSg} {Q : Option oV → (Nat → oC) → Prop} : oE d 55 24 [l0, l1, .inr (.inr (.inl a))] S σ Q = oE d 55 25 [l0, l1, .inr (.inr (.inl a))] (.inr (.inr (.inl a)) :: S) σ Q := pLdN (k := 2) f_55_24 rfl rfl rfl
theorem f_55_25 : oFet 55 25 = some (.ifnonnull 10, 3) := by decide +kernel
theorem s_55_25 {d : Nat} {l0 l1 l2 : oV} {a : Nat} {S : List oV} {σ : oSg} {Q : Option oV → (Nat → oC) → Prop} : oE d 55 25 [l0, l1, l2] (.inr (.inr (.inl a)) :: S) σ Q = oE d 55 35 [l0, l1, l2] S σ Q := pNnl f_55_25 (by decide)
theorem f_55_28 : oFet 55 28 = some (.aload_n 0, 1) := by decide +kernel
theorem s_55_28 {d : Nat} {l1 l2 : oV} {a : Nat} {S : List oV} {σ : oSg} {Q : Option oV → (Nat → oC) → Prop} : oE d 55 28 [.inr (.inr (.inl a)), l1, l2] S σ Q = oE d 55 29 [.inr (.inr (.inl a)), l1, l2] (.inr (.inr (.inl a)) :: S) σ Q := pLdN (k := 0) f_55_28 rfl rfl rfl
theorem f_55_29 : oFet 55 29 = some (.getfield 20, 3) := by decide +kernel
theorem s_55_29 {d : Nat} {l0 l1 l2 : oV} {a : Nat} {S : List oV} {σ : oSg} {Q : Option oV → (Nat → oC) → Prop} (hk : oKd a = some 9) : oE d 55 29 [l0, l1, l2] (.inr (.inr (.inl a)) :: S) σ Q = oE d 55 32 [l0, l1, l2] (.inr (.inr (.inl (oRf a 5))) :: S) σ Q := pGfR f_55_29 ow_55 fl_9_20 rfl (by decide) hk
theorem f_55_32 : oFet 55 32 = some (.goto 4, 3) := by decide +kernel
theorem s_55_32 {d : Nat} {l0 l1 l2 : oV} {S : List oV} {σ : oSg} {Q : Option oV → (Nat → oC) → Prop} : oE d 55 32 [l0, l1, l2] S σ Q = oE d 55 36 [l0, l1, l2] S σ Q := pGoto f_55_32 (by decide)
theorem f_55_35 : oFet 55 35 = some (.aload_n 2, 1) := by decide +kernel
theorem s_55_35 {d : Nat} {l0 l1 : oV} {a : Nat} {S : List oV} {σ : oSg} {Q : Option oV → (Nat → oC) → Prop} : oE d 55 35 [l0, l1, .inr (.inr (.inl a))] S σ Q = oE d 55 36 [l0, l1, .inr (.inr (.inl a))] (.inr (.inr (.inl a)) :: S) σ Q := pLdN (k := 2) f_55_35 rfl rfl rfl
theorem f_55_36 : oFet 55 36 = some (.areturn, 1) := by decide +kernel
theorem s_55_36 {d : Nat} {l0 l1 l2 : oV} {a : Nat} {σ : oSg} {Q : Option oV → (Nat → oC) → Prop} : oE d 55 36 [l0, l1, l2] [.inr (.inr (.inl a))] σ Q = Q (some (.inr (.inr (.inl a)))) (oBld σ) := oAret f_55_36 rt_55
theorem ow_56 : (oMt 56).2.2.2.2.1 = 9 := by decide +kernel
theorem rt_56 : (oMt 56).2.2.2.1 = some .boolean := by decide +kernel
theorem nl_56 : (oMt 56).2.2.1 = 3 := by decide +kernel
theorem f_56_0 : oFet 56 0 = some (.aload_n 0, 1) := by decide +kernel
theorem s_56_0 {d : Nat} {l1 l2 : oV} {a : Nat} {S : List oV} {σ : oSg} {Q : Option oV → (Nat → oC) → Prop} : oE d 56 0 [.inr (.inr (.inl a)), l1, l2] S σ Q = oE d 56 1 [.inr (.inr (.inl a)), l1, l2] (.inr (.inr (.inl a)) :: S) σ Q := pLdN (k := 0) f_56_0 rfl rfl rfl
theorem f_56_1 : oFet 56 1 = some (.invokevirtual 42, 3) := by decide +kernel
theorem c_56_1 {d : Nat} {l0 l1 l2 : oV} {a : Nat} {v : Option oV} {τ : oSg} {S : List oV} {σ : oSg} {Q : Option oV → (Nat → oC) → Prop} (hm : oMi d 57 [.inr (.inr (.inl a))] σ v τ) (hk : oKd a = some 9) (hs : oSmall S = true) : oE d 56 1 [l0, l1, l2] (.inr (.inr (.inl a)) :: S) σ Q = oE d 56 4 [l0, l1, l2] (v.toList ++ S) τ Q := pCallV f_56_1 ow_56 lk_9_42 mt_57 rfl rfl rfl hk hs hm
theorem f_56_4 : oFet 56 4 = some (.istore_n 2, 1) := by decide +kernel
theorem s_56_4 {d : Nat} {l0 l1 l2 : oV} {x : Int} {S : List oV} {σ : oSg} {Q : Option oV → (Nat → oC) → Prop} (c2 : oCat l2 = 1) (c1 : oCat l1 = 1)  : oE d 56 4 [l0, l1, l2] (.inl x :: S) σ Q = oE d 56 5 [l0, l1, .inl x] S σ Q := pSt (i := 2) f_56_4 rfl rfl (show (2 : Nat) < 3 by decide) (oC1n c1) (oC1n c2) rfl
theorem f_56_5 : oFet 56 5 = some (.iload_n 2, 1) := by decide +kernel
theorem s_56_5 {d : Nat} {l0 l1 : oV} {x : Int} {S : List oV} {σ : oSg} {Q : Option oV → (Nat → oC) → Prop} : oE d 56 5 [l0, l1, .inl x] S σ Q = oE d 56 6 [l0, l1, .inl x] (.inl x :: S) σ Q := pLdN (k := 2) f_56_5 rfl rfl rfl
theorem f_56_6 : oFet 56 6 = some (.bipush 112, 2) := by decide +kernel
theorem s_56_6 {d : Nat} {l0 l1 l2 : oV} {S : List oV} {σ : oSg} {Q : Option oV → (Nat → oC) → Prop} : oE d 56 6 [l0, l1, l2] S σ Q = oE d 56 8 [l0, l1, l2] (.inl (112) :: S) σ Q := pBip f_56_6 (by decide)
theorem f_56_8 : oFet 56 8 = some (.if_icmp .eq 23, 3) := by decide +kernel
theorem s_56_8 {d : Nat} {l0 l1 l2 : oV} {x y : Int} {S : List oV} {σ : oSg} {Q : Option oV → (Nat → oC) → Prop} : oE d 56 8 [l0, l1, l2] (.inl y :: .inl x :: S) σ Q = if x = y then oE d 56 31 [l0, l1, l2] S σ Q else oE d 56 11 [l0, l1, l2] S σ Q := oCmpEq f_56_8 (by decide)
theorem f_56_11 : oFet 56 11 = some (.iload_n 2, 1) := by decide +kernel
theorem s_56_11 {d : Nat} {l0 l1 : oV} {x : Int} {S : List oV} {σ : oSg} {Q : Option oV → (Nat → oC) → Prop} : oE d 56 11 [l0, l1, .inl x] S σ Q = oE d 56 12 [l0, l1, .inl x] (.inl x :: S) σ Q := pLdN (k := 2) f_56_11 rfl rfl rfl
theorem f_56_12 : oFet 56 12 = some (.bipush 119, 2) := by decide +kernel
theorem s_56_12 {d : Nat} {l0 l1 l2 : oV} {S : List oV} {σ : oSg} {Q : Option oV → (Nat → oC) → Prop} : oE d 56 12 [l0, l1, l2] S σ Q = oE d 56 14 [l0, l1, l2] (.inl (119) :: S) σ Q := pBip f_56_12 (by decide)
theorem f_56_14 : oFet 56 14 = some (.if_icmp .eq 17, 3) := by decide +kernel
theorem s_56_14 {d : Nat} {l0 l1 l2 : oV} {x y : Int} {S : List oV} {σ : oSg} {Q : Option oV → (Nat → oC) → Prop} : oE d 56 14 [l0, l1, l2] (.inl y :: .inl x :: S) σ Q = if x = y then oE d 56 31 [l0, l1, l2] S σ Q else oE d 56 17 [l0, l1, l2] S σ Q := oCmpEq f_56_14 (by decide)
theorem f_56_17 : oFet 56 17 = some (.iload_n 2, 1) := by decide +kernel
theorem s_56_17 {d : Nat} {l0 l1 : oV} {x : Int} {S : List oV} {σ : oSg} {Q : Option oV → (Nat → oC) → Prop} : oE d 56 17 [l0, l1, .inl x] S σ Q = oE d 56 18 [l0, l1, .inl x] (.inl x :: S) σ Q := pLdN (k := 2) f_56_17 rfl rfl rfl
theorem f_56_18 : oFet 56 18 = some (.bipush 109, 2) := by decide +kernel
theorem s_56_18 {d : Nat} {l0 l1 l2 : oV} {S : List oV} {σ : oSg} {Q : Option oV → (Nat → oC) → Prop} : oE d 56 18 [l0, l1, l2] S σ Q = oE d 56 20 [l0, l1, l2] (.inl (109) :: S) σ Q := pBip f_56_18 (by decide)
theorem f_56_20 : oFet 56 20 = some (.if_icmp .eq 11, 3) := by decide +kernel
theorem s_56_20 {d : Nat} {l0 l1 l2 : oV} {x y : Int} {S : List oV} {σ : oSg} {Q : Option oV → (Nat → oC) → Prop} : oE d 56 20 [l0, l1, l2] (.inl y :: .inl x :: S) σ Q = if x = y then oE d 56 31 [l0, l1, l2] S σ Q else oE d 56 23 [l0, l1, l2] S σ Q := oCmpEq f_56_20 (by decide)
theorem f_56_23 : oFet 56 23 = some (.iload_n 2, 1) := by decide +kernel
theorem s_56_23 {d : Nat} {l0 l1 : oV} {x : Int} {S : List oV} {σ : oSg} {Q : Option oV → (Nat → oC) → Prop} : oE d 56 23 [l0, l1, .inl x] S σ Q = oE d 56 24 [l0, l1, .inl x] (.inl x :: S) σ Q := pLdN (k := 2) f_56_23 rfl rfl rfl
theorem f_56_24 : oFet 56 24 = some (.bipush 104, 2) := by decide +kernel
theorem s_56_24 {d : Nat} {l0 l1 l2 : oV} {S : List oV} {σ : oSg} {Q : Option oV → (Nat → oC) → Prop} : oE d 56 24 [l0, l1, l2] S σ Q = oE d 56 26 [l0, l1, l2] (.inl (104) :: S) σ Q := pBip f_56_24 (by decide)
theorem f_56_26 : oFet 56 26 = some (.if_icmp .eq 5, 3) := by decide +kernel
theorem s_56_26 {d : Nat} {l0 l1 l2 : oV} {x y : Int} {S : List oV} {σ : oSg} {Q : Option oV → (Nat → oC) → Prop} : oE d 56 26 [l0, l1, l2] (.inl y :: .inl x :: S) σ Q = if x = y then oE d 56 31 [l0, l1, l2] S σ Q else oE d 56 29 [l0, l1, l2] S σ Q := oCmpEq f_56_26 (by decide)
theorem f_56_29 : oFet 56 29 = some (.iconst 0, 1) := by decide +kernel
theorem s_56_29 {d : Nat} {l0 l1 l2 : oV} {S : List oV} {σ : oSg} {Q : Option oV → (Nat → oC) → Prop} : oE d 56 29 [l0, l1, l2] S σ Q = oE d 56 30 [l0, l1, l2] (.inl (0) :: S) σ Q := pKst f_56_29 (by decide)
theorem f_56_30 : oFet 56 30 = some (.ireturn, 1) := by decide +kernel
theorem s_56_30 {d : Nat} {l0 l1 l2 : oV} {x : Int} {σ : oSg} {Q : Option oV → (Nat → oC) → Prop} (hx : x = 0 ∨ x = 1) : oE d 56 30 [l0, l1, l2] [.inl x] σ Q = Q (some (.inl x)) (oBld σ) := oZret f_56_30 rt_56 hx
theorem f_56_31 : oFet 56 31 = some (.aload_n 0, 1) := by decide +kernel
theorem s_56_31 {d : Nat} {l1 l2 : oV} {a : Nat} {S : List oV} {σ : oSg} {Q : Option oV → (Nat → oC) → Prop} : oE d 56 31 [.inr (.inr (.inl a)), l1, l2] S σ Q = oE d 56 32 [.inr (.inr (.inl a)), l1, l2] (.inr (.inr (.inl a)) :: S) σ Q := pLdN (k := 0) f_56_31 rfl rfl rfl
theorem f_56_32 : oFet 56 32 = some (.dup, 1) := by decide +kernel
theorem s_56_32 {d : Nat} {l0 l1 l2 : oV} {a : Nat} {S : List oV} {σ : oSg} {Q : Option oV → (Nat → oC) → Prop} : oE d 56 32 [l0, l1, l2] (.inr (.inr (.inl a)) :: S) σ Q = oE d 56 33 [l0, l1, l2] (.inr (.inr (.inl a)) :: .inr (.inr (.inl a)) :: S) σ Q := pDupR f_56_32
theorem s_56_32_i {d : Nat} {l0 l1 l2 : oV} {x : Int} {S : List oV} {σ : oSg} {Q : Option oV → (Nat → oC) → Prop} : oE d 56 32 [l0, l1, l2] (.inl x :: S) σ Q = oE d 56 33 [l0, l1, l2] (.inl x :: .inl x :: S) σ Q := pDupI f_56_32
theorem f_56_33 : oFet 56 33 = some (.getfield 28, 3) := by decide +kernel
theorem s_56_33 {d : Nat} {l0 l1 l2 : oV} {a : Nat} {S : List oV} {σ : oSg} {Q : Option oV → (Nat → oC) → Prop} (hk : oKd a = some 9) : oE d 56 33 [l0, l1, l2] (.inr (.inr (.inl a)) :: S) σ Q = oE d 56 36 [l0, l1, l2] (.inl (σ.1 a 2) :: S) σ Q := pGfI f_56_33 ow_56 fl_9_28 rfl (by decide) hk
theorem f_56_36 : oFet 56 36 = some (.iconst 1, 1) := by decide +kernel
theorem s_56_36 {d : Nat} {l0 l1 l2 : oV} {S : List oV} {σ : oSg} {Q : Option oV → (Nat → oC) → Prop} : oE d 56 36 [l0, l1, l2] S σ Q = oE d 56 37 [l0, l1, l2] (.inl (1) :: S) σ Q := pKst f_56_36 (by decide)
theorem f_56_37 : oFet 56 37 = some (.iadd, 1) := by decide +kernel
theorem s_56_37 {d : Nat} {l0 l1 l2 : oV} {x y : Int} {S : List oV} {σ : oSg} {Q : Option oV → (Nat → oC) → Prop} : oE d 56 37 [l0, l1, l2] (.inl y :: .inl x :: S) σ Q = oE d 56 38 [l0, l1, l2] (.inl (oAdd x y) :: S) σ Q := oS3 f_56_37 rfl rfl rfl
theorem f_56_38 : oFet 56 38 = some (.putfield 28, 3) := by decide +kernel
theorem s_56_38 {d : Nat} {l0 l1 l2 : oV} {a : Nat} {v : Int} {S : List oV} {σ : oSg} {Q : Option oV → (Nat → oC) → Prop} (hk : oKd a = some 9) : oE d 56 38 [l0, l1, l2] (.inl v :: .inr (.inr (.inl a)) :: S) σ Q = oE d 56 41 [l0, l1, l2] S (oSF σ a 2 v) Q := pPfI f_56_38 ow_56 fl_9_28 rfl (by decide) rfl rfl hk
theorem f_56_41 : oFet 56 41 = some (.aload_n 1, 1) := by decide +kernel
theorem s_56_41 {d : Nat} {l0 l2 : oV} {a : Nat} {S : List oV} {σ : oSg} {Q : Option oV → (Nat → oC) → Prop} : oE d 56 41 [l0, .inr (.inr (.inl a)), l2] S σ Q = oE d 56 42 [l0, .inr (.inr (.inl a)), l2] (.inr (.inr (.inl a)) :: S) σ Q := pLdN (k := 1) f_56_41 rfl rfl rfl
theorem f_56_42 : oFet 56 42 = some (.iload_n 2, 1) := by decide +kernel
theorem s_56_42 {d : Nat} {l0 l1 : oV} {x : Int} {S : List oV} {σ : oSg} {Q : Option oV → (Nat → oC) → Prop} : oE d 56 42 [l0, l1, .inl x] S σ Q = oE d 56 43 [l0, l1, .inl x] (.inl x :: S) σ Q := pLdN (k := 2) f_56_42 rfl rfl rfl
theorem f_56_43 : oFet 56 43 = some (.putfield 46, 3) := by decide +kernel
theorem s_56_43 {d : Nat} {l0 l1 l2 : oV} {a : Nat} {v : Int} {S : List oV} {σ : oSg} {Q : Option oV → (Nat → oC) → Prop} (hk : oKd a = some 0) : oE d 56 43 [l0, l1, l2] (.inl v :: .inr (.inr (.inl a)) :: S) σ Q = oE d 56 46 [l0, l1, l2] S (oSF σ a 0 v) Q := pPfI f_56_43 ow_56 fl_9_46 rfl (by decide) rfl rfl hk
theorem f_56_46 : oFet 56 46 = some (.iload_n 2, 1) := by decide +kernel
theorem s_56_46 {d : Nat} {l0 l1 : oV} {x : Int} {S : List oV} {σ : oSg} {Q : Option oV → (Nat → oC) → Prop} : oE d 56 46 [l0, l1, .inl x] S σ Q = oE d 56 47 [l0, l1, .inl x] (.inl x :: S) σ Q := pLdN (k := 2) f_56_46 rfl rfl rfl
theorem f_56_47 : oFet 56 47 = some (.bipush 112, 2) := by decide +kernel
theorem s_56_47 {d : Nat} {l0 l1 l2 : oV} {S : List oV} {σ : oSg} {Q : Option oV → (Nat → oC) → Prop} : oE d 56 47 [l0, l1, l2] S σ Q = oE d 56 49 [l0, l1, l2] (.inl (112) :: S) σ Q := pBip f_56_47 (by decide)
theorem f_56_49 : oFet 56 49 = some (.if_icmp .ne 5, 3) := by decide +kernel
theorem s_56_49 {d : Nat} {l0 l1 l2 : oV} {x y : Int} {S : List oV} {σ : oSg} {Q : Option oV → (Nat → oC) → Prop} : oE d 56 49 [l0, l1, l2] (.inl y :: .inl x :: S) σ Q = if ¬ x = y then oE d 56 54 [l0, l1, l2] S σ Q else oE d 56 52 [l0, l1, l2] S σ Q := oCmpNe f_56_49 (by decide)
theorem f_56_52 : oFet 56 52 = some (.iconst 1, 1) := by decide +kernel
theorem s_56_52 {d : Nat} {l0 l1 l2 : oV} {S : List oV} {σ : oSg} {Q : Option oV → (Nat → oC) → Prop} : oE d 56 52 [l0, l1, l2] S σ Q = oE d 56 53 [l0, l1, l2] (.inl (1) :: S) σ Q := pKst f_56_52 (by decide)
theorem f_56_53 : oFet 56 53 = some (.ireturn, 1) := by decide +kernel
theorem s_56_53 {d : Nat} {l0 l1 l2 : oV} {x : Int} {σ : oSg} {Q : Option oV → (Nat → oC) → Prop} (hx : x = 0 ∨ x = 1) : oE d 56 53 [l0, l1, l2] [.inl x] σ Q = Q (some (.inl x)) (oBld σ) := oZret f_56_53 rt_56 hx
theorem f_56_54 : oFet 56 54 = some (.aload_n 1, 1) := by decide +kernel
theorem s_56_54 {d : Nat} {l0 l2 : oV} {a : Nat} {S : List oV} {σ : oSg} {Q : Option oV → (Nat → oC) → Prop} : oE d 56 54 [l0, .inr (.inr (.inl a)), l2] S σ Q = oE d 56 55 [l0, .inr (.inr (.inl a)), l2] (.inr (.inr (.inl a)) :: S) σ Q := pLdN (k := 1) f_56_54 rfl rfl rfl
theorem f_56_55 : oFet 56 55 = some (.aload_n 0, 1) := by decide +kernel
theorem s_56_55 {d : Nat} {l1 l2 : oV} {a : Nat} {S : List oV} {σ : oSg} {Q : Option oV → (Nat → oC) → Prop} : oE d 56 55 [.inr (.inr (.inl a)), l1, l2] S σ Q = oE d 56 56 [.inr (.inr (.inl a)), l1, l2] (.inr (.inr (.inl a)) :: S) σ Q := pLdN (k := 0) f_56_55 rfl rfl rfl
theorem f_56_56 : oFet 56 56 = some (.invokevirtual 49, 3) := by decide +kernel
theorem c_56_56 {d : Nat} {l0 l1 l2 : oV} {a : Nat} {v : Option oV} {τ : oSg} {S : List oV} {σ : oSg} {Q : Option oV → (Nat → oC) → Prop} (hm : oMi d 58 [.inr (.inr (.inl a))] σ v τ) (hk : oKd a = some 9) (hs : oSmall S = true) : oE d 56 56 [l0, l1, l2] (.inr (.inr (.inl a)) :: S) σ Q = oE d 56 59 [l0, l1, l2] (v.toList ++ S) τ Q := pCallV f_56_56 ow_56 lk_9_49 mt_58 rfl rfl rfl hk hs hm
theorem f_56_59 : oFet 56 59 = some (.putfield 52, 3) := by decide +kernel
theorem s_56_59 {d : Nat} {l0 l1 l2 : oV} {a : Nat} {v : Int} {S : List oV} {σ : oSg} {Q : Option oV → (Nat → oC) → Prop} (hk : oKd a = some 0) : oE d 56 59 [l0, l1, l2] (.inl v :: .inr (.inr (.inl a)) :: S) σ Q = oE d 56 62 [l0, l1, l2] S (oSF σ a 1 v) Q := pPfI f_56_59 ow_56 fl_9_52 rfl (by decide) rfl rfl hk
theorem f_56_62 : oFet 56 62 = some (.aload_n 1, 1) := by decide +kernel
theorem s_56_62 {d : Nat} {l0 l2 : oV} {a : Nat} {S : List oV} {σ : oSg} {Q : Option oV → (Nat → oC) → Prop} : oE d 56 62 [l0, .inr (.inr (.inl a)), l2] S σ Q = oE d 56 63 [l0, .inr (.inr (.inl a)), l2] (.inr (.inr (.inl a)) :: S) σ Q := pLdN (k := 1) f_56_62 rfl rfl rfl
theorem f_56_63 : oFet 56 63 = some (.getfield 52, 3) := by decide +kernel
theorem s_56_63 {d : Nat} {l0 l1 l2 : oV} {a : Nat} {S : List oV} {σ : oSg} {Q : Option oV → (Nat → oC) → Prop} (hk : oKd a = some 0) : oE d 56 63 [l0, l1, l2] (.inr (.inr (.inl a)) :: S) σ Q = oE d 56 66 [l0, l1, l2] (.inl (σ.1 a 1) :: S) σ Q := pGfI f_56_63 ow_56 fl_9_52 rfl (by decide) hk
theorem f_56_66 : oFet 56 66 = some (.ifCond .ge 5, 3) := by decide +kernel
theorem s_56_66 {d : Nat} {l0 l1 l2 : oV} {x : Int} {S : List oV} {σ : oSg} {Q : Option oV → (Nat → oC) → Prop} : oE d 56 66 [l0, l1, l2] (.inl x :: S) σ Q = if 0 ≤ x then oE d 56 71 [l0, l1, l2] S σ Q else oE d 56 69 [l0, l1, l2] S σ Q := oIfGe f_56_66 (by decide)
theorem f_56_69 : oFet 56 69 = some (.iconst 0, 1) := by decide +kernel
theorem s_56_69 {d : Nat} {l0 l1 l2 : oV} {S : List oV} {σ : oSg} {Q : Option oV → (Nat → oC) → Prop} : oE d 56 69 [l0, l1, l2] S σ Q = oE d 56 70 [l0, l1, l2] (.inl (0) :: S) σ Q := pKst f_56_69 (by decide)
theorem f_56_70 : oFet 56 70 = some (.ireturn, 1) := by decide +kernel
theorem s_56_70 {d : Nat} {l0 l1 l2 : oV} {x : Int} {σ : oSg} {Q : Option oV → (Nat → oC) → Prop} (hx : x = 0 ∨ x = 1) : oE d 56 70 [l0, l1, l2] [.inl x] σ Q = Q (some (.inl x)) (oBld σ) := oZret f_56_70 rt_56 hx
theorem f_56_71 : oFet 56 71 = some (.iload_n 2, 1) := by decide +kernel
theorem s_56_71 {d : Nat} {l0 l1 : oV} {x : Int} {S : List oV} {σ : oSg} {Q : Option oV → (Nat → oC) → Prop} : oE d 56 71 [l0, l1, .inl x] S σ Q = oE d 56 72 [l0, l1, .inl x] (.inl x :: S) σ Q := pLdN (k := 2) f_56_71 rfl rfl rfl
theorem f_56_72 : oFet 56 72 = some (.bipush 104, 2) := by decide +kernel
theorem s_56_72 {d : Nat} {l0 l1 l2 : oV} {S : List oV} {σ : oSg} {Q : Option oV → (Nat → oC) → Prop} : oE d 56 72 [l0, l1, l2] S σ Q = oE d 56 74 [l0, l1, l2] (.inl (104) :: S) σ Q := pBip f_56_72 (by decide)
theorem f_56_74 : oFet 56 74 = some (.if_icmp .eq 20, 3) := by decide +kernel
theorem s_56_74 {d : Nat} {l0 l1 l2 : oV} {x y : Int} {S : List oV} {σ : oSg} {Q : Option oV → (Nat → oC) → Prop} : oE d 56 74 [l0, l1, l2] (.inl y :: .inl x :: S) σ Q = if x = y then oE d 56 94 [l0, l1, l2] S σ Q else oE d 56 77 [l0, l1, l2] S σ Q := oCmpEq f_56_74 (by decide)
theorem f_56_77 : oFet 56 77 = some (.aload_n 1, 1) := by decide +kernel
theorem s_56_77 {d : Nat} {l0 l2 : oV} {a : Nat} {S : List oV} {σ : oSg} {Q : Option oV → (Nat → oC) → Prop} : oE d 56 77 [l0, .inr (.inr (.inl a)), l2] S σ Q = oE d 56 78 [l0, .inr (.inr (.inl a)), l2] (.inr (.inr (.inl a)) :: S) σ Q := pLdN (k := 1) f_56_77 rfl rfl rfl
theorem f_56_78 : oFet 56 78 = some (.aload_n 0, 1) := by decide +kernel
theorem s_56_78 {d : Nat} {l1 l2 : oV} {a : Nat} {S : List oV} {σ : oSg} {Q : Option oV → (Nat → oC) → Prop} : oE d 56 78 [.inr (.inr (.inl a)), l1, l2] S σ Q = oE d 56 79 [.inr (.inr (.inl a)), l1, l2] (.inr (.inr (.inl a)) :: S) σ Q := pLdN (k := 0) f_56_78 rfl rfl rfl
theorem f_56_79 : oFet 56 79 = some (.invokevirtual 49, 3) := by decide +kernel
theorem c_56_79 {d : Nat} {l0 l1 l2 : oV} {a : Nat} {v : Option oV} {τ : oSg} {S : List oV} {σ : oSg} {Q : Option oV → (Nat → oC) → Prop} (hm : oMi d 58 [.inr (.inr (.inl a))] σ v τ) (hk : oKd a = some 9) (hs : oSmall S = true) : oE d 56 79 [l0, l1, l2] (.inr (.inr (.inl a)) :: S) σ Q = oE d 56 82 [l0, l1, l2] (v.toList ++ S) τ Q := pCallV f_56_79 ow_56 lk_9_49 mt_58 rfl rfl rfl hk hs hm
theorem f_56_82 : oFet 56 82 = some (.putfield 55, 3) := by decide +kernel
theorem s_56_82 {d : Nat} {l0 l1 l2 : oV} {a : Nat} {v : Int} {S : List oV} {σ : oSg} {Q : Option oV → (Nat → oC) → Prop} (hk : oKd a = some 0) : oE d 56 82 [l0, l1, l2] (.inl v :: .inr (.inr (.inl a)) :: S) σ Q = oE d 56 85 [l0, l1, l2] S (oSF σ a 2 v) Q := pPfI f_56_82 ow_56 fl_9_55 rfl (by decide) rfl rfl hk
theorem f_56_85 : oFet 56 85 = some (.aload_n 1, 1) := by decide +kernel
theorem s_56_85 {d : Nat} {l0 l2 : oV} {a : Nat} {S : List oV} {σ : oSg} {Q : Option oV → (Nat → oC) → Prop} : oE d 56 85 [l0, .inr (.inr (.inl a)), l2] S σ Q = oE d 56 86 [l0, .inr (.inr (.inl a)), l2] (.inr (.inr (.inl a)) :: S) σ Q := pLdN (k := 1) f_56_85 rfl rfl rfl
theorem f_56_86 : oFet 56 86 = some (.getfield 55, 3) := by decide +kernel
theorem s_56_86 {d : Nat} {l0 l1 l2 : oV} {a : Nat} {S : List oV} {σ : oSg} {Q : Option oV → (Nat → oC) → Prop} (hk : oKd a = some 0) : oE d 56 86 [l0, l1, l2] (.inr (.inr (.inl a)) :: S) σ Q = oE d 56 89 [l0, l1, l2] (.inl (σ.1 a 2) :: S) σ Q := pGfI f_56_86 ow_56 fl_9_55 rfl (by decide) hk
theorem f_56_89 : oFet 56 89 = some (.ifCond .ge 5, 3) := by decide +kernel
theorem s_56_89 {d : Nat} {l0 l1 l2 : oV} {x : Int} {S : List oV} {σ : oSg} {Q : Option oV → (Nat → oC) → Prop} : oE d 56 89 [l0, l1, l2] (.inl x :: S) σ Q = if 0 ≤ x then oE d 56 94 [l0, l1, l2] S σ Q else oE d 56 92 [l0, l1, l2] S σ Q := oIfGe f_56_89 (by decide)
theorem f_56_92 : oFet 56 92 = some (.iconst 0, 1) := by decide +kernel
theorem s_56_92 {d : Nat} {l0 l1 l2 : oV} {S : List oV} {σ : oSg} {Q : Option oV → (Nat → oC) → Prop} : oE d 56 92 [l0, l1, l2] S σ Q = oE d 56 93 [l0, l1, l2] (.inl (0) :: S) σ Q := pKst f_56_92 (by decide)
theorem f_56_93 : oFet 56 93 = some (.ireturn, 1) := by decide +kernel
theorem s_56_93 {d : Nat} {l0 l1 l2 : oV} {x : Int} {σ : oSg} {Q : Option oV → (Nat → oC) → Prop} (hx : x = 0 ∨ x = 1) : oE d 56 93 [l0, l1, l2] [.inl x] σ Q = Q (some (.inl x)) (oBld σ) := oZret f_56_93 rt_56 hx
theorem f_56_94 : oFet 56 94 = some (.iload_n 2, 1) := by decide +kernel
theorem s_56_94 {d : Nat} {l0 l1 : oV} {x : Int} {S : List oV} {σ : oSg} {Q : Option oV → (Nat → oC) → Prop} : oE d 56 94 [l0, l1, .inl x] S σ Q = oE d 56 95 [l0, l1, .inl x] (.inl x :: S) σ Q := pLdN (k := 2) f_56_94 rfl rfl rfl
theorem f_56_95 : oFet 56 95 = some (.bipush 109, 2) := by decide +kernel
theorem s_56_95 {d : Nat} {l0 l1 l2 : oV} {S : List oV} {σ : oSg} {Q : Option oV → (Nat → oC) → Prop} : oE d 56 95 [l0, l1, l2] S σ Q = oE d 56 97 [l0, l1, l2] (.inl (109) :: S) σ Q := pBip f_56_95 (by decide)
theorem f_56_97 : oFet 56 97 = some (.if_icmp .ne 5, 3) := by decide +kernel
theorem s_56_97 {d : Nat} {l0 l1 l2 : oV} {x y : Int} {S : List oV} {σ : oSg} {Q : Option oV → (Nat → oC) → Prop} : oE d 56 97 [l0, l1, l2] (.inl y :: .inl x :: S) σ Q = if ¬ x = y then oE d 56 102 [l0, l1, l2] S σ Q else oE d 56 100 [l0, l1, l2] S σ Q := oCmpNe f_56_97 (by decide)
theorem f_56_100 : oFet 56 100 = some (.iconst 1, 1) := by decide +kernel
theorem s_56_100 {d : Nat} {l0 l1 l2 : oV} {S : List oV} {σ : oSg} {Q : Option oV → (Nat → oC) → Prop} : oE d 56 100 [l0, l1, l2] S σ Q = oE d 56 101 [l0, l1, l2] (.inl (1) :: S) σ Q := pKst f_56_100 (by decide)
theorem f_56_101 : oFet 56 101 = some (.ireturn, 1) := by decide +kernel
theorem s_56_101 {d : Nat} {l0 l1 l2 : oV} {x : Int} {σ : oSg} {Q : Option oV → (Nat → oC) → Prop} (hx : x = 0 ∨ x = 1) : oE d 56 101 [l0, l1, l2] [.inl x] σ Q = Q (some (.inl x)) (oBld σ) := oZret f_56_101 rt_56 hx
theorem f_56_102 : oFet 56 102 = some (.aload_n 1, 1) := by decide +kernel
theorem s_56_102 {d : Nat} {l0 l2 : oV} {a : Nat} {S : List oV} {σ : oSg} {Q : Option oV → (Nat → oC) → Prop} : oE d 56 102 [l0, .inr (.inr (.inl a)), l2] S σ Q = oE d 56 103 [l0, .inr (.inr (.inl a)), l2] (.inr (.inr (.inl a)) :: S) σ Q := pLdN (k := 1) f_56_102 rfl rfl rfl
theorem f_56_103 : oFet 56 103 = some (.aload_n 0, 1) := by decide +kernel
theorem s_56_103 {d : Nat} {l1 l2 : oV} {a : Nat} {S : List oV} {σ : oSg} {Q : Option oV → (Nat → oC) → Prop} : oE d 56 103 [.inr (.inr (.inl a)), l1, l2] S σ Q = oE d 56 104 [.inr (.inr (.inl a)), l1, l2] (.inr (.inr (.inl a)) :: S) σ Q := pLdN (k := 0) f_56_103 rfl rfl rfl
theorem f_56_104 : oFet 56 104 = some (.invokevirtual 58, 3) := by decide +kernel
theorem c_56_104 {d : Nat} {l0 l1 l2 : oV} {a : Nat} {v : Option oV} {τ : oSg} {S : List oV} {σ : oSg} {Q : Option oV → (Nat → oC) → Prop} (hm : oMi d 59 [.inr (.inr (.inl a))] σ v τ) (hk : oKd a = some 9) (hs : oSmall S = true) : oE d 56 104 [l0, l1, l2] (.inr (.inr (.inl a)) :: S) σ Q = oE d 56 107 [l0, l1, l2] (v.toList ++ S) τ Q := pCallV f_56_104 ow_56 lk_9_58 mt_59 rfl rfl rfl hk hs hm
theorem f_56_107 : oFet 56 107 = some (.putfield 61, 3) := by decide +kernel
theorem s_56_107 {d : Nat} {l0 l1 l2 : oV} {a : Nat} {v : Int} {S : List oV} {σ : oSg} {Q : Option oV → (Nat → oC) → Prop} (hk : oKd a = some 0) : oE d 56 107 [l0, l1, l2] (.inl v :: .inr (.inr (.inl a)) :: S) σ Q = oE d 56 110 [l0, l1, l2] S (oSF σ a 3 v) Q := pPfI f_56_107 ow_56 fl_9_61 rfl (by decide) rfl rfl hk
theorem f_56_110 : oFet 56 110 = some (.aload_n 1, 1) := by decide +kernel
theorem s_56_110 {d : Nat} {l0 l2 : oV} {a : Nat} {S : List oV} {σ : oSg} {Q : Option oV → (Nat → oC) → Prop} : oE d 56 110 [l0, .inr (.inr (.inl a)), l2] S σ Q = oE d 56 111 [l0, .inr (.inr (.inl a)), l2] (.inr (.inr (.inl a)) :: S) σ Q := pLdN (k := 1) f_56_110 rfl rfl rfl
theorem f_56_111 : oFet 56 111 = some (.getfield 61, 3) := by decide +kernel
theorem s_56_111 {d : Nat} {l0 l1 l2 : oV} {a : Nat} {S : List oV} {σ : oSg} {Q : Option oV → (Nat → oC) → Prop} (hk : oKd a = some 0) : oE d 56 111 [l0, l1, l2] (.inr (.inr (.inl a)) :: S) σ Q = oE d 56 114 [l0, l1, l2] (.inl (σ.1 a 3) :: S) σ Q := pGfI f_56_111 ow_56 fl_9_61 rfl (by decide) hk
theorem f_56_114 : oFet 56 114 = some (.ifCond .lt 7, 3) := by decide +kernel
theorem s_56_114 {d : Nat} {l0 l1 l2 : oV} {x : Int} {S : List oV} {σ : oSg} {Q : Option oV → (Nat → oC) → Prop} : oE d 56 114 [l0, l1, l2] (.inl x :: S) σ Q = if x < 0 then oE d 56 121 [l0, l1, l2] S σ Q else oE d 56 117 [l0, l1, l2] S σ Q := oIfLt f_56_114 (by decide)
theorem f_56_117 : oFet 56 117 = some (.iconst 1, 1) := by decide +kernel
theorem s_56_117 {d : Nat} {l0 l1 l2 : oV} {S : List oV} {σ : oSg} {Q : Option oV → (Nat → oC) → Prop} : oE d 56 117 [l0, l1, l2] S σ Q = oE d 56 118 [l0, l1, l2] (.inl (1) :: S) σ Q := pKst f_56_117 (by decide)
theorem f_56_118 : oFet 56 118 = some (.goto 4, 3) := by decide +kernel
theorem s_56_118 {d : Nat} {l0 l1 l2 : oV} {S : List oV} {σ : oSg} {Q : Option oV → (Nat → oC) → Prop} : oE d 56 118 [l0, l1, l2] S σ Q = oE d 56 122 [l0, l1, l2] S σ Q := pGoto f_56_118 (by decide)
theorem f_56_121 : oFet 56 121 = some (.iconst 0, 1) := by decide +kernel
theorem s_56_121 {d : Nat} {l0 l1 l2 : oV} {S : List oV} {σ : oSg} {Q : Option oV → (Nat → oC) → Prop} : oE d 56 121 [l0, l1, l2] S σ Q = oE d 56 122 [l0, l1, l2] (.inl (0) :: S) σ Q := pKst f_56_121 (by decide)
theorem f_56_122 : oFet 56 122 = some (.ireturn, 1) := by decide +kernel
theorem s_56_122 {d : Nat} {l0 l1 l2 : oV} {x : Int} {σ : oSg} {Q : Option oV → (Nat → oC) → Prop} (hx : x = 0 ∨ x = 1) : oE d 56 122 [l0, l1, l2] [.inl x] σ Q = Q (some (.inl x)) (oBld σ) := oZret f_56_122 rt_56 hx
theorem ow_57 : (oMt 57).2.2.2.2.1 = 9 := by decide +kernel
theorem rt_57 : (oMt 57).2.2.2.1 = some .int := by decide +kernel
theorem nl_57 : (oMt 57).2.2.1 = 1 := by decide +kernel
theorem f_57_0 : oFet 57 0 = some (.aload_n 0, 1) := by decide +kernel
theorem s_57_0 {d : Nat} {a : Nat} {S : List oV} {σ : oSg} {Q : Option oV → (Nat → oC) → Prop} : oE d 57 0 [.inr (.inr (.inl a))] S σ Q = oE d 57 1 [.inr (.inr (.inl a))] (.inr (.inr (.inl a)) :: S) σ Q := pLdN (k := 0) f_57_0 rfl rfl rfl
theorem f_57_1 : oFet 57 1 = some (.getfield 28, 3) := by decide +kernel
theorem s_57_1 {d : Nat} {l0 : oV} {a : Nat} {S : List oV} {σ : oSg} {Q : Option oV → (Nat → oC) → Prop} (hk : oKd a = some 9) : oE d 57 1 [l0] (.inr (.inr (.inl a)) :: S) σ Q = oE d 57 4 [l0] (.inl (σ.1 a 2) :: S) σ Q := pGfI f_57_1 ow_57 fl_9_28 rfl (by decide) hk
theorem f_57_4 : oFet 57 4 = some (.ifCond .lt 35, 3) := by decide +kernel
theorem s_57_4 {d : Nat} {l0 : oV} {x : Int} {S : List oV} {σ : oSg} {Q : Option oV → (Nat → oC) → Prop} : oE d 57 4 [l0] (.inl x :: S) σ Q = if x < 0 then oE d 57 39 [l0] S σ Q else oE d 57 7 [l0] S σ Q := oIfLt f_57_4 (by decide)
theorem f_57_7 : oFet 57 7 = some (.aload_n 0, 1) := by decide +kernel
theorem s_57_7 {d : Nat} {a : Nat} {S : List oV} {σ : oSg} {Q : Option oV → (Nat → oC) → Prop} : oE d 57 7 [.inr (.inr (.inl a))] S σ Q = oE d 57 8 [.inr (.inr (.inl a))] (.inr (.inr (.inl a)) :: S) σ Q := pLdN (k := 0) f_57_7 rfl rfl rfl
theorem f_57_8 : oFet 57 8 = some (.getfield 28, 3) := by decide +kernel
theorem s_57_8 {d : Nat} {l0 : oV} {a : Nat} {S : List oV} {σ : oSg} {Q : Option oV → (Nat → oC) → Prop} (hk : oKd a = some 9) : oE d 57 8 [l0] (.inr (.inr (.inl a)) :: S) σ Q = oE d 57 11 [l0] (.inl (σ.1 a 2) :: S) σ Q := pGfI f_57_8 ow_57 fl_9_28 rfl (by decide) hk
theorem f_57_11 : oFet 57 11 = some (.aload_n 0, 1) := by decide +kernel
theorem s_57_11 {d : Nat} {a : Nat} {S : List oV} {σ : oSg} {Q : Option oV → (Nat → oC) → Prop} : oE d 57 11 [.inr (.inr (.inl a))] S σ Q = oE d 57 12 [.inr (.inr (.inl a))] (.inr (.inr (.inl a)) :: S) σ Q := pLdN (k := 0) f_57_11 rfl rfl rfl
theorem f_57_12 : oFet 57 12 = some (.getfield 24, 3) := by decide +kernel
theorem s_57_12 {d : Nat} {l0 : oV} {a : Nat} {S : List oV} {σ : oSg} {Q : Option oV → (Nat → oC) → Prop} (hk : oKd a = some 9) : oE d 57 12 [l0] (.inr (.inr (.inl a)) :: S) σ Q = oE d 57 15 [l0] (.inl (σ.1 a 0) :: S) σ Q := pGfI f_57_12 ow_57 fl_9_24 rfl (by decide) hk
theorem f_57_15 : oFet 57 15 = some (.if_icmp .ge 24, 3) := by decide +kernel
theorem s_57_15 {d : Nat} {l0 : oV} {x y : Int} {S : List oV} {σ : oSg} {Q : Option oV → (Nat → oC) → Prop} : oE d 57 15 [l0] (.inl y :: .inl x :: S) σ Q = if y ≤ x then oE d 57 39 [l0] S σ Q else oE d 57 18 [l0] S σ Q := oCmpGe f_57_15 (by decide)
theorem f_57_18 : oFet 57 18 = some (.aload_n 0, 1) := by decide +kernel
theorem s_57_18 {d : Nat} {a : Nat} {S : List oV} {σ : oSg} {Q : Option oV → (Nat → oC) → Prop} : oE d 57 18 [.inr (.inr (.inl a))] S σ Q = oE d 57 19 [.inr (.inr (.inl a))] (.inr (.inr (.inl a)) :: S) σ Q := pLdN (k := 0) f_57_18 rfl rfl rfl
theorem f_57_19 : oFet 57 19 = some (.getfield 28, 3) := by decide +kernel
theorem s_57_19 {d : Nat} {l0 : oV} {a : Nat} {S : List oV} {σ : oSg} {Q : Option oV → (Nat → oC) → Prop} (hk : oKd a = some 9) : oE d 57 19 [l0] (.inr (.inr (.inl a)) :: S) σ Q = oE d 57 22 [l0] (.inl (σ.1 a 2) :: S) σ Q := pGfI f_57_19 ow_57 fl_9_28 rfl (by decide) hk
theorem f_57_22 : oFet 57 22 = some (.bipush 100, 2) := by decide +kernel
theorem s_57_22 {d : Nat} {l0 : oV} {S : List oV} {σ : oSg} {Q : Option oV → (Nat → oC) → Prop} : oE d 57 22 [l0] S σ Q = oE d 57 24 [l0] (.inl (100) :: S) σ Q := pBip f_57_22 (by decide)
theorem f_57_24 : oFet 57 24 = some (.if_icmp .ge 15, 3) := by decide +kernel
theorem s_57_24 {d : Nat} {l0 : oV} {x y : Int} {S : List oV} {σ : oSg} {Q : Option oV → (Nat → oC) → Prop} : oE d 57 24 [l0] (.inl y :: .inl x :: S) σ Q = if y ≤ x then oE d 57 39 [l0] S σ Q else oE d 57 27 [l0] S σ Q := oCmpGe f_57_24 (by decide)
theorem f_57_27 : oFet 57 27 = some (.aload_n 0, 1) := by decide +kernel
theorem s_57_27 {d : Nat} {a : Nat} {S : List oV} {σ : oSg} {Q : Option oV → (Nat → oC) → Prop} : oE d 57 27 [.inr (.inr (.inl a))] S σ Q = oE d 57 28 [.inr (.inr (.inl a))] (.inr (.inr (.inl a)) :: S) σ Q := pLdN (k := 0) f_57_27 rfl rfl rfl
theorem f_57_28 : oFet 57 28 = some (.getfield 9, 3) := by decide +kernel
theorem s_57_28 {d : Nat} {l0 : oV} {a : Nat} {S : List oV} {σ : oSg} {Q : Option oV → (Nat → oC) → Prop} (hk : oKd a = some 9) : oE d 57 28 [l0] (.inr (.inr (.inl a)) :: S) σ Q = oE d 57 31 [l0] (.inr (.inr (.inl (oRf a 3))) :: S) σ Q := pGfR f_57_28 ow_57 fl_9_9 rfl (by decide) hk
theorem f_57_31 : oFet 57 31 = some (.aload_n 0, 1) := by decide +kernel
theorem s_57_31 {d : Nat} {a : Nat} {S : List oV} {σ : oSg} {Q : Option oV → (Nat → oC) → Prop} : oE d 57 31 [.inr (.inr (.inl a))] S σ Q = oE d 57 32 [.inr (.inr (.inl a))] (.inr (.inr (.inl a)) :: S) σ Q := pLdN (k := 0) f_57_31 rfl rfl rfl
theorem f_57_32 : oFet 57 32 = some (.getfield 28, 3) := by decide +kernel
theorem s_57_32 {d : Nat} {l0 : oV} {a : Nat} {S : List oV} {σ : oSg} {Q : Option oV → (Nat → oC) → Prop} (hk : oKd a = some 9) : oE d 57 32 [l0] (.inr (.inr (.inl a)) :: S) σ Q = oE d 57 35 [l0] (.inl (σ.1 a 2) :: S) σ Q := pGfI f_57_32 ow_57 fl_9_28 rfl (by decide) hk
theorem f_57_35 : oFet 57 35 = some (.baload, 1) := by decide +kernel
theorem s_57_35 {d : Nat} {l0 : oV} {a : Nat} {i : Int} {S : List oV} {σ : oSg} {Q : Option oV → (Nat → oC) → Prop} (hk : oAk a = some 2) (h0 : 0 ≤ i) (h1 : i < (oLn a : Int)) : oE d 57 35 [l0] (.inl i :: .inr (.inr (.inl a)) :: S) σ Q = oE d 57 36 [l0] (.inl (σ.2 a i.toNat) :: S) σ Q := oBal f_57_35 hk h0 h1
theorem f_57_36 : oFet 57 36 = some (.goto 4, 3) := by decide +kernel
theorem s_57_36 {d : Nat} {l0 : oV} {S : List oV} {σ : oSg} {Q : Option oV → (Nat → oC) → Prop} : oE d 57 36 [l0] S σ Q = oE d 57 40 [l0] S σ Q := pGoto f_57_36 (by decide)
theorem f_57_39 : oFet 57 39 = some (.iconst (-1), 1) := by decide +kernel
theorem s_57_39 {d : Nat} {l0 : oV} {S : List oV} {σ : oSg} {Q : Option oV → (Nat → oC) → Prop} : oE d 57 39 [l0] S σ Q = oE d 57 40 [l0] (.inl (-1) :: S) σ Q := pKst f_57_39 (by decide)
theorem f_57_40 : oFet 57 40 = some (.ireturn, 1) := by decide +kernel
theorem s_57_40 {d : Nat} {l0 : oV} {x : Int} {σ : oSg} {Q : Option oV → (Nat → oC) → Prop} : oE d 57 40 [l0] [.inl x] σ Q = Q (some (.inl x)) (oBld σ) := oIret f_57_40 rt_57
theorem ow_58 : (oMt 58).2.2.2.2.1 = 9 := by decide +kernel
theorem rt_58 : (oMt 58).2.2.2.1 = some .int := by decide +kernel
theorem nl_58 : (oMt 58).2.2.1 = 2 := by decide +kernel
theorem f_58_0 : oFet 58 0 = some (.aload_n 0, 1) := by decide +kernel
theorem s_58_0 {d : Nat} {l1 : oV} {a : Nat} {S : List oV} {σ : oSg} {Q : Option oV → (Nat → oC) → Prop} : oE d 58 0 [.inr (.inr (.inl a)), l1] S σ Q = oE d 58 1 [.inr (.inr (.inl a)), l1] (.inr (.inr (.inl a)) :: S) σ Q := pLdN (k := 0) f_58_0 rfl rfl rfl
theorem f_58_1 : oFet 58 1 = some (.invokevirtual 42, 3) := by decide +kernel
theorem c_58_1 {d : Nat} {l0 l1 : oV} {a : Nat} {v : Option oV} {τ : oSg} {S : List oV} {σ : oSg} {Q : Option oV → (Nat → oC) → Prop} (hm : oMi d 57 [.inr (.inr (.inl a))] σ v τ) (hk : oKd a = some 9) (hs : oSmall S = true) : oE d 58 1 [l0, l1] (.inr (.inr (.inl a)) :: S) σ Q = oE d 58 4 [l0, l1] (v.toList ++ S) τ Q := pCallV f_58_1 ow_58 lk_9_42 mt_57 rfl rfl rfl hk hs hm
theorem f_58_4 : oFet 58 4 = some (.istore_n 1, 1) := by decide +kernel
theorem s_58_4 {d : Nat} {l0 l1 : oV} {x : Int} {S : List oV} {σ : oSg} {Q : Option oV → (Nat → oC) → Prop} (c1 : oCat l1 = 1) (c0 : oCat l0 = 1)  : oE d 58 4 [l0, l1] (.inl x :: S) σ Q = oE d 58 5 [l0, .inl x] S σ Q := pSt (i := 1) f_58_4 rfl rfl (show (1 : Nat) < 2 by decide) (oC1n c0) (oC1n c1) rfl
theorem f_58_5 : oFet 58 5 = some (.iload_n 1, 1) := by decide +kernel
theorem s_58_5 {d : Nat} {l0 : oV} {x : Int} {S : List oV} {σ : oSg} {Q : Option oV → (Nat → oC) → Prop} : oE d 58 5 [l0, .inl x] S σ Q = oE d 58 6 [l0, .inl x] (.inl x :: S) σ Q := pLdN (k := 1) f_58_5 rfl rfl rfl
theorem f_58_6 : oFet 58 6 = some (.bipush 48, 2) := by decide +kernel
theorem s_58_6 {d : Nat} {l0 l1 : oV} {S : List oV} {σ : oSg} {Q : Option oV → (Nat → oC) → Prop} : oE d 58 6 [l0, l1] S σ Q = oE d 58 8 [l0, l1] (.inl (48) :: S) σ Q := pBip f_58_6 (by decide)
theorem f_58_8 : oFet 58 8 = some (.if_icmp .lt 9, 3) := by decide +kernel
theorem s_58_8 {d : Nat} {l0 l1 : oV} {x y : Int} {S : List oV} {σ : oSg} {Q : Option oV → (Nat → oC) → Prop} : oE d 58 8 [l0, l1] (.inl y :: .inl x :: S) σ Q = if x < y then oE d 58 17 [l0, l1] S σ Q else oE d 58 11 [l0, l1] S σ Q := oCmpLt f_58_8 (by decide)
theorem f_58_11 : oFet 58 11 = some (.iload_n 1, 1) := by decide +kernel
theorem s_58_11 {d : Nat} {l0 : oV} {x : Int} {S : List oV} {σ : oSg} {Q : Option oV → (Nat → oC) → Prop} : oE d 58 11 [l0, .inl x] S σ Q = oE d 58 12 [l0, .inl x] (.inl x :: S) σ Q := pLdN (k := 1) f_58_11 rfl rfl rfl
theorem f_58_12 : oFet 58 12 = some (.bipush 57, 2) := by decide +kernel
theorem s_58_12 {d : Nat} {l0 l1 : oV} {S : List oV} {σ : oSg} {Q : Option oV → (Nat → oC) → Prop} : oE d 58 12 [l0, l1] S σ Q = oE d 58 14 [l0, l1] (.inl (57) :: S) σ Q := pBip f_58_12 (by decide)
theorem f_58_14 : oFet 58 14 = some (.if_icmp .le 5, 3) := by decide +kernel
theorem s_58_14 {d : Nat} {l0 l1 : oV} {x y : Int} {S : List oV} {σ : oSg} {Q : Option oV → (Nat → oC) → Prop} : oE d 58 14 [l0, l1] (.inl y :: .inl x :: S) σ Q = if x ≤ y then oE d 58 19 [l0, l1] S σ Q else oE d 58 17 [l0, l1] S σ Q := oCmpLe f_58_14 (by decide)
theorem f_58_17 : oFet 58 17 = some (.iconst (-1), 1) := by decide +kernel
theorem s_58_17 {d : Nat} {l0 l1 : oV} {S : List oV} {σ : oSg} {Q : Option oV → (Nat → oC) → Prop} : oE d 58 17 [l0, l1] S σ Q = oE d 58 18 [l0, l1] (.inl (-1) :: S) σ Q := pKst f_58_17 (by decide)
theorem f_58_18 : oFet 58 18 = some (.ireturn, 1) := by decide +kernel
theorem s_58_18 {d : Nat} {l0 l1 : oV} {x : Int} {σ : oSg} {Q : Option oV → (Nat → oC) → Prop} : oE d 58 18 [l0, l1] [.inl x] σ Q = Q (some (.inl x)) (oBld σ) := oIret f_58_18 rt_58
theorem f_58_19 : oFet 58 19 = some (.aload_n 0, 1) := by decide +kernel
theorem s_58_19 {d : Nat} {l1 : oV} {a : Nat} {S : List oV} {σ : oSg} {Q : Option oV → (Nat → oC) → Prop} : oE d 58 19 [.inr (.inr (.inl a)), l1] S σ Q = oE d 58 20 [.inr (.inr (.inl a)), l1] (.inr (.inr (.inl a)) :: S) σ Q := pLdN (k := 0) f_58_19 rfl rfl rfl
theorem f_58_20 : oFet 58 20 = some (.dup, 1) := by decide +kernel
theorem s_58_20 {d : Nat} {l0 l1 : oV} {a : Nat} {S : List oV} {σ : oSg} {Q : Option oV → (Nat → oC) → Prop} : oE d 58 20 [l0, l1] (.inr (.inr (.inl a)) :: S) σ Q = oE d 58 21 [l0, l1] (.inr (.inr (.inl a)) :: .inr (.inr (.inl a)) :: S) σ Q := pDupR f_58_20
theorem s_58_20_i {d : Nat} {l0 l1 : oV} {x : Int} {S : List oV} {σ : oSg} {Q : Option oV → (Nat → oC) → Prop} : oE d 58 20 [l0, l1] (.inl x :: S) σ Q = oE d 58 21 [l0, l1] (.inl x :: .inl x :: S) σ Q := pDupI f_58_20
theorem f_58_21 : oFet 58 21 = some (.getfield 28, 3) := by decide +kernel
theorem s_58_21 {d : Nat} {l0 l1 : oV} {a : Nat} {S : List oV} {σ : oSg} {Q : Option oV → (Nat → oC) → Prop} (hk : oKd a = some 9) : oE d 58 21 [l0, l1] (.inr (.inr (.inl a)) :: S) σ Q = oE d 58 24 [l0, l1] (.inl (σ.1 a 2) :: S) σ Q := pGfI f_58_21 ow_58 fl_9_28 rfl (by decide) hk
theorem f_58_24 : oFet 58 24 = some (.iconst 1, 1) := by decide +kernel
theorem s_58_24 {d : Nat} {l0 l1 : oV} {S : List oV} {σ : oSg} {Q : Option oV → (Nat → oC) → Prop} : oE d 58 24 [l0, l1] S σ Q = oE d 58 25 [l0, l1] (.inl (1) :: S) σ Q := pKst f_58_24 (by decide)
theorem f_58_25 : oFet 58 25 = some (.iadd, 1) := by decide +kernel
theorem s_58_25 {d : Nat} {l0 l1 : oV} {x y : Int} {S : List oV} {σ : oSg} {Q : Option oV → (Nat → oC) → Prop} : oE d 58 25 [l0, l1] (.inl y :: .inl x :: S) σ Q = oE d 58 26 [l0, l1] (.inl (oAdd x y) :: S) σ Q := oS3 f_58_25 rfl rfl rfl
theorem f_58_26 : oFet 58 26 = some (.putfield 28, 3) := by decide +kernel
theorem s_58_26 {d : Nat} {l0 l1 : oV} {a : Nat} {v : Int} {S : List oV} {σ : oSg} {Q : Option oV → (Nat → oC) → Prop} (hk : oKd a = some 9) : oE d 58 26 [l0, l1] (.inl v :: .inr (.inr (.inl a)) :: S) σ Q = oE d 58 29 [l0, l1] S (oSF σ a 2 v) Q := pPfI f_58_26 ow_58 fl_9_28 rfl (by decide) rfl rfl hk
theorem f_58_29 : oFet 58 29 = some (.iload_n 1, 1) := by decide +kernel
theorem s_58_29 {d : Nat} {l0 : oV} {x : Int} {S : List oV} {σ : oSg} {Q : Option oV → (Nat → oC) → Prop} : oE d 58 29 [l0, .inl x] S σ Q = oE d 58 30 [l0, .inl x] (.inl x :: S) σ Q := pLdN (k := 1) f_58_29 rfl rfl rfl
theorem f_58_30 : oFet 58 30 = some (.bipush 48, 2) := by decide +kernel
theorem s_58_30 {d : Nat} {l0 l1 : oV} {S : List oV} {σ : oSg} {Q : Option oV → (Nat → oC) → Prop} : oE d 58 30 [l0, l1] S σ Q = oE d 58 32 [l0, l1] (.inl (48) :: S) σ Q := pBip f_58_30 (by decide)
theorem f_58_32 : oFet 58 32 = some (.isub, 1) := by decide +kernel
theorem s_58_32 {d : Nat} {l0 l1 : oV} {x y : Int} {S : List oV} {σ : oSg} {Q : Option oV → (Nat → oC) → Prop} : oE d 58 32 [l0, l1] (.inl y :: .inl x :: S) σ Q = oE d 58 33 [l0, l1] (.inl (oSub x y) :: S) σ Q := oS3 f_58_32 rfl rfl rfl
theorem f_58_33 : oFet 58 33 = some (.ireturn, 1) := by decide +kernel
theorem s_58_33 {d : Nat} {l0 l1 : oV} {x : Int} {σ : oSg} {Q : Option oV → (Nat → oC) → Prop} : oE d 58 33 [l0, l1] [.inl x] σ Q = Q (some (.inl x)) (oBld σ) := oIret f_58_33 rt_58
theorem ow_59 : (oMt 59).2.2.2.2.1 = 9 := by decide +kernel
theorem rt_59 : (oMt 59).2.2.2.1 = some .int := by decide +kernel
theorem nl_59 : (oMt 59).2.2.1 = 3 := by decide +kernel
theorem f_59_0 : oFet 59 0 = some (.aload_n 0, 1) := by decide +kernel
theorem s_59_0 {d : Nat} {l1 l2 : oV} {a : Nat} {S : List oV} {σ : oSg} {Q : Option oV → (Nat → oC) → Prop} : oE d 59 0 [.inr (.inr (.inl a)), l1, l2] S σ Q = oE d 59 1 [.inr (.inr (.inl a)), l1, l2] (.inr (.inr (.inl a)) :: S) σ Q := pLdN (k := 0) f_59_0 rfl rfl rfl
theorem f_59_1 : oFet 59 1 = some (.invokevirtual 49, 3) := by decide +kernel
theorem c_59_1 {d : Nat} {l0 l1 l2 : oV} {a : Nat} {v : Option oV} {τ : oSg} {S : List oV} {σ : oSg} {Q : Option oV → (Nat → oC) → Prop} (hm : oMi d 58 [.inr (.inr (.inl a))] σ v τ) (hk : oKd a = some 9) (hs : oSmall S = true) : oE d 59 1 [l0, l1, l2] (.inr (.inr (.inl a)) :: S) σ Q = oE d 59 4 [l0, l1, l2] (v.toList ++ S) τ Q := pCallV f_59_1 ow_59 lk_9_49 mt_58 rfl rfl rfl hk hs hm
theorem f_59_4 : oFet 59 4 = some (.istore_n 1, 1) := by decide +kernel
theorem s_59_4 {d : Nat} {l0 l1 l2 : oV} {x : Int} {S : List oV} {σ : oSg} {Q : Option oV → (Nat → oC) → Prop} (c1 : oCat l1 = 1) (c0 : oCat l0 = 1)  : oE d 59 4 [l0, l1, l2] (.inl x :: S) σ Q = oE d 59 5 [l0, .inl x, l2] S σ Q := pSt (i := 1) f_59_4 rfl rfl (show (1 : Nat) < 3 by decide) (oC1n c0) (oC1n c1) rfl
theorem f_59_5 : oFet 59 5 = some (.iload_n 1, 1) := by decide +kernel
theorem s_59_5 {d : Nat} {l0 l2 : oV} {x : Int} {S : List oV} {σ : oSg} {Q : Option oV → (Nat → oC) → Prop} : oE d 59 5 [l0, .inl x, l2] S σ Q = oE d 59 6 [l0, .inl x, l2] (.inl x :: S) σ Q := pLdN (k := 1) f_59_5 rfl rfl rfl
theorem f_59_6 : oFet 59 6 = some (.ifCond .ge 7, 3) := by decide +kernel
theorem s_59_6 {d : Nat} {l0 l1 l2 : oV} {x : Int} {S : List oV} {σ : oSg} {Q : Option oV → (Nat → oC) → Prop} : oE d 59 6 [l0, l1, l2] (.inl x :: S) σ Q = if 0 ≤ x then oE d 59 13 [l0, l1, l2] S σ Q else oE d 59 9 [l0, l1, l2] S σ Q := oIfGe f_59_6 (by decide)
theorem f_59_9 : oFet 59 9 = some (.iconst (-1), 1) := by decide +kernel
theorem s_59_9 {d : Nat} {l0 l1 l2 : oV} {S : List oV} {σ : oSg} {Q : Option oV → (Nat → oC) → Prop} : oE d 59 9 [l0, l1, l2] S σ Q = oE d 59 10 [l0, l1, l2] (.inl (-1) :: S) σ Q := pKst f_59_9 (by decide)
theorem f_59_10 : oFet 59 10 = some (.goto 7, 3) := by decide +kernel
theorem s_59_10 {d : Nat} {l0 l1 l2 : oV} {S : List oV} {σ : oSg} {Q : Option oV → (Nat → oC) → Prop} : oE d 59 10 [l0, l1, l2] S σ Q = oE d 59 17 [l0, l1, l2] S σ Q := pGoto f_59_10 (by decide)
theorem f_59_13 : oFet 59 13 = some (.aload_n 0, 1) := by decide +kernel
theorem s_59_13 {d : Nat} {l1 l2 : oV} {a : Nat} {S : List oV} {σ : oSg} {Q : Option oV → (Nat → oC) → Prop} : oE d 59 13 [.inr (.inr (.inl a)), l1, l2] S σ Q = oE d 59 14 [.inr (.inr (.inl a)), l1, l2] (.inr (.inr (.inl a)) :: S) σ Q := pLdN (k := 0) f_59_13 rfl rfl rfl
theorem f_59_14 : oFet 59 14 = some (.invokevirtual 49, 3) := by decide +kernel
theorem c_59_14 {d : Nat} {l0 l1 l2 : oV} {a : Nat} {v : Option oV} {τ : oSg} {S : List oV} {σ : oSg} {Q : Option oV → (Nat → oC) → Prop} (hm : oMi d 58 [.inr (.inr (.inl a))] σ v τ) (hk : oKd a = some 9) (hs : oSmall S = true) : oE d 59 14 [l0, l1, l2] (.inr (.inr (.inl a)) :: S) σ Q = oE d 59 17 [l0, l1, l2] (v.toList ++ S) τ Q := pCallV f_59_14 ow_59 lk_9_49 mt_58 rfl rfl rfl hk hs hm
theorem f_59_17 : oFet 59 17 = some (.istore_n 2, 1) := by decide +kernel
theorem s_59_17 {d : Nat} {l0 l1 l2 : oV} {x : Int} {S : List oV} {σ : oSg} {Q : Option oV → (Nat → oC) → Prop} (c2 : oCat l2 = 1) (c1 : oCat l1 = 1)  : oE d 59 17 [l0, l1, l2] (.inl x :: S) σ Q = oE d 59 18 [l0, l1, .inl x] S σ Q := pSt (i := 2) f_59_17 rfl rfl (show (2 : Nat) < 3 by decide) (oC1n c1) (oC1n c2) rfl
theorem f_59_18 : oFet 59 18 = some (.iload_n 2, 1) := by decide +kernel
theorem s_59_18 {d : Nat} {l0 l1 : oV} {x : Int} {S : List oV} {σ : oSg} {Q : Option oV → (Nat → oC) → Prop} : oE d 59 18 [l0, l1, .inl x] S σ Q = oE d 59 19 [l0, l1, .inl x] (.inl x :: S) σ Q := pLdN (k := 2) f_59_18 rfl rfl rfl
theorem f_59_19 : oFet 59 19 = some (.ifCond .ge 7, 3) := by decide +kernel
theorem s_59_19 {d : Nat} {l0 l1 l2 : oV} {x : Int} {S : List oV} {σ : oSg} {Q : Option oV → (Nat → oC) → Prop} : oE d 59 19 [l0, l1, l2] (.inl x :: S) σ Q = if 0 ≤ x then oE d 59 26 [l0, l1, l2] S σ Q else oE d 59 22 [l0, l1, l2] S σ Q := oIfGe f_59_19 (by decide)
theorem f_59_22 : oFet 59 22 = some (.iload_n 1, 1) := by decide +kernel
theorem s_59_22 {d : Nat} {l0 l2 : oV} {x : Int} {S : List oV} {σ : oSg} {Q : Option oV → (Nat → oC) → Prop} : oE d 59 22 [l0, .inl x, l2] S σ Q = oE d 59 23 [l0, .inl x, l2] (.inl x :: S) σ Q := pLdN (k := 1) f_59_22 rfl rfl rfl
theorem f_59_23 : oFet 59 23 = some (.goto 9, 3) := by decide +kernel
theorem s_59_23 {d : Nat} {l0 l1 l2 : oV} {S : List oV} {σ : oSg} {Q : Option oV → (Nat → oC) → Prop} : oE d 59 23 [l0, l1, l2] S σ Q = oE d 59 32 [l0, l1, l2] S σ Q := pGoto f_59_23 (by decide)
theorem f_59_26 : oFet 59 26 = some (.bipush 10, 2) := by decide +kernel
theorem s_59_26 {d : Nat} {l0 l1 l2 : oV} {S : List oV} {σ : oSg} {Q : Option oV → (Nat → oC) → Prop} : oE d 59 26 [l0, l1, l2] S σ Q = oE d 59 28 [l0, l1, l2] (.inl (10) :: S) σ Q := pBip f_59_26 (by decide)
theorem f_59_28 : oFet 59 28 = some (.iload_n 1, 1) := by decide +kernel
theorem s_59_28 {d : Nat} {l0 l2 : oV} {x : Int} {S : List oV} {σ : oSg} {Q : Option oV → (Nat → oC) → Prop} : oE d 59 28 [l0, .inl x, l2] S σ Q = oE d 59 29 [l0, .inl x, l2] (.inl x :: S) σ Q := pLdN (k := 1) f_59_28 rfl rfl rfl
theorem f_59_29 : oFet 59 29 = some (.imul, 1) := by decide +kernel
theorem s_59_29 {d : Nat} {l0 l1 l2 : oV} {x y : Int} {S : List oV} {σ : oSg} {Q : Option oV → (Nat → oC) → Prop} : oE d 59 29 [l0, l1, l2] (.inl y :: .inl x :: S) σ Q = oE d 59 30 [l0, l1, l2] (.inl (oMul x y) :: S) σ Q := oS3 f_59_29 rfl rfl rfl
theorem f_59_30 : oFet 59 30 = some (.iload_n 2, 1) := by decide +kernel
theorem s_59_30 {d : Nat} {l0 l1 : oV} {x : Int} {S : List oV} {σ : oSg} {Q : Option oV → (Nat → oC) → Prop} : oE d 59 30 [l0, l1, .inl x] S σ Q = oE d 59 31 [l0, l1, .inl x] (.inl x :: S) σ Q := pLdN (k := 2) f_59_30 rfl rfl rfl
theorem f_59_31 : oFet 59 31 = some (.iadd, 1) := by decide +kernel
theorem s_59_31 {d : Nat} {l0 l1 l2 : oV} {x y : Int} {S : List oV} {σ : oSg} {Q : Option oV → (Nat → oC) → Prop} : oE d 59 31 [l0, l1, l2] (.inl y :: .inl x :: S) σ Q = oE d 59 32 [l0, l1, l2] (.inl (oAdd x y) :: S) σ Q := oS3 f_59_31 rfl rfl rfl
theorem f_59_32 : oFet 59 32 = some (.ireturn, 1) := by decide +kernel
theorem s_59_32 {d : Nat} {l0 l1 l2 : oV} {x : Int} {σ : oSg} {Q : Option oV → (Nat → oC) → Prop} : oE d 59 32 [l0, l1, l2] [.inl x] σ Q = Q (some (.inl x)) (oBld σ) := oIret f_59_32 rt_59
theorem ow_60 : (oMt 60).2.2.2.2.1 = 10 := by decide +kernel
theorem rt_60 : (oMt 60).2.2.2.1 = some .int := by decide +kernel
theorem nl_60 : (oMt 60).2.2.1 = 3 := by decide +kernel
theorem f_60_0 : oFet 60 0 = some (.iconst 0, 1) := by decide +kernel
theorem s_60_0 {d : Nat} {l0 l1 l2 : oV} {S : List oV} {σ : oSg} {Q : Option oV → (Nat → oC) → Prop} : oE d 60 0 [l0, l1, l2] S σ Q = oE d 60 1 [l0, l1, l2] (.inl (0) :: S) σ Q := pKst f_60_0 (by decide)
theorem f_60_1 : oFet 60 1 = some (.istore_n 1, 1) := by decide +kernel
theorem s_60_1 {d : Nat} {l0 l1 l2 : oV} {x : Int} {S : List oV} {σ : oSg} {Q : Option oV → (Nat → oC) → Prop} (c1 : oCat l1 = 1) (c0 : oCat l0 = 1)  : oE d 60 1 [l0, l1, l2] (.inl x :: S) σ Q = oE d 60 2 [l0, .inl x, l2] S σ Q := pSt (i := 1) f_60_1 rfl rfl (show (1 : Nat) < 3 by decide) (oC1n c0) (oC1n c1) rfl
theorem f_60_2 : oFet 60 2 = some (.iconst 0, 1) := by decide +kernel
theorem s_60_2 {d : Nat} {l0 l1 l2 : oV} {S : List oV} {σ : oSg} {Q : Option oV → (Nat → oC) → Prop} : oE d 60 2 [l0, l1, l2] S σ Q = oE d 60 3 [l0, l1, l2] (.inl (0) :: S) σ Q := pKst f_60_2 (by decide)
theorem f_60_3 : oFet 60 3 = some (.istore_n 2, 1) := by decide +kernel
theorem s_60_3 {d : Nat} {l0 l1 l2 : oV} {x : Int} {S : List oV} {σ : oSg} {Q : Option oV → (Nat → oC) → Prop} (c2 : oCat l2 = 1) (c1 : oCat l1 = 1)  : oE d 60 3 [l0, l1, l2] (.inl x :: S) σ Q = oE d 60 4 [l0, l1, .inl x] S σ Q := pSt (i := 2) f_60_3 rfl rfl (show (2 : Nat) < 3 by decide) (oC1n c1) (oC1n c2) rfl
theorem f_60_4 : oFet 60 4 = some (.iload_n 2, 1) := by decide +kernel
theorem s_60_4 {d : Nat} {l0 l1 : oV} {x : Int} {S : List oV} {σ : oSg} {Q : Option oV → (Nat → oC) → Prop} : oE d 60 4 [l0, l1, .inl x] S σ Q = oE d 60 5 [l0, l1, .inl x] (.inl x :: S) σ Q := pLdN (k := 2) f_60_4 rfl rfl rfl
theorem f_60_5 : oFet 60 5 = some (.aload_n 0, 1) := by decide +kernel
theorem s_60_5 {d : Nat} {l1 l2 : oV} {a : Nat} {S : List oV} {σ : oSg} {Q : Option oV → (Nat → oC) → Prop} : oE d 60 5 [.inr (.inr (.inl a)), l1, l2] S σ Q = oE d 60 6 [.inr (.inr (.inl a)), l1, l2] (.inr (.inr (.inl a)) :: S) σ Q := pLdN (k := 0) f_60_5 rfl rfl rfl
theorem f_60_6 : oFet 60 6 = some (.getfield 24, 3) := by decide +kernel
theorem s_60_6 {d : Nat} {l0 l1 l2 : oV} {a : Nat} {S : List oV} {σ : oSg} {Q : Option oV → (Nat → oC) → Prop} (hk : oKd a = some 10) : oE d 60 6 [l0, l1, l2] (.inr (.inr (.inl a)) :: S) σ Q = oE d 60 9 [l0, l1, l2] (.inr (.inr (.inl (oRf a 3))) :: S) σ Q := pGfR f_60_6 ow_60 fl_10_24 rfl (by decide) hk
theorem f_60_9 : oFet 60 9 = some (.getfield 154, 3) := by decide +kernel
theorem s_60_9 {d : Nat} {l0 l1 l2 : oV} {a : Nat} {S : List oV} {σ : oSg} {Q : Option oV → (Nat → oC) → Prop} (hk : oKd a = some 9) : oE d 60 9 [l0, l1, l2] (.inr (.inr (.inl a)) :: S) σ Q = oE d 60 12 [l0, l1, l2] (.inl (σ.1 a 1) :: S) σ Q := pGfI f_60_9 ow_60 fl_10_154 rfl (by decide) hk
theorem f_60_12 : oFet 60 12 = some (.if_icmp .ge 27, 3) := by decide +kernel
theorem s_60_12 {d : Nat} {l0 l1 l2 : oV} {x y : Int} {S : List oV} {σ : oSg} {Q : Option oV → (Nat → oC) → Prop} : oE d 60 12 [l0, l1, l2] (.inl y :: .inl x :: S) σ Q = if y ≤ x then oE d 60 39 [l0, l1, l2] S σ Q else oE d 60 15 [l0, l1, l2] S σ Q := oCmpGe f_60_12 (by decide)
theorem f_60_15 : oFet 60 15 = some (.aload_n 0, 1) := by decide +kernel
theorem s_60_15 {d : Nat} {l1 l2 : oV} {a : Nat} {S : List oV} {σ : oSg} {Q : Option oV → (Nat → oC) → Prop} : oE d 60 15 [.inr (.inr (.inl a)), l1, l2] S σ Q = oE d 60 16 [.inr (.inr (.inl a)), l1, l2] (.inr (.inr (.inl a)) :: S) σ Q := pLdN (k := 0) f_60_15 rfl rfl rfl
theorem f_60_16 : oFet 60 16 = some (.aload_n 0, 1) := by decide +kernel
theorem s_60_16 {d : Nat} {l1 l2 : oV} {a : Nat} {S : List oV} {σ : oSg} {Q : Option oV → (Nat → oC) → Prop} : oE d 60 16 [.inr (.inr (.inl a)), l1, l2] S σ Q = oE d 60 17 [.inr (.inr (.inl a)), l1, l2] (.inr (.inr (.inl a)) :: S) σ Q := pLdN (k := 0) f_60_16 rfl rfl rfl
theorem f_60_17 : oFet 60 17 = some (.getfield 24, 3) := by decide +kernel
theorem s_60_17 {d : Nat} {l0 l1 l2 : oV} {a : Nat} {S : List oV} {σ : oSg} {Q : Option oV → (Nat → oC) → Prop} (hk : oKd a = some 10) : oE d 60 17 [l0, l1, l2] (.inr (.inr (.inl a)) :: S) σ Q = oE d 60 20 [l0, l1, l2] (.inr (.inr (.inl (oRf a 3))) :: S) σ Q := pGfR f_60_17 ow_60 fl_10_24 rfl (by decide) hk
theorem f_60_20 : oFet 60 20 = some (.iload_n 2, 1) := by decide +kernel
theorem s_60_20 {d : Nat} {l0 l1 : oV} {x : Int} {S : List oV} {σ : oSg} {Q : Option oV → (Nat → oC) → Prop} : oE d 60 20 [l0, l1, .inl x] S σ Q = oE d 60 21 [l0, l1, .inl x] (.inl x :: S) σ Q := pLdN (k := 2) f_60_20 rfl rfl rfl
theorem f_60_21 : oFet 60 21 = some (.invokevirtual 157, 3) := by decide +kernel
theorem c_60_21 {d : Nat} {l0 l1 l2 : oV} {x0 : oV} {a : Nat} {v : Option oV} {τ : oSg} {S : List oV} {σ : oSg} {Q : Option oV → (Nat → oC) → Prop} (hm : oMi d 55 [.inr (.inr (.inl a)), x0] σ v τ) (hk : oKd a = some 9) (hs : oSmall S = true) : oE d 60 21 [l0, l1, l2] (x0 :: .inr (.inr (.inl a)) :: S) σ Q = oE d 60 24 [l0, l1, l2] (v.toList ++ S) τ Q := pCallV f_60_21 ow_60 lk_10_157 mt_55 rfl rfl rfl hk hs hm
theorem f_60_24 : oFet 60 24 = some (.invokevirtual 161, 3) := by decide +kernel
theorem c_60_24 {d : Nat} {l0 l1 l2 : oV} {x0 : oV} {a : Nat} {v : Option oV} {τ : oSg} {S : List oV} {σ : oSg} {Q : Option oV → (Nat → oC) → Prop} (hm : oMi d 61 [.inr (.inr (.inl a)), x0] σ v τ) (hk : oKd a = some 10) (hs : oSmall S = true) : oE d 60 24 [l0, l1, l2] (x0 :: .inr (.inr (.inl a)) :: S) σ Q = oE d 60 27 [l0, l1, l2] (v.toList ++ S) τ Q := pCallV f_60_24 ow_60 lk_10_161 mt_61 rfl rfl rfl hk hs hm
theorem f_60_27 : oFet 60 27 = some (.ifCond .lt 6, 3) := by decide +kernel
theorem s_60_27 {d : Nat} {l0 l1 l2 : oV} {x : Int} {S : List oV} {σ : oSg} {Q : Option oV → (Nat → oC) → Prop} : oE d 60 27 [l0, l1, l2] (.inl x :: S) σ Q = if x < 0 then oE d 60 33 [l0, l1, l2] S σ Q else oE d 60 30 [l0, l1, l2] S σ Q := oIfLt f_60_27 (by decide)
theorem f_60_30 : oFet 60 30 = some (.iinc 1 1, 3) := by decide +kernel
theorem s_60_30 {d : Nat} {l0 l2 : oV} {x : Int} {S : List oV} {σ : oSg} {Q : Option oV → (Nat → oC) → Prop} (c0 : oCat l0 = 1)  : oE d 60 30 [l0, .inl x, l2] S σ Q = oE d 60 33 [l0, .inl (oAdd x (1)), l2] S σ Q := pInc f_60_30 rfl (show (1 : Nat) < 3 by decide) (oC1n c0) (oC1n (v := .inl x) rfl) rfl
theorem f_60_33 : oFet 60 33 = some (.iinc 2 1, 3) := by decide +kernel
theorem s_60_33 {d : Nat} {l0 l1 : oV} {x : Int} {S : List oV} {σ : oSg} {Q : Option oV → (Nat → oC) → Prop} (c1 : oCat l1 = 1)  : oE d 60 33 [l0, l1, .inl x] S σ Q = oE d 60 36 [l0, l1, .inl (oAdd x (1))] S σ Q := pInc f_60_33 rfl (show (2 : Nat) < 3 by decide) (oC1n c1) (oC1n (v := .inl x) rfl) rfl
theorem f_60_36 : oFet 60 36 = some (.goto (-32), 3) := by decide +kernel
theorem s_60_36 {d : Nat} {l0 l1 l2 : oV} {S : List oV} {σ : oSg} {Q : Option oV → (Nat → oC) → Prop} : oE d 60 36 [l0, l1, l2] S σ Q = oE d 60 4 [l0, l1, l2] S σ Q := pGoto f_60_36 (by decide)
theorem f_60_39 : oFet 60 39 = some (.iload_n 1, 1) := by decide +kernel
theorem s_60_39 {d : Nat} {l0 l2 : oV} {x : Int} {S : List oV} {σ : oSg} {Q : Option oV → (Nat → oC) → Prop} : oE d 60 39 [l0, .inl x, l2] S σ Q = oE d 60 40 [l0, .inl x, l2] (.inl x :: S) σ Q := pLdN (k := 1) f_60_39 rfl rfl rfl
theorem f_60_40 : oFet 60 40 = some (.ireturn, 1) := by decide +kernel
theorem s_60_40 {d : Nat} {l0 l1 l2 : oV} {x : Int} {σ : oSg} {Q : Option oV → (Nat → oC) → Prop} : oE d 60 40 [l0, l1, l2] [.inl x] σ Q = Q (some (.inl x)) (oBld σ) := oIret f_60_40 rt_60
theorem ow_61 : (oMt 61).2.2.2.2.1 = 10 := by decide +kernel
theorem rt_61 : (oMt 61).2.2.2.1 = some .int := by decide +kernel
theorem nl_61 : (oMt 61).2.2.1 = 2 := by decide +kernel
theorem f_61_0 : oFet 61 0 = some (.aload_n 1, 1) := by decide +kernel
theorem s_61_0 {d : Nat} {l0 : oV} {a : Nat} {S : List oV} {σ : oSg} {Q : Option oV → (Nat → oC) → Prop} : oE d 61 0 [l0, .inr (.inr (.inl a))] S σ Q = oE d 61 1 [l0, .inr (.inr (.inl a))] (.inr (.inr (.inl a)) :: S) σ Q := pLdN (k := 1) f_61_0 rfl rfl rfl
theorem f_61_1 : oFet 61 1 = some (.getfield 165, 3) := by decide +kernel
theorem s_61_1 {d : Nat} {l0 l1 : oV} {a : Nat} {S : List oV} {σ : oSg} {Q : Option oV → (Nat → oC) → Prop} (hk : oKd a = some 0) : oE d 61 1 [l0, l1] (.inr (.inr (.inl a)) :: S) σ Q = oE d 61 4 [l0, l1] (.inl (σ.1 a 0) :: S) σ Q := pGfI f_61_1 ow_61 fl_10_165 rfl (by decide) hk
theorem f_61_4 : oFet 61 4 = some (.lookupswitch 92 #[(104, 79), (109, 66), (112, 44), (119, 49)], 44) := by decide +kernel
theorem s_61_4_104 {d : Nat} {l0 l1 : oV} {S : List oV} {σ : oSg} {Q : Option oV → (Nat → oC) → Prop} : oE d 61 4 [l0, l1] (.inl (104) :: S) σ Q = oE d 61 83 [l0, l1] S σ Q := oLook (off := 79) f_61_4 (by decide) (by decide +kernel) (by decide)
theorem s_61_4_109 {d : Nat} {l0 l1 : oV} {S : List oV} {σ : oSg} {Q : Option oV → (Nat → oC) → Prop} : oE d 61 4 [l0, l1] (.inl (109) :: S) σ Q = oE d 61 70 [l0, l1] S σ Q := oLook (off := 66) f_61_4 (by decide) (by decide +kernel) (by decide)
theorem s_61_4_112 {d : Nat} {l0 l1 : oV} {S : List oV} {σ : oSg} {Q : Option oV → (Nat → oC) → Prop} : oE d 61 4 [l0, l1] (.inl (112) :: S) σ Q = oE d 61 48 [l0, l1] S σ Q := oLook (off := 44) f_61_4 (by decide) (by decide +kernel) (by decide)
theorem s_61_4_119 {d : Nat} {l0 l1 : oV} {S : List oV} {σ : oSg} {Q : Option oV → (Nat → oC) → Prop} : oE d 61 4 [l0, l1] (.inl (119) :: S) σ Q = oE d 61 53 [l0, l1] S σ Q := oLook (off := 49) f_61_4 (by decide) (by decide +kernel) (by decide)
theorem s_61_4_d {d : Nat} {l0 l1 : oV} {x : Int} {S : List oV} {σ : oSg} {Q : Option oV → (Nat → oC) → Prop} (hx : x ≠ 104 ∧ x ≠ 109 ∧ x ≠ 112 ∧ x ≠ 119) : oE d 61 4 [l0, l1] (.inl x :: S) σ Q = oE d 61 96 [l0, l1] S σ Q := oLook (off := 92) f_61_4 (by decide) (by simp [Op.lookupswitch.offset_cons, Op.lookupswitch.offset, hx.1.symm, hx.1.symm, hx.2.1.symm, hx.2.2.1.symm, hx.2.2.2.symm]) (by decide)
theorem f_61_48 : oFet 61 48 = some (.aload_n 0, 1) := by decide +kernel
theorem s_61_48 {d : Nat} {l1 : oV} {a : Nat} {S : List oV} {σ : oSg} {Q : Option oV → (Nat → oC) → Prop} : oE d 61 48 [.inr (.inr (.inl a)), l1] S σ Q = oE d 61 49 [.inr (.inr (.inl a)), l1] (.inr (.inr (.inl a)) :: S) σ Q := pLdN (k := 0) f_61_48 rfl rfl rfl
theorem f_61_49 : oFet 61 49 = some (.invokevirtual 170, 3) := by decide +kernel
theorem c_61_49 {d : Nat} {l0 l1 : oV} {a : Nat} {v : Option oV} {τ : oSg} {S : List oV} {σ : oSg} {Q : Option oV → (Nat → oC) → Prop} (hm : oMi d 12 [.inr (.inr (.inl a))] σ v τ) (hk : oKd a = some 10) (hs : oSmall S = true) : oE d 61 49 [l0, l1] (.inr (.inr (.inl a)) :: S) σ Q = oE d 61 52 [l0, l1] (v.toList ++ S) τ Q := pCallV f_61_49 ow_61 lk_10_170 mt_12 rfl rfl rfl hk hs hm
theorem f_61_52 : oFet 61 52 = some (.ireturn, 1) := by decide +kernel
theorem s_61_52 {d : Nat} {l0 l1 : oV} {x : Int} {σ : oSg} {Q : Option oV → (Nat → oC) → Prop} : oE d 61 52 [l0, l1] [.inl x] σ Q = Q (some (.inl x)) (oBld σ) := oIret f_61_52 rt_61
theorem f_61_53 : oFet 61 53 = some (.aload_n 0, 1) := by decide +kernel
theorem s_61_53 {d : Nat} {l1 : oV} {a : Nat} {S : List oV} {σ : oSg} {Q : Option oV → (Nat → oC) → Prop} : oE d 61 53 [.inr (.inr (.inl a)), l1] S σ Q = oE d 61 54 [.inr (.inr (.inl a)), l1] (.inr (.inr (.inl a)) :: S) σ Q := pLdN (k := 0) f_61_53 rfl rfl rfl
theorem f_61_54 : oFet 61 54 = some (.aload_n 1, 1) := by decide +kernel
theorem s_61_54 {d : Nat} {l0 : oV} {a : Nat} {S : List oV} {σ : oSg} {Q : Option oV → (Nat → oC) → Prop} : oE d 61 54 [l0, .inr (.inr (.inl a))] S σ Q = oE d 61 55 [l0, .inr (.inr (.inl a))] (.inr (.inr (.inl a)) :: S) σ Q := pLdN (k := 1) f_61_54 rfl rfl rfl
theorem f_61_55 : oFet 61 55 = some (.getfield 173, 3) := by decide +kernel
theorem s_61_55 {d : Nat} {l0 l1 : oV} {a : Nat} {S : List oV} {σ : oSg} {Q : Option oV → (Nat → oC) → Prop} (hk : oKd a = some 0) : oE d 61 55 [l0, l1] (.inr (.inr (.inl a)) :: S) σ Q = oE d 61 58 [l0, l1] (.inl (σ.1 a 1) :: S) σ Q := pGfI f_61_55 ow_61 fl_10_173 rfl (by decide) hk
theorem f_61_58 : oFet 61 58 = some (.aload_n 1, 1) := by decide +kernel
theorem s_61_58 {d : Nat} {l0 : oV} {a : Nat} {S : List oV} {σ : oSg} {Q : Option oV → (Nat → oC) → Prop} : oE d 61 58 [l0, .inr (.inr (.inl a))] S σ Q = oE d 61 59 [l0, .inr (.inr (.inl a))] (.inr (.inr (.inl a)) :: S) σ Q := pLdN (k := 1) f_61_58 rfl rfl rfl
theorem f_61_59 : oFet 61 59 = some (.getfield 176, 3) := by decide +kernel
theorem s_61_59 {d : Nat} {l0 l1 : oV} {a : Nat} {S : List oV} {σ : oSg} {Q : Option oV → (Nat → oC) → Prop} (hk : oKd a = some 0) : oE d 61 59 [l0, l1] (.inr (.inr (.inl a)) :: S) σ Q = oE d 61 62 [l0, l1] (.inl (σ.1 a 2) :: S) σ Q := pGfI f_61_59 ow_61 fl_10_176 rfl (by decide) hk
theorem f_61_62 : oFet 61 62 = some (.aload_n 1, 1) := by decide +kernel
theorem s_61_62 {d : Nat} {l0 : oV} {a : Nat} {S : List oV} {σ : oSg} {Q : Option oV → (Nat → oC) → Prop} : oE d 61 62 [l0, .inr (.inr (.inl a))] S σ Q = oE d 61 63 [l0, .inr (.inr (.inl a))] (.inr (.inr (.inl a)) :: S) σ Q := pLdN (k := 1) f_61_62 rfl rfl rfl
theorem f_61_63 : oFet 61 63 = some (.getfield 179, 3) := by decide +kernel
theorem s_61_63 {d : Nat} {l0 l1 : oV} {a : Nat} {S : List oV} {σ : oSg} {Q : Option oV → (Nat → oC) → Prop} (hk : oKd a = some 0) : oE d 61 63 [l0, l1] (.inr (.inr (.inl a)) :: S) σ Q = oE d 61 66 [l0, l1] (.inl (σ.1 a 3) :: S) σ Q := pGfI f_61_63 ow_61 fl_10_179 rfl (by decide) hk
theorem f_61_66 : oFet 61 66 = some (.invokevirtual 182, 3) := by decide +kernel
theorem c_61_66 {d : Nat} {l0 l1 : oV} {x0 x1 x2 : oV} {a : Nat} {v : Option oV} {τ : oSg} {S : List oV} {σ : oSg} {Q : Option oV → (Nat → oC) → Prop} (hm : oMi d 13 [.inr (.inr (.inl a)), x0, x1, x2] σ v τ) (hk : oKd a = some 10) (hs : oSmall S = true) : oE d 61 66 [l0, l1] (x2 :: x1 :: x0 :: .inr (.inr (.inl a)) :: S) σ Q = oE d 61 69 [l0, l1] (v.toList ++ S) τ Q := pCallV f_61_66 ow_61 lk_10_182 mt_13 rfl rfl rfl hk hs hm
theorem f_61_69 : oFet 61 69 = some (.ireturn, 1) := by decide +kernel
theorem s_61_69 {d : Nat} {l0 l1 : oV} {x : Int} {σ : oSg} {Q : Option oV → (Nat → oC) → Prop} : oE d 61 69 [l0, l1] [.inl x] σ Q = Q (some (.inl x)) (oBld σ) := oIret f_61_69 rt_61
theorem f_61_70 : oFet 61 70 = some (.aload_n 0, 1) := by decide +kernel
theorem s_61_70 {d : Nat} {l1 : oV} {a : Nat} {S : List oV} {σ : oSg} {Q : Option oV → (Nat → oC) → Prop} : oE d 61 70 [.inr (.inr (.inl a)), l1] S σ Q = oE d 61 71 [.inr (.inr (.inl a)), l1] (.inr (.inr (.inl a)) :: S) σ Q := pLdN (k := 0) f_61_70 rfl rfl rfl
theorem f_61_71 : oFet 61 71 = some (.aload_n 1, 1) := by decide +kernel
theorem s_61_71 {d : Nat} {l0 : oV} {a : Nat} {S : List oV} {σ : oSg} {Q : Option oV → (Nat → oC) → Prop} : oE d 61 71 [l0, .inr (.inr (.inl a))] S σ Q = oE d 61 72 [l0, .inr (.inr (.inl a))] (.inr (.inr (.inl a)) :: S) σ Q := pLdN (k := 1) f_61_71 rfl rfl rfl
theorem f_61_72 : oFet 61 72 = some (.getfield 173, 3) := by decide +kernel
theorem s_61_72 {d : Nat} {l0 l1 : oV} {a : Nat} {S : List oV} {σ : oSg} {Q : Option oV → (Nat → oC) → Prop} (hk : oKd a = some 0) : oE d 61 72 [l0, l1] (.inr (.inr (.inl a)) :: S) σ Q = oE d 61 75 [l0, l1] (.inl (σ.1 a 1) :: S) σ Q := pGfI f_61_72 ow_61 fl_10_173 rfl (by decide) hk
theorem f_61_75 : oFet 61 75 = some (.aload_n 1, 1) := by decide +kernel
theorem s_61_75 {d : Nat} {l0 : oV} {a : Nat} {S : List oV} {σ : oSg} {Q : Option oV → (Nat → oC) → Prop} : oE d 61 75 [l0, .inr (.inr (.inl a))] S σ Q = oE d 61 76 [l0, .inr (.inr (.inl a))] (.inr (.inr (.inl a)) :: S) σ Q := pLdN (k := 1) f_61_75 rfl rfl rfl
theorem f_61_76 : oFet 61 76 = some (.getfield 176, 3) := by decide +kernel
theorem s_61_76 {d : Nat} {l0 l1 : oV} {a : Nat} {S : List oV} {σ : oSg} {Q : Option oV → (Nat → oC) → Prop} (hk : oKd a = some 0) : oE d 61 76 [l0, l1] (.inr (.inr (.inl a)) :: S) σ Q = oE d 61 79 [l0, l1] (.inl (σ.1 a 2) :: S) σ Q := pGfI f_61_76 ow_61 fl_10_176 rfl (by decide) hk
theorem f_61_79 : oFet 61 79 = some (.invokevirtual 186, 3) := by decide +kernel
theorem c_61_79 {d : Nat} {l0 l1 : oV} {x0 x1 : oV} {a : Nat} {v : Option oV} {τ : oSg} {S : List oV} {σ : oSg} {Q : Option oV → (Nat → oC) → Prop} (hm : oMi d 21 [.inr (.inr (.inl a)), x0, x1] σ v τ) (hk : oKd a = some 10) (hs : oSmall S = true) : oE d 61 79 [l0, l1] (x1 :: x0 :: .inr (.inr (.inl a)) :: S) σ Q = oE d 61 82 [l0, l1] (v.toList ++ S) τ Q := pCallV f_61_79 ow_61 lk_10_186 mt_21 rfl rfl rfl hk hs hm
theorem f_61_82 : oFet 61 82 = some (.ireturn, 1) := by decide +kernel
theorem s_61_82 {d : Nat} {l0 l1 : oV} {x : Int} {σ : oSg} {Q : Option oV → (Nat → oC) → Prop} : oE d 61 82 [l0, l1] [.inl x] σ Q = Q (some (.inl x)) (oBld σ) := oIret f_61_82 rt_61
theorem f_61_83 : oFet 61 83 = some (.aload_n 0, 1) := by decide +kernel
theorem s_61_83 {d : Nat} {l1 : oV} {a : Nat} {S : List oV} {σ : oSg} {Q : Option oV → (Nat → oC) → Prop} : oE d 61 83 [.inr (.inr (.inl a)), l1] S σ Q = oE d 61 84 [.inr (.inr (.inl a)), l1] (.inr (.inr (.inl a)) :: S) σ Q := pLdN (k := 0) f_61_83 rfl rfl rfl
theorem f_61_84 : oFet 61 84 = some (.aload_n 1, 1) := by decide +kernel
theorem s_61_84 {d : Nat} {l0 : oV} {a : Nat} {S : List oV} {σ : oSg} {Q : Option oV → (Nat → oC) → Prop} : oE d 61 84 [l0, .inr (.inr (.inl a))] S σ Q = oE d 61 85 [l0, .inr (.inr (.inl a))] (.inr (.inr (.inl a)) :: S) σ Q := pLdN (k := 1) f_61_84 rfl rfl rfl
theorem f_61_85 : oFet 61 85 = some (.getfield 173, 3) := by decide +kernel
theorem s_61_85 {d : Nat} {l0 l1 : oV} {a : Nat} {S : List oV} {σ : oSg} {Q : Option oV → (Nat → oC) → Prop} (hk : oKd a = some 0) : oE d 61 85 [l0, l1] (.inr (.inr (.inl a)) :: S) σ Q = oE d 61 88 [l0, l1] (.inl (σ.1 a 1) :: S) σ Q := pGfI f_61_85 ow_61 fl_10_173 rfl (by decide) hk
theorem f_61_88 : oFet 61 88 = some (.aload_n 1, 1) := by decide +kernel
theorem s_61_88 {d : Nat} {l0 : oV} {a : Nat} {S : List oV} {σ : oSg} {Q : Option oV → (Nat → oC) → Prop} : oE d 61 88 [l0, .inr (.inr (.inl a))] S σ Q = oE d 61 89 [l0, .inr (.inr (.inl a))] (.inr (.inr (.inl a)) :: S) σ Q := pLdN (k := 1) f_61_88 rfl rfl rfl
theorem f_61_89 : oFet 61 89 = some (.getfield 179, 3) := by decide +kernel
theorem s_61_89 {d : Nat} {l0 l1 : oV} {a : Nat} {S : List oV} {σ : oSg} {Q : Option oV → (Nat → oC) → Prop} (hk : oKd a = some 0) : oE d 61 89 [l0, l1] (.inr (.inr (.inl a)) :: S) σ Q = oE d 61 92 [l0, l1] (.inl (σ.1 a 3) :: S) σ Q := pGfI f_61_89 ow_61 fl_10_179 rfl (by decide) hk
theorem f_61_92 : oFet 61 92 = some (.invokevirtual 189, 3) := by decide +kernel
theorem c_61_92 {d : Nat} {l0 l1 : oV} {x0 x1 : oV} {a : Nat} {v : Option oV} {τ : oSg} {S : List oV} {σ : oSg} {Q : Option oV → (Nat → oC) → Prop} (hm : oMi d 62 [.inr (.inr (.inl a)), x0, x1] σ v τ) (hk : oKd a = some 10) (hs : oSmall S = true) : oE d 61 92 [l0, l1] (x1 :: x0 :: .inr (.inr (.inl a)) :: S) σ Q = oE d 61 95 [l0, l1] (v.toList ++ S) τ Q := pCallV f_61_92 ow_61 lk_10_189 mt_62 rfl rfl rfl hk hs hm
theorem f_61_95 : oFet 61 95 = some (.ireturn, 1) := by decide +kernel
theorem s_61_95 {d : Nat} {l0 l1 : oV} {x : Int} {σ : oSg} {Q : Option oV → (Nat → oC) → Prop} : oE d 61 95 [l0, l1] [.inl x] σ Q = Q (some (.inl x)) (oBld σ) := oIret f_61_95 rt_61
theorem f_61_96 : oFet 61 96 = some (.bipush (-2), 2) := by decide +kernel
theorem s_61_96 {d : Nat} {l0 l1 : oV} {S : List oV} {σ : oSg} {Q : Option oV → (Nat → oC) → Prop} : oE d 61 96 [l0, l1] S σ Q = oE d 61 98 [l0, l1] (.inl (-2) :: S) σ Q := pBip f_61_96 (by decide)
theorem f_61_98 : oFet 61 98 = some (.ireturn, 1) := by decide +kernel
theorem s_61_98 {d : Nat} {l0 l1 : oV} {x : Int} {σ : oSg} {Q : Option oV → (Nat → oC) → Prop} : oE d 61 98 [l0, l1] [.inl x] σ Q = Q (some (.inl x)) (oBld σ) := oIret f_61_98 rt_61
theorem ow_62 : (oMt 62).2.2.2.2.1 = 10 := by decide +kernel
theorem rt_62 : (oMt 62).2.2.2.1 = some .int := by decide +kernel
theorem nl_62 : (oMt 62).2.2.1 = 4 := by decide +kernel
theorem f_62_0 : oFet 62 0 = some (.aload_n 0, 1) := by decide +kernel
theorem s_62_0 {d : Nat} {l1 l2 l3 : oV} {a : Nat} {S : List oV} {σ : oSg} {Q : Option oV → (Nat → oC) → Prop} : oE d 62 0 [.inr (.inr (.inl a)), l1, l2, l3] S σ Q = oE d 62 1 [.inr (.inr (.inl a)), l1, l2, l3] (.inr (.inr (.inl a)) :: S) σ Q := pLdN (k := 0) f_62_0 rfl rfl rfl
theorem f_62_1 : oFet 62 1 = some (.getfield 12, 3) := by decide +kernel
theorem s_62_1 {d : Nat} {l0 l1 l2 l3 : oV} {a : Nat} {S : List oV} {σ : oSg} {Q : Option oV → (Nat → oC) → Prop} (hk : oKd a = some 10) : oE d 62 1 [l0, l1, l2, l3] (.inr (.inr (.inl a)) :: S) σ Q = oE d 62 4 [l0, l1, l2, l3] (.inr (.inr (.inl (oRf a 0))) :: S) σ Q := pGfR f_62_1 ow_62 fl_10_12 rfl (by decide) hk
theorem f_62_4 : oFet 62 4 = some (.getfield 73, 3) := by decide +kernel
theorem s_62_4 {d : Nat} {l0 l1 l2 l3 : oV} {a : Nat} {S : List oV} {σ : oSg} {Q : Option oV → (Nat → oC) → Prop} (hk : oKd a = some 1) : oE d 62 4 [l0, l1, l2, l3] (.inr (.inr (.inl a)) :: S) σ Q = oE d 62 7 [l0, l1, l2, l3] (.inr (.inr (.inl (oRf a 0))) :: S) σ Q := pGfR f_62_4 ow_62 fl_10_73 rfl (by decide) hk
theorem f_62_7 : oFet 62 7 = some (.iload_n 1, 1) := by decide +kernel
theorem s_62_7 {d : Nat} {l0 l2 l3 : oV} {x : Int} {S : List oV} {σ : oSg} {Q : Option oV → (Nat → oC) → Prop} : oE d 62 7 [l0, .inl x, l2, l3] S σ Q = oE d 62 8 [l0, .inl x, l2, l3] (.inl x :: S) σ Q := pLdN (k := 1) f_62_7 rfl rfl rfl
theorem f_62_8 : oFet 62 8 = some (.invokevirtual 115, 3) := by decide +kernel
theorem c_62_8 {d : Nat} {l0 l1 l2 l3 : oV} {x0 : oV} {a : Nat} {v : Option oV} {τ : oSg} {S : List oV} {σ : oSg} {Q : Option oV → (Nat → oC) → Prop} (hm : oMi d 15 [.inr (.inr (.inl a)), x0] σ v τ) (hk : oKd a = some 4) (hs : oSmall S = true) : oE d 62 8 [l0, l1, l2, l3] (x0 :: .inr (.inr (.inl a)) :: S) σ Q = oE d 62 11 [l0, l1, l2, l3] (v.toList ++ S) τ Q := pCallV f_62_8 ow_62 lk_10_115 mt_15 rfl rfl rfl hk hs hm
theorem f_62_11 : oFet 62 11 = some (.ifCond .ne 5, 3) := by decide +kernel
theorem s_62_11 {d : Nat} {l0 l1 l2 l3 : oV} {x : Int} {S : List oV} {σ : oSg} {Q : Option oV → (Nat → oC) → Prop} : oE d 62 11 [l0, l1, l2, l3] (.inl x :: S) σ Q = if ¬ x = 0 then oE d 62 16 [l0, l1, l2, l3] S σ Q else oE d 62 14 [l0, l1, l2, l3] S σ Q := oIfNe f_62_11 (by decide)
theorem f_62_14 : oFet 62 14 = some (.iconst (-1), 1) := by decide +kernel
theorem s_62_14 {d : Nat} {l0 l1 l2 l3 : oV} {S : List oV} {σ : oSg} {Q : Option oV → (Nat → oC) → Prop} : oE d 62 14 [l0, l1, l2, l3] S σ Q = oE d 62 15 [l0, l1, l2, l3] (.inl (-1) :: S) σ Q := pKst f_62_14 (by decide)
theorem f_62_15 : oFet 62 15 = some (.ireturn, 1) := by decide +kernel
theorem s_62_15 {d : Nat} {l0 l1 l2 l3 : oV} {x : Int} {σ : oSg} {Q : Option oV → (Nat → oC) → Prop} : oE d 62 15 [l0, l1, l2, l3] [.inl x] σ Q = Q (some (.inl x)) (oBld σ) := oIret f_62_15 rt_62
theorem f_62_16 : oFet 62 16 = some (.iload_n 2, 1) := by decide +kernel
theorem s_62_16 {d : Nat} {l0 l1 l3 : oV} {x : Int} {S : List oV} {σ : oSg} {Q : Option oV → (Nat → oC) → Prop} : oE d 62 16 [l0, l1, .inl x, l3] S σ Q = oE d 62 17 [l0, l1, .inl x, l3] (.inl x :: S) σ Q := pLdN (k := 2) f_62_16 rfl rfl rfl
theorem f_62_17 : oFet 62 17 = some (.ifCond .lt 9, 3) := by decide +kernel
theorem s_62_17 {d : Nat} {l0 l1 l2 l3 : oV} {x : Int} {S : List oV} {σ : oSg} {Q : Option oV → (Nat → oC) → Prop} : oE d 62 17 [l0, l1, l2, l3] (.inl x :: S) σ Q = if x < 0 then oE d 62 26 [l0, l1, l2, l3] S σ Q else oE d 62 20 [l0, l1, l2, l3] S σ Q := oIfLt f_62_17 (by decide)
theorem f_62_20 : oFet 62 20 = some (.iload_n 2, 1) := by decide +kernel
theorem s_62_20 {d : Nat} {l0 l1 l3 : oV} {x : Int} {S : List oV} {σ : oSg} {Q : Option oV → (Nat → oC) → Prop} : oE d 62 20 [l0, l1, .inl x, l3] S σ Q = oE d 62 21 [l0, l1, .inl x, l3] (.inl x :: S) σ Q := pLdN (k := 2) f_62_20 rfl rfl rfl
theorem f_62_21 : oFet 62 21 = some (.bipush 60, 2) := by decide +kernel
theorem s_62_21 {d : Nat} {l0 l1 l2 l3 : oV} {S : List oV} {σ : oSg} {Q : Option oV → (Nat → oC) → Prop} : oE d 62 21 [l0, l1, l2, l3] S σ Q = oE d 62 23 [l0, l1, l2, l3] (.inl (60) :: S) σ Q := pBip f_62_21 (by decide)
theorem f_62_23 : oFet 62 23 = some (.if_icmp .le 6, 3) := by decide +kernel
theorem s_62_23 {d : Nat} {l0 l1 l2 l3 : oV} {x y : Int} {S : List oV} {σ : oSg} {Q : Option oV → (Nat → oC) → Prop} : oE d 62 23 [l0, l1, l2, l3] (.inl y :: .inl x :: S) σ Q = if x ≤ y then oE d 62 29 [l0, l1, l2, l3] S σ Q else oE d 62 26 [l0, l1, l2, l3] S σ Q := oCmpLe f_62_23 (by decide)
theorem f_62_26 : oFet 62 26 = some (.bipush (-2), 2) := by decide +kernel
theorem s_62_26 {d : Nat} {l0 l1 l2 l3 : oV} {S : List oV} {σ : oSg} {Q : Option oV → (Nat → oC) → Prop} : oE d 62 26 [l0, l1, l2, l3] S σ Q = oE d 62 28 [l0, l1, l2, l3] (.inl (-2) :: S) σ Q := pBip f_62_26 (by decide)
theorem f_62_28 : oFet 62 28 = some (.ireturn, 1) := by decide +kernel
theorem s_62_28 {d : Nat} {l0 l1 l2 l3 : oV} {x : Int} {σ : oSg} {Q : Option oV → (Nat → oC) → Prop} : oE d 62 28 [l0, l1, l2, l3] [.inl x] σ Q = Q (some (.inl x)) (oBld σ) := oIret f_62_28 rt_62
theorem f_62_29 : oFet 62 29 = some (.aload_n 0, 1) := by decide +kernel
theorem s_62_29 {d : Nat} {l1 l2 l3 : oV} {a : Nat} {S : List oV} {σ : oSg} {Q : Option oV → (Nat → oC) → Prop} : oE d 62 29 [.inr (.inr (.inl a)), l1, l2, l3] S σ Q = oE d 62 30 [.inr (.inr (.inl a)), l1, l2, l3] (.inr (.inr (.inl a)) :: S) σ Q := pLdN (k := 0) f_62_29 rfl rfl rfl
theorem f_62_30 : oFet 62 30 = some (.getfield 12, 3) := by decide +kernel
theorem s_62_30 {d : Nat} {l0 l1 l2 l3 : oV} {a : Nat} {S : List oV} {σ : oSg} {Q : Option oV → (Nat → oC) → Prop} (hk : oKd a = some 10) : oE d 62 30 [l0, l1, l2, l3] (.inr (.inr (.inl a)) :: S) σ Q = oE d 62 33 [l0, l1, l2, l3] (.inr (.inr (.inl (oRf a 0))) :: S) σ Q := pGfR f_62_30 ow_62 fl_10_12 rfl (by decide) hk
theorem f_62_33 : oFet 62 33 = some (.iload_n 1, 1) := by decide +kernel
theorem s_62_33 {d : Nat} {l0 l2 l3 : oV} {x : Int} {S : List oV} {σ : oSg} {Q : Option oV → (Nat → oC) → Prop} : oE d 62 33 [l0, .inl x, l2, l3] S σ Q = oE d 62 34 [l0, .inl x, l2, l3] (.inl x :: S) σ Q := pLdN (k := 1) f_62_33 rfl rfl rfl
theorem f_62_34 : oFet 62 34 = some (.invokevirtual 259, 3) := by decide +kernel
theorem c_62_34 {d : Nat} {l0 l1 l2 l3 : oV} {x0 : oV} {a : Nat} {v : Option oV} {τ : oSg} {S : List oV} {σ : oSg} {Q : Option oV → (Nat → oC) → Prop} (hm : oMi d 63 [.inr (.inr (.inl a)), x0] σ v τ) (hk : oKd a = some 1) (hs : oSmall S = true) : oE d 62 34 [l0, l1, l2, l3] (x0 :: .inr (.inr (.inl a)) :: S) σ Q = oE d 62 37 [l0, l1, l2, l3] (v.toList ++ S) τ Q := pCallV f_62_34 ow_62 lk_10_259 mt_63 rfl rfl rfl hk hs hm
theorem f_62_37 : oFet 62 37 = some (.istore_n 3, 1) := by decide +kernel
theorem s_62_37 {d : Nat} {l0 l1 l2 l3 : oV} {x : Int} {S : List oV} {σ : oSg} {Q : Option oV → (Nat → oC) → Prop} (c3 : oCat l3 = 1) (c2 : oCat l2 = 1)  : oE d 62 37 [l0, l1, l2, l3] (.inl x :: S) σ Q = oE d 62 38 [l0, l1, l2, .inl x] S σ Q := pSt (i := 3) f_62_37 rfl rfl (show (3 : Nat) < 4 by decide) (oC1n c2) (oC1n c3) rfl
theorem f_62_38 : oFet 62 38 = some (.aload_n 0, 1) := by decide +kernel
theorem s_62_38 {d : Nat} {l1 l2 l3 : oV} {a : Nat} {S : List oV} {σ : oSg} {Q : Option oV → (Nat → oC) → Prop} : oE d 62 38 [.inr (.inr (.inl a)), l1, l2, l3] S σ Q = oE d 62 39 [.inr (.inr (.inl a)), l1, l2, l3] (.inr (.inr (.inl a)) :: S) σ Q := pLdN (k := 0) f_62_38 rfl rfl rfl
theorem f_62_39 : oFet 62 39 = some (.getfield 12, 3) := by decide +kernel
theorem s_62_39 {d : Nat} {l0 l1 l2 l3 : oV} {a : Nat} {S : List oV} {σ : oSg} {Q : Option oV → (Nat → oC) → Prop} (hk : oKd a = some 10) : oE d 62 39 [l0, l1, l2, l3] (.inr (.inr (.inl a)) :: S) σ Q = oE d 62 42 [l0, l1, l2, l3] (.inr (.inr (.inl (oRf a 0))) :: S) σ Q := pGfR f_62_39 ow_62 fl_10_12 rfl (by decide) hk
theorem f_62_42 : oFet 62 42 = some (.iload_n 1, 1) := by decide +kernel
theorem s_62_42 {d : Nat} {l0 l2 l3 : oV} {x : Int} {S : List oV} {σ : oSg} {Q : Option oV → (Nat → oC) → Prop} : oE d 62 42 [l0, .inl x, l2, l3] S σ Q = oE d 62 43 [l0, .inl x, l2, l3] (.inl x :: S) σ Q := pLdN (k := 1) f_62_42 rfl rfl rfl
theorem f_62_43 : oFet 62 43 = some (.iload_n 2, 1) := by decide +kernel
theorem s_62_43 {d : Nat} {l0 l1 l3 : oV} {x : Int} {S : List oV} {σ : oSg} {Q : Option oV → (Nat → oC) → Prop} : oE d 62 43 [l0, l1, .inl x, l3] S σ Q = oE d 62 44 [l0, l1, .inl x, l3] (.inl x :: S) σ Q := pLdN (k := 2) f_62_43 rfl rfl rfl
theorem f_62_44 : oFet 62 44 = some (.invokevirtual 262, 3) := by decide +kernel
theorem c_62_44 {d : Nat} {l0 l1 l2 l3 : oV} {x0 x1 : oV} {a : Nat} {v : Option oV} {τ : oSg} {S : List oV} {σ : oSg} {Q : Option oV → (Nat → oC) → Prop} (hm : oMi d 64 [.inr (.inr (.inl a)), x0, x1] σ v τ) (hk : oKd a = some 1) (hs : oSmall S = true) : oE d 62 44 [l0, l1, l2, l3] (x1 :: x0 :: .inr (.inr (.inl a)) :: S) σ Q = oE d 62 47 [l0, l1, l2, l3] (v.toList ++ S) τ Q := pCallV f_62_44 ow_62 lk_10_262 mt_64 rfl rfl rfl hk hs hm
theorem f_62_47 : oFet 62 47 = some (.iload_n 3, 1) := by decide +kernel
theorem s_62_47 {d : Nat} {l0 l1 l2 : oV} {x : Int} {S : List oV} {σ : oSg} {Q : Option oV → (Nat → oC) → Prop} : oE d 62 47 [l0, l1, l2, .inl x] S σ Q = oE d 62 48 [l0, l1, l2, .inl x] (.inl x :: S) σ Q := pLdN (k := 3) f_62_47 rfl rfl rfl
theorem f_62_48 : oFet 62 48 = some (.ireturn, 1) := by decide +kernel
theorem s_62_48 {d : Nat} {l0 l1 l2 l3 : oV} {x : Int} {σ : oSg} {Q : Option oV → (Nat → oC) → Prop} : oE d 62 48 [l0, l1, l2, l3] [.inl x] σ Q = Q (some (.inl x)) (oBld σ) := oIret f_62_48 rt_62
