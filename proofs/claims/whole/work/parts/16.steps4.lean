/-! steps, by program -/
theorem ow_182 : (oMt 182).2.2.2.2.1 = 11 := by decide +kernel
theorem rt_182 : (oMt 182).2.2.2.1 = some .int := by decide +kernel
theorem nl_182 : (oMt 182).2.2.1 = 6 := by decide +kernel
theorem f_182_0 : oFet 182 0 = some (.iload_n 1, 1) := by decide +kernel
theorem s_182_0 {d : Nat} {l0 l2 l3 l4 l5 : oV} {x : Int} {S : List oV} {σ : oSg} {Q : Option oV → (Nat → oC) → Prop} : oE d 182 0 [l0, .inl x, l2, l3, l4, l5] S σ Q = oE d 182 1 [l0, .inl x, l2, l3, l4, l5] (.inl x :: S) σ Q := pLdN (k := 1) f_182_0 rfl rfl rfl
theorem f_182_1 : oFet 182 1 = some (.ifCond .ne 5, 3) := by decide +kernel
theorem s_182_1 {d : Nat} {l0 l1 l2 l3 l4 l5 : oV} {x : Int} {S : List oV} {σ : oSg} {Q : Option oV → (Nat → oC) → Prop} : oE d 182 1 [l0, l1, l2, l3, l4, l5] (.inl x :: S) σ Q = if ¬ x = 0 then oE d 182 6 [l0, l1, l2, l3, l4, l5] S σ Q else oE d 182 4 [l0, l1, l2, l3, l4, l5] S σ Q := oIfNe f_182_1 (by decide)
theorem f_182_4 : oFet 182 4 = some (.iconst 0, 1) := by decide +kernel
theorem s_182_4 {d : Nat} {l0 l1 l2 l3 l4 l5 : oV} {S : List oV} {σ : oSg} {Q : Option oV → (Nat → oC) → Prop} : oE d 182 4 [l0, l1, l2, l3, l4, l5] S σ Q = oE d 182 5 [l0, l1, l2, l3, l4, l5] (.inl (0) :: S) σ Q := pKst f_182_4 (by decide)
theorem f_182_5 : oFet 182 5 = some (.ireturn, 1) := by decide +kernel
theorem s_182_5 {d : Nat} {l0 l1 l2 l3 l4 l5 : oV} {x : Int} {σ : oSg} {Q : Option oV → (Nat → oC) → Prop} : oE d 182 5 [l0, l1, l2, l3, l4, l5] [.inl x] σ Q = Q (some (.inl x)) (oBld σ) := oIret f_182_5 rt_182
theorem f_182_6 : oFet 182 6 = some (.iconst 0, 1) := by decide +kernel
theorem s_182_6 {d : Nat} {l0 l1 l2 l3 l4 l5 : oV} {S : List oV} {σ : oSg} {Q : Option oV → (Nat → oC) → Prop} : oE d 182 6 [l0, l1, l2, l3, l4, l5] S σ Q = oE d 182 7 [l0, l1, l2, l3, l4, l5] (.inl (0) :: S) σ Q := pKst f_182_6 (by decide)
theorem f_182_7 : oFet 182 7 = some (.istore_n 2, 1) := by decide +kernel
theorem s_182_7 {d : Nat} {l0 l1 l2 l3 l4 l5 : oV} {x : Int} {S : List oV} {σ : oSg} {Q : Option oV → (Nat → oC) → Prop} (c2 : oCat l2 = 1) (c1 : oCat l1 = 1)  : oE d 182 7 [l0, l1, l2, l3, l4, l5] (.inl x :: S) σ Q = oE d 182 8 [l0, l1, .inl x, l3, l4, l5] S σ Q := pSt (i := 2) f_182_7 rfl rfl (show (2 : Nat) < 6 by decide) (oC1n c1) (oC1n c2) rfl
theorem f_182_8 : oFet 182 8 = some (.iload_n 1, 1) := by decide +kernel
theorem s_182_8 {d : Nat} {l0 l2 l3 l4 l5 : oV} {x : Int} {S : List oV} {σ : oSg} {Q : Option oV → (Nat → oC) → Prop} : oE d 182 8 [l0, .inl x, l2, l3, l4, l5] S σ Q = oE d 182 9 [l0, .inl x, l2, l3, l4, l5] (.inl x :: S) σ Q := pLdN (k := 1) f_182_8 rfl rfl rfl
theorem f_182_9 : oFet 182 9 = some (.iload_n 2, 1) := by decide +kernel
theorem s_182_9 {d : Nat} {l0 l1 l3 l4 l5 : oV} {x : Int} {S : List oV} {σ : oSg} {Q : Option oV → (Nat → oC) → Prop} : oE d 182 9 [l0, l1, .inl x, l3, l4, l5] S σ Q = oE d 182 10 [l0, l1, .inl x, l3, l4, l5] (.inl x :: S) σ Q := pLdN (k := 2) f_182_9 rfl rfl rfl
theorem f_182_10 : oFet 182 10 = some (.ishr, 1) := by decide +kernel
theorem s_182_10 {d : Nat} {l0 l1 l2 l3 l4 l5 : oV} {x y : Int} {S : List oV} {σ : oSg} {Q : Option oV → (Nat → oC) → Prop} : oE d 182 10 [l0, l1, l2, l3, l4, l5] (.inl y :: .inl x :: S) σ Q = oE d 182 11 [l0, l1, l2, l3, l4, l5] (.inl (oShr x y) :: S) σ Q := oS3 f_182_10 rfl rfl rfl
theorem f_182_11 : oFet 182 11 = some (.iconst 1, 1) := by decide +kernel
theorem s_182_11 {d : Nat} {l0 l1 l2 l3 l4 l5 : oV} {S : List oV} {σ : oSg} {Q : Option oV → (Nat → oC) → Prop} : oE d 182 11 [l0, l1, l2, l3, l4, l5] S σ Q = oE d 182 12 [l0, l1, l2, l3, l4, l5] (.inl (1) :: S) σ Q := pKst f_182_11 (by decide)
theorem f_182_12 : oFet 182 12 = some (.iand, 1) := by decide +kernel
theorem s_182_12 {d : Nat} {l0 l1 l2 l3 l4 l5 : oV} {x y : Int} {S : List oV} {σ : oSg} {Q : Option oV → (Nat → oC) → Prop} : oE d 182 12 [l0, l1, l2, l3, l4, l5] (.inl y :: .inl x :: S) σ Q = oE d 182 13 [l0, l1, l2, l3, l4, l5] (.inl (oAnd x y) :: S) σ Q := oS3 f_182_12 rfl rfl rfl
theorem f_182_13 : oFet 182 13 = some (.ifCond .ne 9, 3) := by decide +kernel
theorem s_182_13 {d : Nat} {l0 l1 l2 l3 l4 l5 : oV} {x : Int} {S : List oV} {σ : oSg} {Q : Option oV → (Nat → oC) → Prop} : oE d 182 13 [l0, l1, l2, l3, l4, l5] (.inl x :: S) σ Q = if ¬ x = 0 then oE d 182 22 [l0, l1, l2, l3, l4, l5] S σ Q else oE d 182 16 [l0, l1, l2, l3, l4, l5] S σ Q := oIfNe f_182_13 (by decide)
theorem f_182_16 : oFet 182 16 = some (.iinc 2 1, 3) := by decide +kernel
theorem s_182_16 {d : Nat} {l0 l1 l3 l4 l5 : oV} {x : Int} {S : List oV} {σ : oSg} {Q : Option oV → (Nat → oC) → Prop} (c1 : oCat l1 = 1)  : oE d 182 16 [l0, l1, .inl x, l3, l4, l5] S σ Q = oE d 182 19 [l0, l1, .inl (oAdd x (1)), l3, l4, l5] S σ Q := pInc f_182_16 rfl (show (2 : Nat) < 6 by decide) (oC1n c1) (oC1n (v := .inl x) rfl) rfl
theorem f_182_19 : oFet 182 19 = some (.goto (-11), 3) := by decide +kernel
theorem s_182_19 {d : Nat} {l0 l1 l2 l3 l4 l5 : oV} {S : List oV} {σ : oSg} {Q : Option oV → (Nat → oC) → Prop} : oE d 182 19 [l0, l1, l2, l3, l4, l5] S σ Q = oE d 182 8 [l0, l1, l2, l3, l4, l5] S σ Q := pGoto f_182_19 (by decide)
theorem f_182_22 : oFet 182 22 = some (.iload_n 1, 1) := by decide +kernel
theorem s_182_22 {d : Nat} {l0 l2 l3 l4 l5 : oV} {x : Int} {S : List oV} {σ : oSg} {Q : Option oV → (Nat → oC) → Prop} : oE d 182 22 [l0, .inl x, l2, l3, l4, l5] S σ Q = oE d 182 23 [l0, .inl x, l2, l3, l4, l5] (.inl x :: S) σ Q := pLdN (k := 1) f_182_22 rfl rfl rfl
theorem f_182_23 : oFet 182 23 = some (.iconst 1, 1) := by decide +kernel
theorem s_182_23 {d : Nat} {l0 l1 l2 l3 l4 l5 : oV} {S : List oV} {σ : oSg} {Q : Option oV → (Nat → oC) → Prop} : oE d 182 23 [l0, l1, l2, l3, l4, l5] S σ Q = oE d 182 24 [l0, l1, l2, l3, l4, l5] (.inl (1) :: S) σ Q := pKst f_182_23 (by decide)
theorem f_182_24 : oFet 182 24 = some (.iload_n 2, 1) := by decide +kernel
theorem s_182_24 {d : Nat} {l0 l1 l3 l4 l5 : oV} {x : Int} {S : List oV} {σ : oSg} {Q : Option oV → (Nat → oC) → Prop} : oE d 182 24 [l0, l1, .inl x, l3, l4, l5] S σ Q = oE d 182 25 [l0, l1, .inl x, l3, l4, l5] (.inl x :: S) σ Q := pLdN (k := 2) f_182_24 rfl rfl rfl
theorem f_182_25 : oFet 182 25 = some (.ishl, 1) := by decide +kernel
theorem s_182_25 {d : Nat} {l0 l1 l2 l3 l4 l5 : oV} {x y : Int} {S : List oV} {σ : oSg} {Q : Option oV → (Nat → oC) → Prop} : oE d 182 25 [l0, l1, l2, l3, l4, l5] (.inl y :: .inl x :: S) σ Q = oE d 182 26 [l0, l1, l2, l3, l4, l5] (.inl (oShl x y) :: S) σ Q := oS3 f_182_25 rfl rfl rfl
theorem f_182_26 : oFet 182 26 = some (.iconst (-1), 1) := by decide +kernel
theorem s_182_26 {d : Nat} {l0 l1 l2 l3 l4 l5 : oV} {S : List oV} {σ : oSg} {Q : Option oV → (Nat → oC) → Prop} : oE d 182 26 [l0, l1, l2, l3, l4, l5] S σ Q = oE d 182 27 [l0, l1, l2, l3, l4, l5] (.inl (-1) :: S) σ Q := pKst f_182_26 (by decide)
theorem f_182_27 : oFet 182 27 = some (.ixor, 1) := by decide +kernel
theorem s_182_27 {d : Nat} {l0 l1 l2 l3 l4 l5 : oV} {x y : Int} {S : List oV} {σ : oSg} {Q : Option oV → (Nat → oC) → Prop} : oE d 182 27 [l0, l1, l2, l3, l4, l5] (.inl y :: .inl x :: S) σ Q = oE d 182 28 [l0, l1, l2, l3, l4, l5] (.inl (oXor x y) :: S) σ Q := oS3 f_182_27 rfl rfl rfl
theorem f_182_28 : oFet 182 28 = some (.iand, 1) := by decide +kernel
theorem s_182_28 {d : Nat} {l0 l1 l2 l3 l4 l5 : oV} {x y : Int} {S : List oV} {σ : oSg} {Q : Option oV → (Nat → oC) → Prop} : oE d 182 28 [l0, l1, l2, l3, l4, l5] (.inl y :: .inl x :: S) σ Q = oE d 182 29 [l0, l1, l2, l3, l4, l5] (.inl (oAnd x y) :: S) σ Q := oS3 f_182_28 rfl rfl rfl
theorem f_182_29 : oFet 182 29 = some (.istore_n 3, 1) := by decide +kernel
theorem s_182_29 {d : Nat} {l0 l1 l2 l3 l4 l5 : oV} {x : Int} {S : List oV} {σ : oSg} {Q : Option oV → (Nat → oC) → Prop} (c3 : oCat l3 = 1) (c2 : oCat l2 = 1)  : oE d 182 29 [l0, l1, l2, l3, l4, l5] (.inl x :: S) σ Q = oE d 182 30 [l0, l1, l2, .inl x, l4, l5] S σ Q := pSt (i := 3) f_182_29 rfl rfl (show (3 : Nat) < 6 by decide) (oC1n c2) (oC1n c3) rfl
theorem f_182_30 : oFet 182 30 = some (.aload_n 0, 1) := by decide +kernel
theorem s_182_30 {d : Nat} {l1 l2 l3 l4 l5 : oV} {a : Nat} {S : List oV} {σ : oSg} {Q : Option oV → (Nat → oC) → Prop} : oE d 182 30 [.inr (.inr (.inl a)), l1, l2, l3, l4, l5] S σ Q = oE d 182 31 [.inr (.inr (.inl a)), l1, l2, l3, l4, l5] (.inr (.inr (.inl a)) :: S) σ Q := pLdN (k := 0) f_182_30 rfl rfl rfl
theorem f_182_31 : oFet 182 31 = some (.iload_n 3, 1) := by decide +kernel
theorem s_182_31 {d : Nat} {l0 l1 l2 l4 l5 : oV} {x : Int} {S : List oV} {σ : oSg} {Q : Option oV → (Nat → oC) → Prop} : oE d 182 31 [l0, l1, l2, .inl x, l4, l5] S σ Q = oE d 182 32 [l0, l1, l2, .inl x, l4, l5] (.inl x :: S) σ Q := pLdN (k := 3) f_182_31 rfl rfl rfl
theorem f_182_32 : oFet 182 32 = some (.invokestatic 186, 3) := by decide +kernel
theorem c_182_32 {d : Nat} {l0 l1 l2 l3 l4 l5 : oV} {x0 x1 : oV} {v : Option oV} {τ : oSg} {S : List oV} {σ : oSg} {Q : Option oV → (Nat → oC) → Prop} (hm : oMi d 182 [x0, x1] σ v τ) (hs : oSmall S = true) : oE d 182 32 [l0, l1, l2, l3, l4, l5] (x1 :: x0 :: S) σ Q = oE d 182 35 [l0, l1, l2, l3, l4, l5] (v.toList ++ S) τ Q := pCallS f_182_32 ow_182 lk_11_186 mt_182 rfl rfl rfl hs hm
theorem f_182_35 : oFet 182 35 = some (.istore 4, 2) := by decide +kernel
theorem s_182_35 {d : Nat} {l0 l1 l2 l3 l4 l5 : oV} {x : Int} {S : List oV} {σ : oSg} {Q : Option oV → (Nat → oC) → Prop} (c4 : oCat l4 = 1) (c3 : oCat l3 = 1)  : oE d 182 35 [l0, l1, l2, l3, l4, l5] (.inl x :: S) σ Q = oE d 182 37 [l0, l1, l2, l3, .inl x, l5] S σ Q := pSt (i := 4) f_182_35 rfl rfl (show (4 : Nat) < 6 by decide) (oC1n c3) (oC1n c4) rfl
theorem f_182_37 : oFet 182 37 = some (.iload_n 2, 1) := by decide +kernel
theorem s_182_37 {d : Nat} {l0 l1 l3 l4 l5 : oV} {x : Int} {S : List oV} {σ : oSg} {Q : Option oV → (Nat → oC) → Prop} : oE d 182 37 [l0, l1, .inl x, l3, l4, l5] S σ Q = oE d 182 38 [l0, l1, .inl x, l3, l4, l5] (.inl x :: S) σ Q := pLdN (k := 2) f_182_37 rfl rfl rfl
theorem f_182_38 : oFet 182 38 = some (.iconst 1, 1) := by decide +kernel
theorem s_182_38 {d : Nat} {l0 l1 l2 l3 l4 l5 : oV} {S : List oV} {σ : oSg} {Q : Option oV → (Nat → oC) → Prop} : oE d 182 38 [l0, l1, l2, l3, l4, l5] S σ Q = oE d 182 39 [l0, l1, l2, l3, l4, l5] (.inl (1) :: S) σ Q := pKst f_182_38 (by decide)
theorem f_182_39 : oFet 182 39 = some (.iadd, 1) := by decide +kernel
theorem s_182_39 {d : Nat} {l0 l1 l2 l3 l4 l5 : oV} {x y : Int} {S : List oV} {σ : oSg} {Q : Option oV → (Nat → oC) → Prop} : oE d 182 39 [l0, l1, l2, l3, l4, l5] (.inl y :: .inl x :: S) σ Q = oE d 182 40 [l0, l1, l2, l3, l4, l5] (.inl (oAdd x y) :: S) σ Q := oS3 f_182_39 rfl rfl rfl
theorem f_182_40 : oFet 182 40 = some (.istore 5, 2) := by decide +kernel
theorem s_182_40 {d : Nat} {l0 l1 l2 l3 l4 l5 : oV} {x : Int} {S : List oV} {σ : oSg} {Q : Option oV → (Nat → oC) → Prop} (c5 : oCat l5 = 1) (c4 : oCat l4 = 1)  : oE d 182 40 [l0, l1, l2, l3, l4, l5] (.inl x :: S) σ Q = oE d 182 42 [l0, l1, l2, l3, l4, .inl x] S σ Q := pSt (i := 5) f_182_40 rfl rfl (show (5 : Nat) < 6 by decide) (oC1n c4) (oC1n c5) rfl
theorem f_182_42 : oFet 182 42 = some (.iload 5, 2) := by decide +kernel
theorem s_182_42 {d : Nat} {l0 l1 l2 l3 l4 : oV} {x : Int} {S : List oV} {σ : oSg} {Q : Option oV → (Nat → oC) → Prop} : oE d 182 42 [l0, l1, l2, l3, l4, .inl x] S σ Q = oE d 182 44 [l0, l1, l2, l3, l4, .inl x] (.inl x :: S) σ Q := pLd (i := 5) f_182_42 rfl rfl rfl
theorem f_182_44 : oFet 182 44 = some (.bipush 7, 2) := by decide +kernel
theorem s_182_44 {d : Nat} {l0 l1 l2 l3 l4 l5 : oV} {S : List oV} {σ : oSg} {Q : Option oV → (Nat → oC) → Prop} : oE d 182 44 [l0, l1, l2, l3, l4, l5] S σ Q = oE d 182 46 [l0, l1, l2, l3, l4, l5] (.inl (7) :: S) σ Q := pBip f_182_44 (by decide)
theorem f_182_46 : oFet 182 46 = some (.if_icmp .ge 44, 3) := by decide +kernel
theorem s_182_46 {d : Nat} {l0 l1 l2 l3 l4 l5 : oV} {x y : Int} {S : List oV} {σ : oSg} {Q : Option oV → (Nat → oC) → Prop} : oE d 182 46 [l0, l1, l2, l3, l4, l5] (.inl y :: .inl x :: S) σ Q = if y ≤ x then oE d 182 90 [l0, l1, l2, l3, l4, l5] S σ Q else oE d 182 49 [l0, l1, l2, l3, l4, l5] S σ Q := oCmpGe f_182_46 (by decide)
theorem f_182_49 : oFet 182 49 = some (.iload_n 3, 1) := by decide +kernel
theorem s_182_49 {d : Nat} {l0 l1 l2 l4 l5 : oV} {x : Int} {S : List oV} {σ : oSg} {Q : Option oV → (Nat → oC) → Prop} : oE d 182 49 [l0, l1, l2, .inl x, l4, l5] S σ Q = oE d 182 50 [l0, l1, l2, .inl x, l4, l5] (.inl x :: S) σ Q := pLdN (k := 3) f_182_49 rfl rfl rfl
theorem f_182_50 : oFet 182 50 = some (.aload_n 0, 1) := by decide +kernel
theorem s_182_50 {d : Nat} {l1 l2 l3 l4 l5 : oV} {a : Nat} {S : List oV} {σ : oSg} {Q : Option oV → (Nat → oC) → Prop} : oE d 182 50 [.inr (.inr (.inl a)), l1, l2, l3, l4, l5] S σ Q = oE d 182 51 [.inr (.inr (.inl a)), l1, l2, l3, l4, l5] (.inr (.inr (.inl a)) :: S) σ Q := pLdN (k := 0) f_182_50 rfl rfl rfl
theorem f_182_51 : oFet 182 51 = some (.iload_n 2, 1) := by decide +kernel
theorem s_182_51 {d : Nat} {l0 l1 l3 l4 l5 : oV} {x : Int} {S : List oV} {σ : oSg} {Q : Option oV → (Nat → oC) → Prop} : oE d 182 51 [l0, l1, .inl x, l3, l4, l5] S σ Q = oE d 182 52 [l0, l1, .inl x, l3, l4, l5] (.inl x :: S) σ Q := pLdN (k := 2) f_182_51 rfl rfl rfl
theorem f_182_52 : oFet 182 52 = some (.iaload, 1) := by decide +kernel
theorem s_182_52 {d : Nat} {l0 l1 l2 l3 l4 l5 : oV} {a : Nat} {i : Int} {S : List oV} {σ : oSg} {Q : Option oV → (Nat → oC) → Prop} (hk : oAk a = some 0) (h0 : 0 ≤ i) (h1 : i < (oLn a : Int)) : oE d 182 52 [l0, l1, l2, l3, l4, l5] (.inl i :: .inr (.inr (.inl a)) :: S) σ Q = oE d 182 53 [l0, l1, l2, l3, l4, l5] (.inl (σ.2 a i.toNat) :: S) σ Q := oIal f_182_52 hk h0 h1
theorem f_182_53 : oFet 182 53 = some (.iand, 1) := by decide +kernel
theorem s_182_53 {d : Nat} {l0 l1 l2 l3 l4 l5 : oV} {x y : Int} {S : List oV} {σ : oSg} {Q : Option oV → (Nat → oC) → Prop} : oE d 182 53 [l0, l1, l2, l3, l4, l5] (.inl y :: .inl x :: S) σ Q = oE d 182 54 [l0, l1, l2, l3, l4, l5] (.inl (oAnd x y) :: S) σ Q := oS3 f_182_53 rfl rfl rfl
theorem f_182_54 : oFet 182 54 = some (.iload 5, 2) := by decide +kernel
theorem s_182_54 {d : Nat} {l0 l1 l2 l3 l4 : oV} {x : Int} {S : List oV} {σ : oSg} {Q : Option oV → (Nat → oC) → Prop} : oE d 182 54 [l0, l1, l2, l3, l4, .inl x] S σ Q = oE d 182 56 [l0, l1, l2, l3, l4, .inl x] (.inl x :: S) σ Q := pLd (i := 5) f_182_54 rfl rfl rfl
theorem f_182_56 : oFet 182 56 = some (.ishr, 1) := by decide +kernel
theorem s_182_56 {d : Nat} {l0 l1 l2 l3 l4 l5 : oV} {x y : Int} {S : List oV} {σ : oSg} {Q : Option oV → (Nat → oC) → Prop} : oE d 182 56 [l0, l1, l2, l3, l4, l5] (.inl y :: .inl x :: S) σ Q = oE d 182 57 [l0, l1, l2, l3, l4, l5] (.inl (oShr x y) :: S) σ Q := oS3 f_182_56 rfl rfl rfl
theorem f_182_57 : oFet 182 57 = some (.iconst 1, 1) := by decide +kernel
theorem s_182_57 {d : Nat} {l0 l1 l2 l3 l4 l5 : oV} {S : List oV} {σ : oSg} {Q : Option oV → (Nat → oC) → Prop} : oE d 182 57 [l0, l1, l2, l3, l4, l5] S σ Q = oE d 182 58 [l0, l1, l2, l3, l4, l5] (.inl (1) :: S) σ Q := pKst f_182_57 (by decide)
theorem f_182_58 : oFet 182 58 = some (.iand, 1) := by decide +kernel
theorem s_182_58 {d : Nat} {l0 l1 l2 l3 l4 l5 : oV} {x y : Int} {S : List oV} {σ : oSg} {Q : Option oV → (Nat → oC) → Prop} : oE d 182 58 [l0, l1, l2, l3, l4, l5] (.inl y :: .inl x :: S) σ Q = oE d 182 59 [l0, l1, l2, l3, l4, l5] (.inl (oAnd x y) :: S) σ Q := oS3 f_182_58 rfl rfl rfl
theorem f_182_59 : oFet 182 59 = some (.iconst 1, 1) := by decide +kernel
theorem s_182_59 {d : Nat} {l0 l1 l2 l3 l4 l5 : oV} {S : List oV} {σ : oSg} {Q : Option oV → (Nat → oC) → Prop} : oE d 182 59 [l0, l1, l2, l3, l4, l5] S σ Q = oE d 182 60 [l0, l1, l2, l3, l4, l5] (.inl (1) :: S) σ Q := pKst f_182_59 (by decide)
theorem f_182_60 : oFet 182 60 = some (.if_icmp .ne 24, 3) := by decide +kernel
theorem s_182_60 {d : Nat} {l0 l1 l2 l3 l4 l5 : oV} {x y : Int} {S : List oV} {σ : oSg} {Q : Option oV → (Nat → oC) → Prop} : oE d 182 60 [l0, l1, l2, l3, l4, l5] (.inl y :: .inl x :: S) σ Q = if ¬ x = y then oE d 182 84 [l0, l1, l2, l3, l4, l5] S σ Q else oE d 182 63 [l0, l1, l2, l3, l4, l5] S σ Q := oCmpNe f_182_60 (by decide)
theorem f_182_63 : oFet 182 63 = some (.iload 4, 2) := by decide +kernel
theorem s_182_63 {d : Nat} {l0 l1 l2 l3 l5 : oV} {x : Int} {S : List oV} {σ : oSg} {Q : Option oV → (Nat → oC) → Prop} : oE d 182 63 [l0, l1, l2, l3, .inl x, l5] S σ Q = oE d 182 65 [l0, l1, l2, l3, .inl x, l5] (.inl x :: S) σ Q := pLd (i := 4) f_182_63 rfl rfl rfl
theorem f_182_65 : oFet 182 65 = some (.iconst 1, 1) := by decide +kernel
theorem s_182_65 {d : Nat} {l0 l1 l2 l3 l4 l5 : oV} {S : List oV} {σ : oSg} {Q : Option oV → (Nat → oC) → Prop} : oE d 182 65 [l0, l1, l2, l3, l4, l5] S σ Q = oE d 182 66 [l0, l1, l2, l3, l4, l5] (.inl (1) :: S) σ Q := pKst f_182_65 (by decide)
theorem f_182_66 : oFet 182 66 = some (.aload_n 0, 1) := by decide +kernel
theorem s_182_66 {d : Nat} {l1 l2 l3 l4 l5 : oV} {a : Nat} {S : List oV} {σ : oSg} {Q : Option oV → (Nat → oC) → Prop} : oE d 182 66 [.inr (.inr (.inl a)), l1, l2, l3, l4, l5] S σ Q = oE d 182 67 [.inr (.inr (.inl a)), l1, l2, l3, l4, l5] (.inr (.inr (.inl a)) :: S) σ Q := pLdN (k := 0) f_182_66 rfl rfl rfl
theorem f_182_67 : oFet 182 67 = some (.iload_n 3, 1) := by decide +kernel
theorem s_182_67 {d : Nat} {l0 l1 l2 l4 l5 : oV} {x : Int} {S : List oV} {σ : oSg} {Q : Option oV → (Nat → oC) → Prop} : oE d 182 67 [l0, l1, l2, .inl x, l4, l5] S σ Q = oE d 182 68 [l0, l1, l2, .inl x, l4, l5] (.inl x :: S) σ Q := pLdN (k := 3) f_182_67 rfl rfl rfl
theorem f_182_68 : oFet 182 68 = some (.iconst 1, 1) := by decide +kernel
theorem s_182_68 {d : Nat} {l0 l1 l2 l3 l4 l5 : oV} {S : List oV} {σ : oSg} {Q : Option oV → (Nat → oC) → Prop} : oE d 182 68 [l0, l1, l2, l3, l4, l5] S σ Q = oE d 182 69 [l0, l1, l2, l3, l4, l5] (.inl (1) :: S) σ Q := pKst f_182_68 (by decide)
theorem f_182_69 : oFet 182 69 = some (.iload 5, 2) := by decide +kernel
theorem s_182_69 {d : Nat} {l0 l1 l2 l3 l4 : oV} {x : Int} {S : List oV} {σ : oSg} {Q : Option oV → (Nat → oC) → Prop} : oE d 182 69 [l0, l1, l2, l3, l4, .inl x] S σ Q = oE d 182 71 [l0, l1, l2, l3, l4, .inl x] (.inl x :: S) σ Q := pLd (i := 5) f_182_69 rfl rfl rfl
theorem f_182_71 : oFet 182 71 = some (.ishl, 1) := by decide +kernel
theorem s_182_71 {d : Nat} {l0 l1 l2 l3 l4 l5 : oV} {x y : Int} {S : List oV} {σ : oSg} {Q : Option oV → (Nat → oC) → Prop} : oE d 182 71 [l0, l1, l2, l3, l4, l5] (.inl y :: .inl x :: S) σ Q = oE d 182 72 [l0, l1, l2, l3, l4, l5] (.inl (oShl x y) :: S) σ Q := oS3 f_182_71 rfl rfl rfl
theorem f_182_72 : oFet 182 72 = some (.iconst (-1), 1) := by decide +kernel
theorem s_182_72 {d : Nat} {l0 l1 l2 l3 l4 l5 : oV} {S : List oV} {σ : oSg} {Q : Option oV → (Nat → oC) → Prop} : oE d 182 72 [l0, l1, l2, l3, l4, l5] S σ Q = oE d 182 73 [l0, l1, l2, l3, l4, l5] (.inl (-1) :: S) σ Q := pKst f_182_72 (by decide)
theorem f_182_73 : oFet 182 73 = some (.ixor, 1) := by decide +kernel
theorem s_182_73 {d : Nat} {l0 l1 l2 l3 l4 l5 : oV} {x y : Int} {S : List oV} {σ : oSg} {Q : Option oV → (Nat → oC) → Prop} : oE d 182 73 [l0, l1, l2, l3, l4, l5] (.inl y :: .inl x :: S) σ Q = oE d 182 74 [l0, l1, l2, l3, l4, l5] (.inl (oXor x y) :: S) σ Q := oS3 f_182_73 rfl rfl rfl
theorem f_182_74 : oFet 182 74 = some (.iand, 1) := by decide +kernel
theorem s_182_74 {d : Nat} {l0 l1 l2 l3 l4 l5 : oV} {x y : Int} {S : List oV} {σ : oSg} {Q : Option oV → (Nat → oC) → Prop} : oE d 182 74 [l0, l1, l2, l3, l4, l5] (.inl y :: .inl x :: S) σ Q = oE d 182 75 [l0, l1, l2, l3, l4, l5] (.inl (oAnd x y) :: S) σ Q := oS3 f_182_74 rfl rfl rfl
theorem f_182_75 : oFet 182 75 = some (.invokestatic 186, 3) := by decide +kernel
theorem c_182_75 {d : Nat} {l0 l1 l2 l3 l4 l5 : oV} {x0 x1 : oV} {v : Option oV} {τ : oSg} {S : List oV} {σ : oSg} {Q : Option oV → (Nat → oC) → Prop} (hm : oMi d 182 [x0, x1] σ v τ) (hs : oSmall S = true) : oE d 182 75 [l0, l1, l2, l3, l4, l5] (x1 :: x0 :: S) σ Q = oE d 182 78 [l0, l1, l2, l3, l4, l5] (v.toList ++ S) τ Q := pCallS f_182_75 ow_182 lk_11_186 mt_182 rfl rfl rfl hs hm
theorem f_182_78 : oFet 182 78 = some (.iadd, 1) := by decide +kernel
theorem s_182_78 {d : Nat} {l0 l1 l2 l3 l4 l5 : oV} {x y : Int} {S : List oV} {σ : oSg} {Q : Option oV → (Nat → oC) → Prop} : oE d 182 78 [l0, l1, l2, l3, l4, l5] (.inl y :: .inl x :: S) σ Q = oE d 182 79 [l0, l1, l2, l3, l4, l5] (.inl (oAdd x y) :: S) σ Q := oS3 f_182_78 rfl rfl rfl
theorem f_182_79 : oFet 182 79 = some (.invokestatic 190, 3) := by decide +kernel
theorem s_182_79 {d : Nat} {l0 l1 l2 l3 l4 l5 : oV} {x y : Int} {S : List oV} {σ : oSg} {Q : Option oV → (Nat → oC) → Prop} (hs : oSmall S = true) : oE d 182 79 [l0, l1, l2, l3, l4, l5] (.inl y :: .inl x :: S) σ Q = oE d 182 82 [l0, l1, l2, l3, l4, l5] (.inl (if x < y then y else x) :: S) σ Q := pMax f_182_79 ow_182 lk_11_190 hs
theorem f_182_82 : oFet 182 82 = some (.istore 4, 2) := by decide +kernel
theorem s_182_82 {d : Nat} {l0 l1 l2 l3 l4 l5 : oV} {x : Int} {S : List oV} {σ : oSg} {Q : Option oV → (Nat → oC) → Prop} (c4 : oCat l4 = 1) (c3 : oCat l3 = 1)  : oE d 182 82 [l0, l1, l2, l3, l4, l5] (.inl x :: S) σ Q = oE d 182 84 [l0, l1, l2, l3, .inl x, l5] S σ Q := pSt (i := 4) f_182_82 rfl rfl (show (4 : Nat) < 6 by decide) (oC1n c3) (oC1n c4) rfl
theorem f_182_84 : oFet 182 84 = some (.iinc 5 1, 3) := by decide +kernel
theorem s_182_84 {d : Nat} {l0 l1 l2 l3 l4 : oV} {x : Int} {S : List oV} {σ : oSg} {Q : Option oV → (Nat → oC) → Prop} (c4 : oCat l4 = 1)  : oE d 182 84 [l0, l1, l2, l3, l4, .inl x] S σ Q = oE d 182 87 [l0, l1, l2, l3, l4, .inl (oAdd x (1))] S σ Q := pInc f_182_84 rfl (show (5 : Nat) < 6 by decide) (oC1n c4) (oC1n (v := .inl x) rfl) rfl
theorem f_182_87 : oFet 182 87 = some (.goto (-45), 3) := by decide +kernel
theorem s_182_87 {d : Nat} {l0 l1 l2 l3 l4 l5 : oV} {S : List oV} {σ : oSg} {Q : Option oV → (Nat → oC) → Prop} : oE d 182 87 [l0, l1, l2, l3, l4, l5] S σ Q = oE d 182 42 [l0, l1, l2, l3, l4, l5] S σ Q := pGoto f_182_87 (by decide)
theorem f_182_90 : oFet 182 90 = some (.iload 4, 2) := by decide +kernel
theorem s_182_90 {d : Nat} {l0 l1 l2 l3 l5 : oV} {x : Int} {S : List oV} {σ : oSg} {Q : Option oV → (Nat → oC) → Prop} : oE d 182 90 [l0, l1, l2, l3, .inl x, l5] S σ Q = oE d 182 92 [l0, l1, l2, l3, .inl x, l5] (.inl x :: S) σ Q := pLd (i := 4) f_182_90 rfl rfl rfl
theorem f_182_92 : oFet 182 92 = some (.ireturn, 1) := by decide +kernel
theorem s_182_92 {d : Nat} {l0 l1 l2 l3 l4 l5 : oV} {x : Int} {σ : oSg} {Q : Option oV → (Nat → oC) → Prop} : oE d 182 92 [l0, l1, l2, l3, l4, l5] [.inl x] σ Q = Q (some (.inl x)) (oBld σ) := oIret f_182_92 rt_182
theorem ow_183 : (oMt 183).2.2.2.2.1 = 11 := by decide +kernel
theorem rt_183 : (oMt 183).2.2.2.1 = some .int := by decide +kernel
theorem nl_183 : (oMt 183).2.2.1 = 2 := by decide +kernel
theorem f_183_0 : oFet 183 0 = some (.iload_n 1, 1) := by decide +kernel
theorem s_183_0 {d : Nat} {l0 : oV} {x : Int} {S : List oV} {σ : oSg} {Q : Option oV → (Nat → oC) → Prop} : oE d 183 0 [l0, .inl x] S σ Q = oE d 183 1 [l0, .inl x] (.inl x :: S) σ Q := pLdN (k := 1) f_183_0 rfl rfl rfl
theorem f_183_1 : oFet 183 1 = some (.iconst 0, 1) := by decide +kernel
theorem s_183_1 {d : Nat} {l0 l1 : oV} {S : List oV} {σ : oSg} {Q : Option oV → (Nat → oC) → Prop} : oE d 183 1 [l0, l1] S σ Q = oE d 183 2 [l0, l1] (.inl (0) :: S) σ Q := pKst f_183_1 (by decide)
theorem f_183_2 : oFet 183 2 = some (.bipush 10, 2) := by decide +kernel
theorem s_183_2 {d : Nat} {l0 l1 : oV} {S : List oV} {σ : oSg} {Q : Option oV → (Nat → oC) → Prop} : oE d 183 2 [l0, l1] S σ Q = oE d 183 4 [l0, l1] (.inl (10) :: S) σ Q := pBip f_183_2 (by decide)
theorem f_183_4 : oFet 183 4 = some (.invokestatic 57, 3) := by decide +kernel
theorem c_183_4 {d : Nat} {l0 l1 : oV} {x0 x1 x2 : oV} {v : Option oV} {τ : oSg} {S : List oV} {σ : oSg} {Q : Option oV → (Nat → oC) → Prop} (hm : oMi d 146 [x0, x1, x2] σ v τ) (hs : oSmall S = true) : oE d 183 4 [l0, l1] (x2 :: x1 :: x0 :: S) σ Q = oE d 183 7 [l0, l1] (v.toList ++ S) τ Q := pCallS f_183_4 ow_183 lk_11_57 mt_146 rfl rfl rfl hs hm
theorem f_183_7 : oFet 183 7 = some (.ifCond .ne 5, 3) := by decide +kernel
theorem s_183_7 {d : Nat} {l0 l1 : oV} {x : Int} {S : List oV} {σ : oSg} {Q : Option oV → (Nat → oC) → Prop} : oE d 183 7 [l0, l1] (.inl x :: S) σ Q = if ¬ x = 0 then oE d 183 12 [l0, l1] S σ Q else oE d 183 10 [l0, l1] S σ Q := oIfNe f_183_7 (by decide)
theorem f_183_10 : oFet 183 10 = some (.iconst (-1), 1) := by decide +kernel
theorem s_183_10 {d : Nat} {l0 l1 : oV} {S : List oV} {σ : oSg} {Q : Option oV → (Nat → oC) → Prop} : oE d 183 10 [l0, l1] S σ Q = oE d 183 11 [l0, l1] (.inl (-1) :: S) σ Q := pKst f_183_10 (by decide)
theorem f_183_11 : oFet 183 11 = some (.ireturn, 1) := by decide +kernel
theorem s_183_11 {d : Nat} {l0 l1 : oV} {x : Int} {σ : oSg} {Q : Option oV → (Nat → oC) → Prop} : oE d 183 11 [l0, l1] [.inl x] σ Q = Q (some (.inl x)) (oBld σ) := oIret f_183_11 rt_183
theorem f_183_12 : oFet 183 12 = some (.iload_n 1, 1) := by decide +kernel
theorem s_183_12 {d : Nat} {l0 : oV} {x : Int} {S : List oV} {σ : oSg} {Q : Option oV → (Nat → oC) → Prop} : oE d 183 12 [l0, .inl x] S σ Q = oE d 183 13 [l0, .inl x] (.inl x :: S) σ Q := pLdN (k := 1) f_183_12 rfl rfl rfl
theorem f_183_13 : oFet 183 13 = some (.iconst 5, 1) := by decide +kernel
theorem s_183_13 {d : Nat} {l0 l1 : oV} {S : List oV} {σ : oSg} {Q : Option oV → (Nat → oC) → Prop} : oE d 183 13 [l0, l1] S σ Q = oE d 183 14 [l0, l1] (.inl (5) :: S) σ Q := pKst f_183_13 (by decide)
theorem f_183_14 : oFet 183 14 = some (.if_icmp .lt 25, 3) := by decide +kernel
theorem s_183_14 {d : Nat} {l0 l1 : oV} {x y : Int} {S : List oV} {σ : oSg} {Q : Option oV → (Nat → oC) → Prop} : oE d 183 14 [l0, l1] (.inl y :: .inl x :: S) σ Q = if x < y then oE d 183 39 [l0, l1] S σ Q else oE d 183 17 [l0, l1] S σ Q := oCmpLt f_183_14 (by decide)
theorem f_183_17 : oFet 183 17 = some (.iload_n 1, 1) := by decide +kernel
theorem s_183_17 {d : Nat} {l0 : oV} {x : Int} {S : List oV} {σ : oSg} {Q : Option oV → (Nat → oC) → Prop} : oE d 183 17 [l0, .inl x] S σ Q = oE d 183 18 [l0, .inl x] (.inl x :: S) σ Q := pLdN (k := 1) f_183_17 rfl rfl rfl
theorem f_183_18 : oFet 183 18 = some (.bipush 8, 2) := by decide +kernel
theorem s_183_18 {d : Nat} {l0 l1 : oV} {S : List oV} {σ : oSg} {Q : Option oV → (Nat → oC) → Prop} : oE d 183 18 [l0, l1] S σ Q = oE d 183 20 [l0, l1] (.inl (8) :: S) σ Q := pBip f_183_18 (by decide)
theorem f_183_20 : oFet 183 20 = some (.if_icmp .gt 19, 3) := by decide +kernel
theorem s_183_20 {d : Nat} {l0 l1 : oV} {x y : Int} {S : List oV} {σ : oSg} {Q : Option oV → (Nat → oC) → Prop} : oE d 183 20 [l0, l1] (.inl y :: .inl x :: S) σ Q = if y < x then oE d 183 39 [l0, l1] S σ Q else oE d 183 23 [l0, l1] S σ Q := oCmpGt f_183_20 (by decide)
theorem f_183_23 : oFet 183 23 = some (.aload_n 0, 1) := by decide +kernel
theorem s_183_23 {d : Nat} {l1 : oV} {a : Nat} {S : List oV} {σ : oSg} {Q : Option oV → (Nat → oC) → Prop} : oE d 183 23 [.inr (.inr (.inl a)), l1] S σ Q = oE d 183 24 [.inr (.inr (.inl a)), l1] (.inr (.inr (.inl a)) :: S) σ Q := pLdN (k := 0) f_183_23 rfl rfl rfl
theorem f_183_24 : oFet 183 24 = some (.iload_n 1, 1) := by decide +kernel
theorem s_183_24 {d : Nat} {l0 : oV} {x : Int} {S : List oV} {σ : oSg} {Q : Option oV → (Nat → oC) → Prop} : oE d 183 24 [l0, .inl x] S σ Q = oE d 183 25 [l0, .inl x] (.inl x :: S) σ Q := pLdN (k := 1) f_183_24 rfl rfl rfl
theorem f_183_25 : oFet 183 25 = some (.bipush 7, 2) := by decide +kernel
theorem s_183_25 {d : Nat} {l0 l1 : oV} {S : List oV} {σ : oSg} {Q : Option oV → (Nat → oC) → Prop} : oE d 183 25 [l0, l1] S σ Q = oE d 183 27 [l0, l1] (.inl (7) :: S) σ Q := pBip f_183_25 (by decide)
theorem f_183_27 : oFet 183 27 = some (.if_icmp .ge 7, 3) := by decide +kernel
theorem s_183_27 {d : Nat} {l0 l1 : oV} {x y : Int} {S : List oV} {σ : oSg} {Q : Option oV → (Nat → oC) → Prop} : oE d 183 27 [l0, l1] (.inl y :: .inl x :: S) σ Q = if y ≤ x then oE d 183 34 [l0, l1] S σ Q else oE d 183 30 [l0, l1] S σ Q := oCmpGe f_183_27 (by decide)
theorem f_183_30 : oFet 183 30 = some (.iconst 0, 1) := by decide +kernel
theorem s_183_30 {d : Nat} {l0 l1 : oV} {S : List oV} {σ : oSg} {Q : Option oV → (Nat → oC) → Prop} : oE d 183 30 [l0, l1] S σ Q = oE d 183 31 [l0, l1] (.inl (0) :: S) σ Q := pKst f_183_30 (by decide)
theorem f_183_31 : oFet 183 31 = some (.goto 4, 3) := by decide +kernel
theorem s_183_31 {d : Nat} {l0 l1 : oV} {S : List oV} {σ : oSg} {Q : Option oV → (Nat → oC) → Prop} : oE d 183 31 [l0, l1] S σ Q = oE d 183 35 [l0, l1] S σ Q := pGoto f_183_31 (by decide)
theorem f_183_34 : oFet 183 34 = some (.iconst 1, 1) := by decide +kernel
theorem s_183_34 {d : Nat} {l0 l1 : oV} {S : List oV} {σ : oSg} {Q : Option oV → (Nat → oC) → Prop} : oE d 183 34 [l0, l1] S σ Q = oE d 183 35 [l0, l1] (.inl (1) :: S) σ Q := pKst f_183_34 (by decide)
theorem f_183_35 : oFet 183 35 = some (.iconst (-1), 1) := by decide +kernel
theorem s_183_35 {d : Nat} {l0 l1 : oV} {S : List oV} {σ : oSg} {Q : Option oV → (Nat → oC) → Prop} : oE d 183 35 [l0, l1] S σ Q = oE d 183 36 [l0, l1] (.inl (-1) :: S) σ Q := pKst f_183_35 (by decide)
theorem f_183_36 : oFet 183 36 = some (.invokevirtual 105, 3) := by decide +kernel
theorem c_183_36 {d : Nat} {l0 l1 : oV} {x0 x1 : oV} {a : Nat} {v : Option oV} {τ : oSg} {S : List oV} {σ : oSg} {Q : Option oV → (Nat → oC) → Prop} (hm : oMi d 159 [.inr (.inr (.inl a)), x0, x1] σ v τ) (hk : oKd a = some 11) (hs : oSmall S = true) : oE d 183 36 [l0, l1] (x1 :: x0 :: .inr (.inr (.inl a)) :: S) σ Q = oE d 183 39 [l0, l1] (v.toList ++ S) τ Q := pCallV f_183_36 ow_183 lk_11_105 mt_159 rfl rfl rfl hk hs hm
theorem f_183_39 : oFet 183 39 = some (.iload_n 1, 1) := by decide +kernel
theorem s_183_39 {d : Nat} {l0 : oV} {x : Int} {S : List oV} {σ : oSg} {Q : Option oV → (Nat → oC) → Prop} : oE d 183 39 [l0, .inl x] S σ Q = oE d 183 40 [l0, .inl x] (.inl x :: S) σ Q := pLdN (k := 1) f_183_39 rfl rfl rfl
theorem f_183_40 : oFet 183 40 = some (.tableswitch 109 0 9 #[56, 63, 69, 74, 79, 93, 98, 93, 98, 103], 56) := by decide +kernel
theorem s_183_40_0 {d : Nat} {l0 l1 : oV} {S : List oV} {σ : oSg} {Q : Option oV → (Nat → oC) → Prop} : oE d 183 40 [l0, l1] (.inl (0) :: S) σ Q = oE d 183 96 [l0, l1] S σ Q := oTabIn f_183_40 (by decide) rfl (by decide)
theorem s_183_40_1 {d : Nat} {l0 l1 : oV} {S : List oV} {σ : oSg} {Q : Option oV → (Nat → oC) → Prop} : oE d 183 40 [l0, l1] (.inl (1) :: S) σ Q = oE d 183 103 [l0, l1] S σ Q := oTabIn f_183_40 (by decide) rfl (by decide)
theorem s_183_40_2 {d : Nat} {l0 l1 : oV} {S : List oV} {σ : oSg} {Q : Option oV → (Nat → oC) → Prop} : oE d 183 40 [l0, l1] (.inl (2) :: S) σ Q = oE d 183 109 [l0, l1] S σ Q := oTabIn f_183_40 (by decide) rfl (by decide)
theorem s_183_40_3 {d : Nat} {l0 l1 : oV} {S : List oV} {σ : oSg} {Q : Option oV → (Nat → oC) → Prop} : oE d 183 40 [l0, l1] (.inl (3) :: S) σ Q = oE d 183 114 [l0, l1] S σ Q := oTabIn f_183_40 (by decide) rfl (by decide)
theorem s_183_40_4 {d : Nat} {l0 l1 : oV} {S : List oV} {σ : oSg} {Q : Option oV → (Nat → oC) → Prop} : oE d 183 40 [l0, l1] (.inl (4) :: S) σ Q = oE d 183 119 [l0, l1] S σ Q := oTabIn f_183_40 (by decide) rfl (by decide)
theorem s_183_40_5 {d : Nat} {l0 l1 : oV} {S : List oV} {σ : oSg} {Q : Option oV → (Nat → oC) → Prop} : oE d 183 40 [l0, l1] (.inl (5) :: S) σ Q = oE d 183 133 [l0, l1] S σ Q := oTabIn f_183_40 (by decide) rfl (by decide)
theorem s_183_40_6 {d : Nat} {l0 l1 : oV} {S : List oV} {σ : oSg} {Q : Option oV → (Nat → oC) → Prop} : oE d 183 40 [l0, l1] (.inl (6) :: S) σ Q = oE d 183 138 [l0, l1] S σ Q := oTabIn f_183_40 (by decide) rfl (by decide)
theorem s_183_40_7 {d : Nat} {l0 l1 : oV} {S : List oV} {σ : oSg} {Q : Option oV → (Nat → oC) → Prop} : oE d 183 40 [l0, l1] (.inl (7) :: S) σ Q = oE d 183 133 [l0, l1] S σ Q := oTabIn f_183_40 (by decide) rfl (by decide)
theorem s_183_40_8 {d : Nat} {l0 l1 : oV} {S : List oV} {σ : oSg} {Q : Option oV → (Nat → oC) → Prop} : oE d 183 40 [l0, l1] (.inl (8) :: S) σ Q = oE d 183 138 [l0, l1] S σ Q := oTabIn f_183_40 (by decide) rfl (by decide)
theorem s_183_40_9 {d : Nat} {l0 l1 : oV} {S : List oV} {σ : oSg} {Q : Option oV → (Nat → oC) → Prop} : oE d 183 40 [l0, l1] (.inl (9) :: S) σ Q = oE d 183 143 [l0, l1] S σ Q := oTabIn f_183_40 (by decide) rfl (by decide)
theorem s_183_40_d {d : Nat} {l0 l1 : oV} {x : Int} {S : List oV} {σ : oSg} {Q : Option oV → (Nat → oC) → Prop} (hx : x < 0 ∨ 9 < x) : oE d 183 40 [l0, l1] (.inl x :: S) σ Q = oE d 183 149 [l0, l1] S σ Q := oTabOut f_183_40 hx (by decide)
theorem f_183_96 : oFet 183 96 = some (.aload_n 0, 1) := by decide +kernel
theorem s_183_96 {d : Nat} {l1 : oV} {a : Nat} {S : List oV} {σ : oSg} {Q : Option oV → (Nat → oC) → Prop} : oE d 183 96 [.inr (.inr (.inl a)), l1] S σ Q = oE d 183 97 [.inr (.inr (.inl a)), l1] (.inr (.inr (.inl a)) :: S) σ Q := pLdN (k := 0) f_183_96 rfl rfl rfl
theorem f_183_97 : oFet 183 97 = some (.getfield 11, 3) := by decide +kernel
theorem s_183_97 {d : Nat} {l0 l1 : oV} {a : Nat} {S : List oV} {σ : oSg} {Q : Option oV → (Nat → oC) → Prop} (hk : oKd a = some 11) : oE d 183 97 [l0, l1] (.inr (.inr (.inl a)) :: S) σ Q = oE d 183 100 [l0, l1] (.inr (.inr (.inl (oRf a 0))) :: S) σ Q := pGfR f_183_97 ow_183 fl_11_11 rfl (by decide) hk
theorem f_183_100 : oFet 183 100 = some (.iconst 0, 1) := by decide +kernel
theorem s_183_100 {d : Nat} {l0 l1 : oV} {S : List oV} {σ : oSg} {Q : Option oV → (Nat → oC) → Prop} : oE d 183 100 [l0, l1] S σ Q = oE d 183 101 [l0, l1] (.inl (0) :: S) σ Q := pKst f_183_100 (by decide)
theorem f_183_101 : oFet 183 101 = some (.iaload, 1) := by decide +kernel
theorem s_183_101 {d : Nat} {l0 l1 : oV} {a : Nat} {i : Int} {S : List oV} {σ : oSg} {Q : Option oV → (Nat → oC) → Prop} (hk : oAk a = some 0) (h0 : 0 ≤ i) (h1 : i < (oLn a : Int)) : oE d 183 101 [l0, l1] (.inl i :: .inr (.inr (.inl a)) :: S) σ Q = oE d 183 102 [l0, l1] (.inl (σ.2 a i.toNat) :: S) σ Q := oIal f_183_101 hk h0 h1
theorem f_183_102 : oFet 183 102 = some (.ireturn, 1) := by decide +kernel
theorem s_183_102 {d : Nat} {l0 l1 : oV} {x : Int} {σ : oSg} {Q : Option oV → (Nat → oC) → Prop} : oE d 183 102 [l0, l1] [.inl x] σ Q = Q (some (.inl x)) (oBld σ) := oIret f_183_102 rt_183
theorem f_183_103 : oFet 183 103 = some (.aload_n 0, 1) := by decide +kernel
theorem s_183_103 {d : Nat} {l1 : oV} {a : Nat} {S : List oV} {σ : oSg} {Q : Option oV → (Nat → oC) → Prop} : oE d 183 103 [.inr (.inr (.inl a)), l1] S σ Q = oE d 183 104 [.inr (.inr (.inl a)), l1] (.inr (.inr (.inl a)) :: S) σ Q := pLdN (k := 0) f_183_103 rfl rfl rfl
theorem f_183_104 : oFet 183 104 = some (.iconst 0, 1) := by decide +kernel
theorem s_183_104 {d : Nat} {l0 l1 : oV} {S : List oV} {σ : oSg} {Q : Option oV → (Nat → oC) → Prop} : oE d 183 104 [l0, l1] S σ Q = oE d 183 105 [l0, l1] (.inl (0) :: S) σ Q := pKst f_183_104 (by decide)
theorem f_183_105 : oFet 183 105 = some (.invokevirtual 201, 3) := by decide +kernel
theorem c_183_105 {d : Nat} {l0 l1 : oV} {x0 : oV} {a : Nat} {v : Option oV} {τ : oSg} {S : List oV} {σ : oSg} {Q : Option oV → (Nat → oC) → Prop} (hm : oMi d 184 [.inr (.inr (.inl a)), x0] σ v τ) (hk : oKd a = some 11) (hs : oSmall S = true) : oE d 183 105 [l0, l1] (x0 :: .inr (.inr (.inl a)) :: S) σ Q = oE d 183 108 [l0, l1] (v.toList ++ S) τ Q := pCallV f_183_105 ow_183 lk_11_201 mt_184 rfl rfl rfl hk hs hm
theorem f_183_108 : oFet 183 108 = some (.ireturn, 1) := by decide +kernel
theorem s_183_108 {d : Nat} {l0 l1 : oV} {x : Int} {σ : oSg} {Q : Option oV → (Nat → oC) → Prop} : oE d 183 108 [l0, l1] [.inl x] σ Q = Q (some (.inl x)) (oBld σ) := oIret f_183_108 rt_183
theorem f_183_109 : oFet 183 109 = some (.aload_n 0, 1) := by decide +kernel
theorem s_183_109 {d : Nat} {l1 : oV} {a : Nat} {S : List oV} {σ : oSg} {Q : Option oV → (Nat → oC) → Prop} : oE d 183 109 [.inr (.inr (.inl a)), l1] S σ Q = oE d 183 110 [.inr (.inr (.inl a)), l1] (.inr (.inr (.inl a)) :: S) σ Q := pLdN (k := 0) f_183_109 rfl rfl rfl
theorem f_183_110 : oFet 183 110 = some (.invokevirtual 98, 3) := by decide +kernel
theorem c_183_110 {d : Nat} {l0 l1 : oV} {a : Nat} {v : Option oV} {τ : oSg} {S : List oV} {σ : oSg} {Q : Option oV → (Nat → oC) → Prop} (hm : oMi d 155 [.inr (.inr (.inl a))] σ v τ) (hk : oKd a = some 11) (hs : oSmall S = true) : oE d 183 110 [l0, l1] (.inr (.inr (.inl a)) :: S) σ Q = oE d 183 113 [l0, l1] (v.toList ++ S) τ Q := pCallV f_183_110 ow_183 lk_11_98 mt_155 rfl rfl rfl hk hs hm
theorem f_183_113 : oFet 183 113 = some (.ireturn, 1) := by decide +kernel
theorem s_183_113 {d : Nat} {l0 l1 : oV} {x : Int} {σ : oSg} {Q : Option oV → (Nat → oC) → Prop} : oE d 183 113 [l0, l1] [.inl x] σ Q = Q (some (.inl x)) (oBld σ) := oIret f_183_113 rt_183
theorem f_183_114 : oFet 183 114 = some (.aload_n 0, 1) := by decide +kernel
theorem s_183_114 {d : Nat} {l1 : oV} {a : Nat} {S : List oV} {σ : oSg} {Q : Option oV → (Nat → oC) → Prop} : oE d 183 114 [.inr (.inr (.inl a)), l1] S σ Q = oE d 183 115 [.inr (.inr (.inl a)), l1] (.inr (.inr (.inl a)) :: S) σ Q := pLdN (k := 0) f_183_114 rfl rfl rfl
theorem f_183_115 : oFet 183 115 = some (.invokevirtual 205, 3) := by decide +kernel
theorem c_183_115 {d : Nat} {l0 l1 : oV} {a : Nat} {v : Option oV} {τ : oSg} {S : List oV} {σ : oSg} {Q : Option oV → (Nat → oC) → Prop} (hm : oMi d 186 [.inr (.inr (.inl a))] σ v τ) (hk : oKd a = some 11) (hs : oSmall S = true) : oE d 183 115 [l0, l1] (.inr (.inr (.inl a)) :: S) σ Q = oE d 183 118 [l0, l1] (v.toList ++ S) τ Q := pCallV f_183_115 ow_183 lk_11_205 mt_186 rfl rfl rfl hk hs hm
theorem f_183_118 : oFet 183 118 = some (.ireturn, 1) := by decide +kernel
theorem s_183_118 {d : Nat} {l0 l1 : oV} {x : Int} {σ : oSg} {Q : Option oV → (Nat → oC) → Prop} : oE d 183 118 [l0, l1] [.inl x] σ Q = Q (some (.inl x)) (oBld σ) := oIret f_183_118 rt_183
theorem f_183_119 : oFet 183 119 = some (.aload_n 0, 1) := by decide +kernel
theorem s_183_119 {d : Nat} {l1 : oV} {a : Nat} {S : List oV} {σ : oSg} {Q : Option oV → (Nat → oC) → Prop} : oE d 183 119 [.inr (.inr (.inl a)), l1] S σ Q = oE d 183 120 [.inr (.inr (.inl a)), l1] (.inr (.inr (.inl a)) :: S) σ Q := pLdN (k := 0) f_183_119 rfl rfl rfl
theorem f_183_120 : oFet 183 120 = some (.getfield 11, 3) := by decide +kernel
theorem s_183_120 {d : Nat} {l0 l1 : oV} {a : Nat} {S : List oV} {σ : oSg} {Q : Option oV → (Nat → oC) → Prop} (hk : oKd a = some 11) : oE d 183 120 [l0, l1] (.inr (.inr (.inl a)) :: S) σ Q = oE d 183 123 [l0, l1] (.inr (.inr (.inl (oRf a 0))) :: S) σ Q := pGfR f_183_120 ow_183 fl_11_11 rfl (by decide) hk
theorem f_183_123 : oFet 183 123 = some (.iconst 0, 1) := by decide +kernel
theorem s_183_123 {d : Nat} {l0 l1 : oV} {S : List oV} {σ : oSg} {Q : Option oV → (Nat → oC) → Prop} : oE d 183 123 [l0, l1] S σ Q = oE d 183 124 [l0, l1] (.inl (0) :: S) σ Q := pKst f_183_123 (by decide)
theorem f_183_124 : oFet 183 124 = some (.iaload, 1) := by decide +kernel
theorem s_183_124 {d : Nat} {l0 l1 : oV} {a : Nat} {i : Int} {S : List oV} {σ : oSg} {Q : Option oV → (Nat → oC) → Prop} (hk : oAk a = some 0) (h0 : 0 ≤ i) (h1 : i < (oLn a : Int)) : oE d 183 124 [l0, l1] (.inl i :: .inr (.inr (.inl a)) :: S) σ Q = oE d 183 125 [l0, l1] (.inl (σ.2 a i.toNat) :: S) σ Q := oIal f_183_124 hk h0 h1
theorem f_183_125 : oFet 183 125 = some (.iconst 2, 1) := by decide +kernel
theorem s_183_125 {d : Nat} {l0 l1 : oV} {S : List oV} {σ : oSg} {Q : Option oV → (Nat → oC) → Prop} : oE d 183 125 [l0, l1] S σ Q = oE d 183 126 [l0, l1] (.inl (2) :: S) σ Q := pKst f_183_125 (by decide)
theorem f_183_126 : oFet 183 126 = some (.aload_n 0, 1) := by decide +kernel
theorem s_183_126 {d : Nat} {l1 : oV} {a : Nat} {S : List oV} {σ : oSg} {Q : Option oV → (Nat → oC) → Prop} : oE d 183 126 [.inr (.inr (.inl a)), l1] S σ Q = oE d 183 127 [.inr (.inr (.inl a)), l1] (.inr (.inr (.inl a)) :: S) σ Q := pLdN (k := 0) f_183_126 rfl rfl rfl
theorem f_183_127 : oFet 183 127 = some (.invokevirtual 98, 3) := by decide +kernel
theorem c_183_127 {d : Nat} {l0 l1 : oV} {a : Nat} {v : Option oV} {τ : oSg} {S : List oV} {σ : oSg} {Q : Option oV → (Nat → oC) → Prop} (hm : oMi d 155 [.inr (.inr (.inl a))] σ v τ) (hk : oKd a = some 11) (hs : oSmall S = true) : oE d 183 127 [l0, l1] (.inr (.inr (.inl a)) :: S) σ Q = oE d 183 130 [l0, l1] (v.toList ++ S) τ Q := pCallV f_183_127 ow_183 lk_11_98 mt_155 rfl rfl rfl hk hs hm
theorem f_183_130 : oFet 183 130 = some (.imul, 1) := by decide +kernel
theorem s_183_130 {d : Nat} {l0 l1 : oV} {x y : Int} {S : List oV} {σ : oSg} {Q : Option oV → (Nat → oC) → Prop} : oE d 183 130 [l0, l1] (.inl y :: .inl x :: S) σ Q = oE d 183 131 [l0, l1] (.inl (oMul x y) :: S) σ Q := oS3 f_183_130 rfl rfl rfl
theorem f_183_131 : oFet 183 131 = some (.isub, 1) := by decide +kernel
theorem s_183_131 {d : Nat} {l0 l1 : oV} {x y : Int} {S : List oV} {σ : oSg} {Q : Option oV → (Nat → oC) → Prop} : oE d 183 131 [l0, l1] (.inl y :: .inl x :: S) σ Q = oE d 183 132 [l0, l1] (.inl (oSub x y) :: S) σ Q := oS3 f_183_131 rfl rfl rfl
theorem f_183_132 : oFet 183 132 = some (.ireturn, 1) := by decide +kernel
theorem s_183_132 {d : Nat} {l0 l1 : oV} {x : Int} {σ : oSg} {Q : Option oV → (Nat → oC) → Prop} : oE d 183 132 [l0, l1] [.inl x] σ Q = Q (some (.inl x)) (oBld σ) := oIret f_183_132 rt_183
theorem f_183_133 : oFet 183 133 = some (.aload_n 0, 1) := by decide +kernel
theorem s_183_133 {d : Nat} {l1 : oV} {a : Nat} {S : List oV} {σ : oSg} {Q : Option oV → (Nat → oC) → Prop} : oE d 183 133 [.inr (.inr (.inl a)), l1] S σ Q = oE d 183 134 [.inr (.inr (.inl a)), l1] (.inr (.inr (.inl a)) :: S) σ Q := pLdN (k := 0) f_183_133 rfl rfl rfl
theorem f_183_134 : oFet 183 134 = some (.getfield 180, 3) := by decide +kernel
theorem s_183_134 {d : Nat} {l0 l1 : oV} {a : Nat} {S : List oV} {σ : oSg} {Q : Option oV → (Nat → oC) → Prop} (hk : oKd a = some 11) : oE d 183 134 [l0, l1] (.inr (.inr (.inl a)) :: S) σ Q = oE d 183 137 [l0, l1] (.inl (σ.1 a 15) :: S) σ Q := pGfI f_183_134 ow_183 fl_11_180 rfl (by decide) hk
theorem f_183_137 : oFet 183 137 = some (.ireturn, 1) := by decide +kernel
theorem s_183_137 {d : Nat} {l0 l1 : oV} {x : Int} {σ : oSg} {Q : Option oV → (Nat → oC) → Prop} : oE d 183 137 [l0, l1] [.inl x] σ Q = Q (some (.inl x)) (oBld σ) := oIret f_183_137 rt_183
theorem f_183_138 : oFet 183 138 = some (.aload_n 0, 1) := by decide +kernel
theorem s_183_138 {d : Nat} {l1 : oV} {a : Nat} {S : List oV} {σ : oSg} {Q : Option oV → (Nat → oC) → Prop} : oE d 183 138 [.inr (.inr (.inl a)), l1] S σ Q = oE d 183 139 [.inr (.inr (.inl a)), l1] (.inr (.inr (.inl a)) :: S) σ Q := pLdN (k := 0) f_183_138 rfl rfl rfl
theorem f_183_139 : oFet 183 139 = some (.getfield 177, 3) := by decide +kernel
theorem s_183_139 {d : Nat} {l0 l1 : oV} {a : Nat} {S : List oV} {σ : oSg} {Q : Option oV → (Nat → oC) → Prop} (hk : oKd a = some 11) : oE d 183 139 [l0, l1] (.inr (.inr (.inl a)) :: S) σ Q = oE d 183 142 [l0, l1] (.inl (σ.1 a 14) :: S) σ Q := pGfI f_183_139 ow_183 fl_11_177 rfl (by decide) hk
theorem f_183_142 : oFet 183 142 = some (.ireturn, 1) := by decide +kernel
theorem s_183_142 {d : Nat} {l0 l1 : oV} {x : Int} {σ : oSg} {Q : Option oV → (Nat → oC) → Prop} : oE d 183 142 [l0, l1] [.inl x] σ Q = Q (some (.inl x)) (oBld σ) := oIret f_183_142 rt_183
theorem f_183_143 : oFet 183 143 = some (.aload_n 0, 1) := by decide +kernel
theorem s_183_143 {d : Nat} {l1 : oV} {a : Nat} {S : List oV} {σ : oSg} {Q : Option oV → (Nat → oC) → Prop} : oE d 183 143 [.inr (.inr (.inl a)), l1] S σ Q = oE d 183 144 [.inr (.inr (.inl a)), l1] (.inr (.inr (.inl a)) :: S) σ Q := pLdN (k := 0) f_183_143 rfl rfl rfl
theorem f_183_144 : oFet 183 144 = some (.iconst 1, 1) := by decide +kernel
theorem s_183_144 {d : Nat} {l0 l1 : oV} {S : List oV} {σ : oSg} {Q : Option oV → (Nat → oC) → Prop} : oE d 183 144 [l0, l1] S σ Q = oE d 183 145 [l0, l1] (.inl (1) :: S) σ Q := pKst f_183_144 (by decide)
theorem f_183_145 : oFet 183 145 = some (.invokevirtual 201, 3) := by decide +kernel
theorem c_183_145 {d : Nat} {l0 l1 : oV} {x0 : oV} {a : Nat} {v : Option oV} {τ : oSg} {S : List oV} {σ : oSg} {Q : Option oV → (Nat → oC) → Prop} (hm : oMi d 184 [.inr (.inr (.inl a)), x0] σ v τ) (hk : oKd a = some 11) (hs : oSmall S = true) : oE d 183 145 [l0, l1] (x0 :: .inr (.inr (.inl a)) :: S) σ Q = oE d 183 148 [l0, l1] (v.toList ++ S) τ Q := pCallV f_183_145 ow_183 lk_11_201 mt_184 rfl rfl rfl hk hs hm
theorem f_183_148 : oFet 183 148 = some (.ireturn, 1) := by decide +kernel
theorem s_183_148 {d : Nat} {l0 l1 : oV} {x : Int} {σ : oSg} {Q : Option oV → (Nat → oC) → Prop} : oE d 183 148 [l0, l1] [.inl x] σ Q = Q (some (.inl x)) (oBld σ) := oIret f_183_148 rt_183
theorem f_183_149 : oFet 183 149 = some (.aload_n 0, 1) := by decide +kernel
theorem s_183_149 {d : Nat} {l1 : oV} {a : Nat} {S : List oV} {σ : oSg} {Q : Option oV → (Nat → oC) → Prop} : oE d 183 149 [.inr (.inr (.inl a)), l1] S σ Q = oE d 183 150 [.inr (.inr (.inl a)), l1] (.inr (.inr (.inl a)) :: S) σ Q := pLdN (k := 0) f_183_149 rfl rfl rfl
theorem f_183_150 : oFet 183 150 = some (.invokevirtual 208, 3) := by decide +kernel
theorem c_183_150 {d : Nat} {l0 l1 : oV} {a : Nat} {v : Option oV} {τ : oSg} {S : List oV} {σ : oSg} {Q : Option oV → (Nat → oC) → Prop} (hm : oMi d 187 [.inr (.inr (.inl a))] σ v τ) (hk : oKd a = some 11) (hs : oSmall S = true) : oE d 183 150 [l0, l1] (.inr (.inr (.inl a)) :: S) σ Q = oE d 183 153 [l0, l1] (v.toList ++ S) τ Q := pCallV f_183_150 ow_183 lk_11_208 mt_187 rfl rfl rfl hk hs hm
theorem f_183_153 : oFet 183 153 = some (.ireturn, 1) := by decide +kernel
theorem s_183_153 {d : Nat} {l0 l1 : oV} {x : Int} {σ : oSg} {Q : Option oV → (Nat → oC) → Prop} : oE d 183 153 [l0, l1] [.inl x] σ Q = Q (some (.inl x)) (oBld σ) := oIret f_183_153 rt_183
theorem ow_184 : (oMt 184).2.2.2.2.1 = 11 := by decide +kernel
theorem rt_184 : (oMt 184).2.2.2.1 = some .int := by decide +kernel
theorem nl_184 : (oMt 184).2.2.1 = 5 := by decide +kernel
theorem f_184_0 : oFet 184 0 = some (.iconst 0, 1) := by decide +kernel
theorem s_184_0 {d : Nat} {l0 l1 l2 l3 l4 : oV} {S : List oV} {σ : oSg} {Q : Option oV → (Nat → oC) → Prop} : oE d 184 0 [l0, l1, l2, l3, l4] S σ Q = oE d 184 1 [l0, l1, l2, l3, l4] (.inl (0) :: S) σ Q := pKst f_184_0 (by decide)
theorem f_184_1 : oFet 184 1 = some (.istore_n 2, 1) := by decide +kernel
theorem s_184_1 {d : Nat} {l0 l1 l2 l3 l4 : oV} {x : Int} {S : List oV} {σ : oSg} {Q : Option oV → (Nat → oC) → Prop} (c2 : oCat l2 = 1) (c1 : oCat l1 = 1)  : oE d 184 1 [l0, l1, l2, l3, l4] (.inl x :: S) σ Q = oE d 184 2 [l0, l1, .inl x, l3, l4] S σ Q := pSt (i := 2) f_184_1 rfl rfl (show (2 : Nat) < 5 by decide) (oC1n c1) (oC1n c2) rfl
theorem f_184_2 : oFet 184 2 = some (.iconst 0, 1) := by decide +kernel
theorem s_184_2 {d : Nat} {l0 l1 l2 l3 l4 : oV} {S : List oV} {σ : oSg} {Q : Option oV → (Nat → oC) → Prop} : oE d 184 2 [l0, l1, l2, l3, l4] S σ Q = oE d 184 3 [l0, l1, l2, l3, l4] (.inl (0) :: S) σ Q := pKst f_184_2 (by decide)
theorem f_184_3 : oFet 184 3 = some (.istore_n 3, 1) := by decide +kernel
theorem s_184_3 {d : Nat} {l0 l1 l2 l3 l4 : oV} {x : Int} {S : List oV} {σ : oSg} {Q : Option oV → (Nat → oC) → Prop} (c3 : oCat l3 = 1) (c2 : oCat l2 = 1)  : oE d 184 3 [l0, l1, l2, l3, l4] (.inl x :: S) σ Q = oE d 184 4 [l0, l1, l2, .inl x, l4] S σ Q := pSt (i := 3) f_184_3 rfl rfl (show (3 : Nat) < 5 by decide) (oC1n c2) (oC1n c3) rfl
theorem f_184_4 : oFet 184 4 = some (.iload_n 3, 1) := by decide +kernel
theorem s_184_4 {d : Nat} {l0 l1 l2 l4 : oV} {x : Int} {S : List oV} {σ : oSg} {Q : Option oV → (Nat → oC) → Prop} : oE d 184 4 [l0, l1, l2, .inl x, l4] S σ Q = oE d 184 5 [l0, l1, l2, .inl x, l4] (.inl x :: S) σ Q := pLdN (k := 3) f_184_4 rfl rfl rfl
theorem f_184_5 : oFet 184 5 = some (.aload_n 0, 1) := by decide +kernel
theorem s_184_5 {d : Nat} {l1 l2 l3 l4 : oV} {a : Nat} {S : List oV} {σ : oSg} {Q : Option oV → (Nat → oC) → Prop} : oE d 184 5 [.inr (.inr (.inl a)), l1, l2, l3, l4] S σ Q = oE d 184 6 [.inr (.inr (.inl a)), l1, l2, l3, l4] (.inr (.inr (.inl a)) :: S) σ Q := pLdN (k := 0) f_184_5 rfl rfl rfl
theorem f_184_6 : oFet 184 6 = some (.getfield 11, 3) := by decide +kernel
theorem s_184_6 {d : Nat} {l0 l1 l2 l3 l4 : oV} {a : Nat} {S : List oV} {σ : oSg} {Q : Option oV → (Nat → oC) → Prop} (hk : oKd a = some 11) : oE d 184 6 [l0, l1, l2, l3, l4] (.inr (.inr (.inl a)) :: S) σ Q = oE d 184 9 [l0, l1, l2, l3, l4] (.inr (.inr (.inl (oRf a 0))) :: S) σ Q := pGfR f_184_6 ow_184 fl_11_11 rfl (by decide) hk
theorem f_184_9 : oFet 184 9 = some (.iconst 0, 1) := by decide +kernel
theorem s_184_9 {d : Nat} {l0 l1 l2 l3 l4 : oV} {S : List oV} {σ : oSg} {Q : Option oV → (Nat → oC) → Prop} : oE d 184 9 [l0, l1, l2, l3, l4] S σ Q = oE d 184 10 [l0, l1, l2, l3, l4] (.inl (0) :: S) σ Q := pKst f_184_9 (by decide)
theorem f_184_10 : oFet 184 10 = some (.iaload, 1) := by decide +kernel
theorem s_184_10 {d : Nat} {l0 l1 l2 l3 l4 : oV} {a : Nat} {i : Int} {S : List oV} {σ : oSg} {Q : Option oV → (Nat → oC) → Prop} (hk : oAk a = some 0) (h0 : 0 ≤ i) (h1 : i < (oLn a : Int)) : oE d 184 10 [l0, l1, l2, l3, l4] (.inl i :: .inr (.inr (.inl a)) :: S) σ Q = oE d 184 11 [l0, l1, l2, l3, l4] (.inl (σ.2 a i.toNat) :: S) σ Q := oIal f_184_10 hk h0 h1
theorem f_184_11 : oFet 184 11 = some (.if_icmp .ge 67, 3) := by decide +kernel
theorem s_184_11 {d : Nat} {l0 l1 l2 l3 l4 : oV} {x y : Int} {S : List oV} {σ : oSg} {Q : Option oV → (Nat → oC) → Prop} : oE d 184 11 [l0, l1, l2, l3, l4] (.inl y :: .inl x :: S) σ Q = if y ≤ x then oE d 184 78 [l0, l1, l2, l3, l4] S σ Q else oE d 184 14 [l0, l1, l2, l3, l4] S σ Q := oCmpGe f_184_11 (by decide)
theorem f_184_14 : oFet 184 14 = some (.iload_n 3, 1) := by decide +kernel
theorem s_184_14 {d : Nat} {l0 l1 l2 l4 : oV} {x : Int} {S : List oV} {σ : oSg} {Q : Option oV → (Nat → oC) → Prop} : oE d 184 14 [l0, l1, l2, .inl x, l4] S σ Q = oE d 184 15 [l0, l1, l2, .inl x, l4] (.inl x :: S) σ Q := pLdN (k := 3) f_184_14 rfl rfl rfl
theorem f_184_15 : oFet 184 15 = some (.iconst 1, 1) := by decide +kernel
theorem s_184_15 {d : Nat} {l0 l1 l2 l3 l4 : oV} {S : List oV} {σ : oSg} {Q : Option oV → (Nat → oC) → Prop} : oE d 184 15 [l0, l1, l2, l3, l4] S σ Q = oE d 184 16 [l0, l1, l2, l3, l4] (.inl (1) :: S) σ Q := pKst f_184_15 (by decide)
theorem f_184_16 : oFet 184 16 = some (.iadd, 1) := by decide +kernel
theorem s_184_16 {d : Nat} {l0 l1 l2 l3 l4 : oV} {x y : Int} {S : List oV} {σ : oSg} {Q : Option oV → (Nat → oC) → Prop} : oE d 184 16 [l0, l1, l2, l3, l4] (.inl y :: .inl x :: S) σ Q = oE d 184 17 [l0, l1, l2, l3, l4] (.inl (oAdd x y) :: S) σ Q := oS3 f_184_16 rfl rfl rfl
theorem f_184_17 : oFet 184 17 = some (.istore 4, 2) := by decide +kernel
theorem s_184_17 {d : Nat} {l0 l1 l2 l3 l4 : oV} {x : Int} {S : List oV} {σ : oSg} {Q : Option oV → (Nat → oC) → Prop} (c4 : oCat l4 = 1) (c3 : oCat l3 = 1)  : oE d 184 17 [l0, l1, l2, l3, l4] (.inl x :: S) σ Q = oE d 184 19 [l0, l1, l2, l3, .inl x] S σ Q := pSt (i := 4) f_184_17 rfl rfl (show (4 : Nat) < 5 by decide) (oC1n c3) (oC1n c4) rfl
theorem f_184_19 : oFet 184 19 = some (.iload 4, 2) := by decide +kernel
theorem s_184_19 {d : Nat} {l0 l1 l2 l3 : oV} {x : Int} {S : List oV} {σ : oSg} {Q : Option oV → (Nat → oC) → Prop} : oE d 184 19 [l0, l1, l2, l3, .inl x] S σ Q = oE d 184 21 [l0, l1, l2, l3, .inl x] (.inl x :: S) σ Q := pLd (i := 4) f_184_19 rfl rfl rfl
theorem f_184_21 : oFet 184 21 = some (.aload_n 0, 1) := by decide +kernel
theorem s_184_21 {d : Nat} {l1 l2 l3 l4 : oV} {a : Nat} {S : List oV} {σ : oSg} {Q : Option oV → (Nat → oC) → Prop} : oE d 184 21 [.inr (.inr (.inl a)), l1, l2, l3, l4] S σ Q = oE d 184 22 [.inr (.inr (.inl a)), l1, l2, l3, l4] (.inr (.inr (.inl a)) :: S) σ Q := pLdN (k := 0) f_184_21 rfl rfl rfl
theorem f_184_22 : oFet 184 22 = some (.getfield 11, 3) := by decide +kernel
theorem s_184_22 {d : Nat} {l0 l1 l2 l3 l4 : oV} {a : Nat} {S : List oV} {σ : oSg} {Q : Option oV → (Nat → oC) → Prop} (hk : oKd a = some 11) : oE d 184 22 [l0, l1, l2, l3, l4] (.inr (.inr (.inl a)) :: S) σ Q = oE d 184 25 [l0, l1, l2, l3, l4] (.inr (.inr (.inl (oRf a 0))) :: S) σ Q := pGfR f_184_22 ow_184 fl_11_11 rfl (by decide) hk
theorem f_184_25 : oFet 184 25 = some (.iconst 0, 1) := by decide +kernel
theorem s_184_25 {d : Nat} {l0 l1 l2 l3 l4 : oV} {S : List oV} {σ : oSg} {Q : Option oV → (Nat → oC) → Prop} : oE d 184 25 [l0, l1, l2, l3, l4] S σ Q = oE d 184 26 [l0, l1, l2, l3, l4] (.inl (0) :: S) σ Q := pKst f_184_25 (by decide)
theorem f_184_26 : oFet 184 26 = some (.iaload, 1) := by decide +kernel
theorem s_184_26 {d : Nat} {l0 l1 l2 l3 l4 : oV} {a : Nat} {i : Int} {S : List oV} {σ : oSg} {Q : Option oV → (Nat → oC) → Prop} (hk : oAk a = some 0) (h0 : 0 ≤ i) (h1 : i < (oLn a : Int)) : oE d 184 26 [l0, l1, l2, l3, l4] (.inl i :: .inr (.inr (.inl a)) :: S) σ Q = oE d 184 27 [l0, l1, l2, l3, l4] (.inl (σ.2 a i.toNat) :: S) σ Q := oIal f_184_26 hk h0 h1
theorem f_184_27 : oFet 184 27 = some (.if_icmp .ge 45, 3) := by decide +kernel
theorem s_184_27 {d : Nat} {l0 l1 l2 l3 l4 : oV} {x y : Int} {S : List oV} {σ : oSg} {Q : Option oV → (Nat → oC) → Prop} : oE d 184 27 [l0, l1, l2, l3, l4] (.inl y :: .inl x :: S) σ Q = if y ≤ x then oE d 184 72 [l0, l1, l2, l3, l4] S σ Q else oE d 184 30 [l0, l1, l2, l3, l4] S σ Q := oCmpGe f_184_27 (by decide)
theorem f_184_30 : oFet 184 30 = some (.aload_n 0, 1) := by decide +kernel
theorem s_184_30 {d : Nat} {l1 l2 l3 l4 : oV} {a : Nat} {S : List oV} {σ : oSg} {Q : Option oV → (Nat → oC) → Prop} : oE d 184 30 [.inr (.inr (.inl a)), l1, l2, l3, l4] S σ Q = oE d 184 31 [.inr (.inr (.inl a)), l1, l2, l3, l4] (.inr (.inr (.inl a)) :: S) σ Q := pLdN (k := 0) f_184_30 rfl rfl rfl
theorem f_184_31 : oFet 184 31 = some (.iload_n 3, 1) := by decide +kernel
theorem s_184_31 {d : Nat} {l0 l1 l2 l4 : oV} {x : Int} {S : List oV} {σ : oSg} {Q : Option oV → (Nat → oC) → Prop} : oE d 184 31 [l0, l1, l2, .inl x, l4] S σ Q = oE d 184 32 [l0, l1, l2, .inl x, l4] (.inl x :: S) σ Q := pLdN (k := 3) f_184_31 rfl rfl rfl
theorem f_184_32 : oFet 184 32 = some (.iload 4, 2) := by decide +kernel
theorem s_184_32 {d : Nat} {l0 l1 l2 l3 : oV} {x : Int} {S : List oV} {σ : oSg} {Q : Option oV → (Nat → oC) → Prop} : oE d 184 32 [l0, l1, l2, l3, .inl x] S σ Q = oE d 184 34 [l0, l1, l2, l3, .inl x] (.inl x :: S) σ Q := pLd (i := 4) f_184_32 rfl rfl rfl
theorem f_184_34 : oFet 184 34 = some (.invokevirtual 91, 3) := by decide +kernel
theorem c_184_34 {d : Nat} {l0 l1 l2 l3 l4 : oV} {x0 x1 : oV} {a : Nat} {v : Option oV} {τ : oSg} {S : List oV} {σ : oSg} {Q : Option oV → (Nat → oC) → Prop} (hm : oMi d 153 [.inr (.inr (.inl a)), x0, x1] σ v τ) (hk : oKd a = some 11) (hs : oSmall S = true) : oE d 184 34 [l0, l1, l2, l3, l4] (x1 :: x0 :: .inr (.inr (.inl a)) :: S) σ Q = oE d 184 37 [l0, l1, l2, l3, l4] (v.toList ++ S) τ Q := pCallV f_184_34 ow_184 lk_11_91 mt_153 rfl rfl rfl hk hs hm
theorem f_184_37 : oFet 184 37 = some (.ifCond .eq 29, 3) := by decide +kernel
theorem s_184_37 {d : Nat} {l0 l1 l2 l3 l4 : oV} {x : Int} {S : List oV} {σ : oSg} {Q : Option oV → (Nat → oC) → Prop} : oE d 184 37 [l0, l1, l2, l3, l4] (.inl x :: S) σ Q = if x = 0 then oE d 184 66 [l0, l1, l2, l3, l4] S σ Q else oE d 184 40 [l0, l1, l2, l3, l4] S σ Q := oIfEq f_184_37 (by decide)
theorem f_184_40 : oFet 184 40 = some (.iload_n 1, 1) := by decide +kernel
theorem s_184_40 {d : Nat} {l0 l2 l3 l4 : oV} {x : Int} {S : List oV} {σ : oSg} {Q : Option oV → (Nat → oC) → Prop} : oE d 184 40 [l0, .inl x, l2, l3, l4] S σ Q = oE d 184 41 [l0, .inl x, l2, l3, l4] (.inl x :: S) σ Q := pLdN (k := 1) f_184_40 rfl rfl rfl
theorem f_184_41 : oFet 184 41 = some (.ifCond .eq 22, 3) := by decide +kernel
theorem s_184_41 {d : Nat} {l0 l1 l2 l3 l4 : oV} {x : Int} {S : List oV} {σ : oSg} {Q : Option oV → (Nat → oC) → Prop} : oE d 184 41 [l0, l1, l2, l3, l4] (.inl x :: S) σ Q = if x = 0 then oE d 184 63 [l0, l1, l2, l3, l4] S σ Q else oE d 184 44 [l0, l1, l2, l3, l4] S σ Q := oIfEq f_184_41 (by decide)
theorem f_184_44 : oFet 184 44 = some (.aload_n 0, 1) := by decide +kernel
theorem s_184_44 {d : Nat} {l1 l2 l3 l4 : oV} {a : Nat} {S : List oV} {σ : oSg} {Q : Option oV → (Nat → oC) → Prop} : oE d 184 44 [.inr (.inr (.inl a)), l1, l2, l3, l4] S σ Q = oE d 184 45 [.inr (.inr (.inl a)), l1, l2, l3, l4] (.inr (.inr (.inl a)) :: S) σ Q := pLdN (k := 0) f_184_44 rfl rfl rfl
theorem f_184_45 : oFet 184 45 = some (.iload_n 3, 1) := by decide +kernel
theorem s_184_45 {d : Nat} {l0 l1 l2 l4 : oV} {x : Int} {S : List oV} {σ : oSg} {Q : Option oV → (Nat → oC) → Prop} : oE d 184 45 [l0, l1, l2, .inl x, l4] S σ Q = oE d 184 46 [l0, l1, l2, .inl x, l4] (.inl x :: S) σ Q := pLdN (k := 3) f_184_45 rfl rfl rfl
theorem f_184_46 : oFet 184 46 = some (.iload 4, 2) := by decide +kernel
theorem s_184_46 {d : Nat} {l0 l1 l2 l3 : oV} {x : Int} {S : List oV} {σ : oSg} {Q : Option oV → (Nat → oC) → Prop} : oE d 184 46 [l0, l1, l2, l3, .inl x] S σ Q = oE d 184 48 [l0, l1, l2, l3, .inl x] (.inl x :: S) σ Q := pLd (i := 4) f_184_46 rfl rfl rfl
theorem f_184_48 : oFet 184 48 = some (.invokevirtual 198, 3) := by decide +kernel
theorem c_184_48 {d : Nat} {l0 l1 l2 l3 l4 : oV} {x0 x1 : oV} {a : Nat} {v : Option oV} {τ : oSg} {S : List oV} {σ : oSg} {Q : Option oV → (Nat → oC) → Prop} (hm : oMi d 185 [.inr (.inr (.inl a)), x0, x1] σ v τ) (hk : oKd a = some 11) (hs : oSmall S = true) : oE d 184 48 [l0, l1, l2, l3, l4] (x1 :: x0 :: .inr (.inr (.inl a)) :: S) σ Q = oE d 184 51 [l0, l1, l2, l3, l4] (v.toList ++ S) τ Q := pCallV f_184_48 ow_184 lk_11_198 mt_185 rfl rfl rfl hk hs hm
theorem f_184_51 : oFet 184 51 = some (.iconst 2, 1) := by decide +kernel
theorem s_184_51 {d : Nat} {l0 l1 l2 l3 l4 : oV} {S : List oV} {σ : oSg} {Q : Option oV → (Nat → oC) → Prop} : oE d 184 51 [l0, l1, l2, l3, l4] S σ Q = oE d 184 52 [l0, l1, l2, l3, l4] (.inl (2) :: S) σ Q := pKst f_184_51 (by decide)
theorem f_184_52 : oFet 184 52 = some (.aload_n 0, 1) := by decide +kernel
theorem s_184_52 {d : Nat} {l1 l2 l3 l4 : oV} {a : Nat} {S : List oV} {σ : oSg} {Q : Option oV → (Nat → oC) → Prop} : oE d 184 52 [.inr (.inr (.inl a)), l1, l2, l3, l4] S σ Q = oE d 184 53 [.inr (.inr (.inl a)), l1, l2, l3, l4] (.inr (.inr (.inl a)) :: S) σ Q := pLdN (k := 0) f_184_52 rfl rfl rfl
theorem f_184_53 : oFet 184 53 = some (.iload_n 3, 1) := by decide +kernel
theorem s_184_53 {d : Nat} {l0 l1 l2 l4 : oV} {x : Int} {S : List oV} {σ : oSg} {Q : Option oV → (Nat → oC) → Prop} : oE d 184 53 [l0, l1, l2, .inl x, l4] S σ Q = oE d 184 54 [l0, l1, l2, .inl x, l4] (.inl x :: S) σ Q := pLdN (k := 3) f_184_53 rfl rfl rfl
theorem f_184_54 : oFet 184 54 = some (.iload 4, 2) := by decide +kernel
theorem s_184_54 {d : Nat} {l0 l1 l2 l3 : oV} {x : Int} {S : List oV} {σ : oSg} {Q : Option oV → (Nat → oC) → Prop} : oE d 184 54 [l0, l1, l2, l3, .inl x] S σ Q = oE d 184 56 [l0, l1, l2, l3, .inl x] (.inl x :: S) σ Q := pLd (i := 4) f_184_54 rfl rfl rfl
theorem f_184_56 : oFet 184 56 = some (.invokevirtual 65, 3) := by decide +kernel
theorem c_184_56 {d : Nat} {l0 l1 l2 l3 l4 : oV} {x0 x1 : oV} {a : Nat} {v : Option oV} {τ : oSg} {S : List oV} {σ : oSg} {Q : Option oV → (Nat → oC) → Prop} (hm : oMi d 147 [.inr (.inr (.inl a)), x0, x1] σ v τ) (hk : oKd a = some 11) (hs : oSmall S = true) : oE d 184 56 [l0, l1, l2, l3, l4] (x1 :: x0 :: .inr (.inr (.inl a)) :: S) σ Q = oE d 184 59 [l0, l1, l2, l3, l4] (v.toList ++ S) τ Q := pCallV f_184_56 ow_184 lk_11_65 mt_147 rfl rfl rfl hk hs hm
theorem f_184_59 : oFet 184 59 = some (.imul, 1) := by decide +kernel
theorem s_184_59 {d : Nat} {l0 l1 l2 l3 l4 : oV} {x y : Int} {S : List oV} {σ : oSg} {Q : Option oV → (Nat → oC) → Prop} : oE d 184 59 [l0, l1, l2, l3, l4] (.inl y :: .inl x :: S) σ Q = oE d 184 60 [l0, l1, l2, l3, l4] (.inl (oMul x y) :: S) σ Q := oS3 f_184_59 rfl rfl rfl
theorem f_184_60 : oFet 184 60 = some (.if_icmp .ne 6, 3) := by decide +kernel
theorem s_184_60 {d : Nat} {l0 l1 l2 l3 l4 : oV} {x y : Int} {S : List oV} {σ : oSg} {Q : Option oV → (Nat → oC) → Prop} : oE d 184 60 [l0, l1, l2, l3, l4] (.inl y :: .inl x :: S) σ Q = if ¬ x = y then oE d 184 66 [l0, l1, l2, l3, l4] S σ Q else oE d 184 63 [l0, l1, l2, l3, l4] S σ Q := oCmpNe f_184_60 (by decide)
theorem f_184_63 : oFet 184 63 = some (.iinc 2 1, 3) := by decide +kernel
theorem s_184_63 {d : Nat} {l0 l1 l3 l4 : oV} {x : Int} {S : List oV} {σ : oSg} {Q : Option oV → (Nat → oC) → Prop} (c1 : oCat l1 = 1)  : oE d 184 63 [l0, l1, .inl x, l3, l4] S σ Q = oE d 184 66 [l0, l1, .inl (oAdd x (1)), l3, l4] S σ Q := pInc f_184_63 rfl (show (2 : Nat) < 5 by decide) (oC1n c1) (oC1n (v := .inl x) rfl) rfl
theorem f_184_66 : oFet 184 66 = some (.iinc 4 1, 3) := by decide +kernel
theorem s_184_66 {d : Nat} {l0 l1 l2 l3 : oV} {x : Int} {S : List oV} {σ : oSg} {Q : Option oV → (Nat → oC) → Prop} (c3 : oCat l3 = 1)  : oE d 184 66 [l0, l1, l2, l3, .inl x] S σ Q = oE d 184 69 [l0, l1, l2, l3, .inl (oAdd x (1))] S σ Q := pInc f_184_66 rfl (show (4 : Nat) < 5 by decide) (oC1n c3) (oC1n (v := .inl x) rfl) rfl
theorem f_184_69 : oFet 184 69 = some (.goto (-50), 3) := by decide +kernel
theorem s_184_69 {d : Nat} {l0 l1 l2 l3 l4 : oV} {S : List oV} {σ : oSg} {Q : Option oV → (Nat → oC) → Prop} : oE d 184 69 [l0, l1, l2, l3, l4] S σ Q = oE d 184 19 [l0, l1, l2, l3, l4] S σ Q := pGoto f_184_69 (by decide)
theorem f_184_72 : oFet 184 72 = some (.iinc 3 1, 3) := by decide +kernel
theorem s_184_72 {d : Nat} {l0 l1 l2 l4 : oV} {x : Int} {S : List oV} {σ : oSg} {Q : Option oV → (Nat → oC) → Prop} (c2 : oCat l2 = 1)  : oE d 184 72 [l0, l1, l2, .inl x, l4] S σ Q = oE d 184 75 [l0, l1, l2, .inl (oAdd x (1)), l4] S σ Q := pInc f_184_72 rfl (show (3 : Nat) < 5 by decide) (oC1n c2) (oC1n (v := .inl x) rfl) rfl
theorem f_184_75 : oFet 184 75 = some (.goto (-71), 3) := by decide +kernel
theorem s_184_75 {d : Nat} {l0 l1 l2 l3 l4 : oV} {S : List oV} {σ : oSg} {Q : Option oV → (Nat → oC) → Prop} : oE d 184 75 [l0, l1, l2, l3, l4] S σ Q = oE d 184 4 [l0, l1, l2, l3, l4] S σ Q := pGoto f_184_75 (by decide)
theorem f_184_78 : oFet 184 78 = some (.iload_n 2, 1) := by decide +kernel
theorem s_184_78 {d : Nat} {l0 l1 l3 l4 : oV} {x : Int} {S : List oV} {σ : oSg} {Q : Option oV → (Nat → oC) → Prop} : oE d 184 78 [l0, l1, .inl x, l3, l4] S σ Q = oE d 184 79 [l0, l1, .inl x, l3, l4] (.inl x :: S) σ Q := pLdN (k := 2) f_184_78 rfl rfl rfl
theorem f_184_79 : oFet 184 79 = some (.ireturn, 1) := by decide +kernel
theorem s_184_79 {d : Nat} {l0 l1 l2 l3 l4 : oV} {x : Int} {σ : oSg} {Q : Option oV → (Nat → oC) → Prop} : oE d 184 79 [l0, l1, l2, l3, l4] [.inl x] σ Q = Q (some (.inl x)) (oBld σ) := oIret f_184_79 rt_184
theorem ow_185 : (oMt 185).2.2.2.2.1 = 11 := by decide +kernel
theorem rt_185 : (oMt 185).2.2.2.1 = some .int := by decide +kernel
theorem nl_185 : (oMt 185).2.2.1 = 5 := by decide +kernel
theorem f_185_0 : oFet 185 0 = some (.aload_n 0, 1) := by decide +kernel
theorem s_185_0 {d : Nat} {l1 l2 l3 l4 : oV} {a : Nat} {S : List oV} {σ : oSg} {Q : Option oV → (Nat → oC) → Prop} : oE d 185 0 [.inr (.inr (.inl a)), l1, l2, l3, l4] S σ Q = oE d 185 1 [.inr (.inr (.inl a)), l1, l2, l3, l4] (.inr (.inr (.inl a)) :: S) σ Q := pLdN (k := 0) f_185_0 rfl rfl rfl
theorem f_185_1 : oFet 185 1 = some (.getfield 11, 3) := by decide +kernel
theorem s_185_1 {d : Nat} {l0 l1 l2 l3 l4 : oV} {a : Nat} {S : List oV} {σ : oSg} {Q : Option oV → (Nat → oC) → Prop} (hk : oKd a = some 11) : oE d 185 1 [l0, l1, l2, l3, l4] (.inr (.inr (.inl a)) :: S) σ Q = oE d 185 4 [l0, l1, l2, l3, l4] (.inr (.inr (.inl (oRf a 0))) :: S) σ Q := pGfR f_185_1 ow_185 fl_11_11 rfl (by decide) hk
theorem f_185_4 : oFet 185 4 = some (.bipush 57, 2) := by decide +kernel
theorem s_185_4 {d : Nat} {l0 l1 l2 l3 l4 : oV} {S : List oV} {σ : oSg} {Q : Option oV → (Nat → oC) → Prop} : oE d 185 4 [l0, l1, l2, l3, l4] S σ Q = oE d 185 6 [l0, l1, l2, l3, l4] (.inl (57) :: S) σ Q := pBip f_185_4 (by decide)
theorem f_185_6 : oFet 185 6 = some (.iload_n 1, 1) := by decide +kernel
theorem s_185_6 {d : Nat} {l0 l2 l3 l4 : oV} {x : Int} {S : List oV} {σ : oSg} {Q : Option oV → (Nat → oC) → Prop} : oE d 185 6 [l0, .inl x, l2, l3, l4] S σ Q = oE d 185 7 [l0, .inl x, l2, l3, l4] (.inl x :: S) σ Q := pLdN (k := 1) f_185_6 rfl rfl rfl
theorem f_185_7 : oFet 185 7 = some (.iadd, 1) := by decide +kernel
theorem s_185_7 {d : Nat} {l0 l1 l2 l3 l4 : oV} {x y : Int} {S : List oV} {σ : oSg} {Q : Option oV → (Nat → oC) → Prop} : oE d 185 7 [l0, l1, l2, l3, l4] (.inl y :: .inl x :: S) σ Q = oE d 185 8 [l0, l1, l2, l3, l4] (.inl (oAdd x y) :: S) σ Q := oS3 f_185_7 rfl rfl rfl
theorem f_185_8 : oFet 185 8 = some (.iaload, 1) := by decide +kernel
theorem s_185_8 {d : Nat} {l0 l1 l2 l3 l4 : oV} {a : Nat} {i : Int} {S : List oV} {σ : oSg} {Q : Option oV → (Nat → oC) → Prop} (hk : oAk a = some 0) (h0 : 0 ≤ i) (h1 : i < (oLn a : Int)) : oE d 185 8 [l0, l1, l2, l3, l4] (.inl i :: .inr (.inr (.inl a)) :: S) σ Q = oE d 185 9 [l0, l1, l2, l3, l4] (.inl (σ.2 a i.toNat) :: S) σ Q := oIal f_185_8 hk h0 h1
theorem f_185_9 : oFet 185 9 = some (.aload_n 0, 1) := by decide +kernel
theorem s_185_9 {d : Nat} {l1 l2 l3 l4 : oV} {a : Nat} {S : List oV} {σ : oSg} {Q : Option oV → (Nat → oC) → Prop} : oE d 185 9 [.inr (.inr (.inl a)), l1, l2, l3, l4] S σ Q = oE d 185 10 [.inr (.inr (.inl a)), l1, l2, l3, l4] (.inr (.inr (.inl a)) :: S) σ Q := pLdN (k := 0) f_185_9 rfl rfl rfl
theorem f_185_10 : oFet 185 10 = some (.getfield 11, 3) := by decide +kernel
theorem s_185_10 {d : Nat} {l0 l1 l2 l3 l4 : oV} {a : Nat} {S : List oV} {σ : oSg} {Q : Option oV → (Nat → oC) → Prop} (hk : oKd a = some 11) : oE d 185 10 [l0, l1, l2, l3, l4] (.inr (.inr (.inl a)) :: S) σ Q = oE d 185 13 [l0, l1, l2, l3, l4] (.inr (.inr (.inl (oRf a 0))) :: S) σ Q := pGfR f_185_10 ow_185 fl_11_11 rfl (by decide) hk
theorem f_185_13 : oFet 185 13 = some (.bipush 57, 2) := by decide +kernel
theorem s_185_13 {d : Nat} {l0 l1 l2 l3 l4 : oV} {S : List oV} {σ : oSg} {Q : Option oV → (Nat → oC) → Prop} : oE d 185 13 [l0, l1, l2, l3, l4] S σ Q = oE d 185 15 [l0, l1, l2, l3, l4] (.inl (57) :: S) σ Q := pBip f_185_13 (by decide)
theorem f_185_15 : oFet 185 15 = some (.iload_n 2, 1) := by decide +kernel
theorem s_185_15 {d : Nat} {l0 l1 l3 l4 : oV} {x : Int} {S : List oV} {σ : oSg} {Q : Option oV → (Nat → oC) → Prop} : oE d 185 15 [l0, l1, .inl x, l3, l4] S σ Q = oE d 185 16 [l0, l1, .inl x, l3, l4] (.inl x :: S) σ Q := pLdN (k := 2) f_185_15 rfl rfl rfl
theorem f_185_16 : oFet 185 16 = some (.iadd, 1) := by decide +kernel
theorem s_185_16 {d : Nat} {l0 l1 l2 l3 l4 : oV} {x y : Int} {S : List oV} {σ : oSg} {Q : Option oV → (Nat → oC) → Prop} : oE d 185 16 [l0, l1, l2, l3, l4] (.inl y :: .inl x :: S) σ Q = oE d 185 17 [l0, l1, l2, l3, l4] (.inl (oAdd x y) :: S) σ Q := oS3 f_185_16 rfl rfl rfl
theorem f_185_17 : oFet 185 17 = some (.iaload, 1) := by decide +kernel
theorem s_185_17 {d : Nat} {l0 l1 l2 l3 l4 : oV} {a : Nat} {i : Int} {S : List oV} {σ : oSg} {Q : Option oV → (Nat → oC) → Prop} (hk : oAk a = some 0) (h0 : 0 ≤ i) (h1 : i < (oLn a : Int)) : oE d 185 17 [l0, l1, l2, l3, l4] (.inl i :: .inr (.inr (.inl a)) :: S) σ Q = oE d 185 18 [l0, l1, l2, l3, l4] (.inl (σ.2 a i.toNat) :: S) σ Q := oIal f_185_17 hk h0 h1
theorem f_185_18 : oFet 185 18 = some (.iadd, 1) := by decide +kernel
theorem s_185_18 {d : Nat} {l0 l1 l2 l3 l4 : oV} {x y : Int} {S : List oV} {σ : oSg} {Q : Option oV → (Nat → oC) → Prop} : oE d 185 18 [l0, l1, l2, l3, l4] (.inl y :: .inl x :: S) σ Q = oE d 185 19 [l0, l1, l2, l3, l4] (.inl (oAdd x y) :: S) σ Q := oS3 f_185_18 rfl rfl rfl
theorem f_185_19 : oFet 185 19 = some (.istore_n 3, 1) := by decide +kernel
theorem s_185_19 {d : Nat} {l0 l1 l2 l3 l4 : oV} {x : Int} {S : List oV} {σ : oSg} {Q : Option oV → (Nat → oC) → Prop} (c3 : oCat l3 = 1) (c2 : oCat l2 = 1)  : oE d 185 19 [l0, l1, l2, l3, l4] (.inl x :: S) σ Q = oE d 185 20 [l0, l1, l2, .inl x, l4] S σ Q := pSt (i := 3) f_185_19 rfl rfl (show (3 : Nat) < 5 by decide) (oC1n c2) (oC1n c3) rfl
theorem f_185_20 : oFet 185 20 = some (.iconst 0, 1) := by decide +kernel
theorem s_185_20 {d : Nat} {l0 l1 l2 l3 l4 : oV} {S : List oV} {σ : oSg} {Q : Option oV → (Nat → oC) → Prop} : oE d 185 20 [l0, l1, l2, l3, l4] S σ Q = oE d 185 21 [l0, l1, l2, l3, l4] (.inl (0) :: S) σ Q := pKst f_185_20 (by decide)
theorem f_185_21 : oFet 185 21 = some (.istore 4, 2) := by decide +kernel
theorem s_185_21 {d : Nat} {l0 l1 l2 l3 l4 : oV} {x : Int} {S : List oV} {σ : oSg} {Q : Option oV → (Nat → oC) → Prop} (c4 : oCat l4 = 1) (c3 : oCat l3 = 1)  : oE d 185 21 [l0, l1, l2, l3, l4] (.inl x :: S) σ Q = oE d 185 23 [l0, l1, l2, l3, .inl x] S σ Q := pSt (i := 4) f_185_21 rfl rfl (show (4 : Nat) < 5 by decide) (oC1n c3) (oC1n c4) rfl
theorem f_185_23 : oFet 185 23 = some (.iload 4, 2) := by decide +kernel
theorem s_185_23 {d : Nat} {l0 l1 l2 l3 : oV} {x : Int} {S : List oV} {σ : oSg} {Q : Option oV → (Nat → oC) → Prop} : oE d 185 23 [l0, l1, l2, l3, .inl x] S σ Q = oE d 185 25 [l0, l1, l2, l3, .inl x] (.inl x :: S) σ Q := pLd (i := 4) f_185_23 rfl rfl rfl
theorem f_185_25 : oFet 185 25 = some (.aload_n 0, 1) := by decide +kernel
theorem s_185_25 {d : Nat} {l1 l2 l3 l4 : oV} {a : Nat} {S : List oV} {σ : oSg} {Q : Option oV → (Nat → oC) → Prop} : oE d 185 25 [.inr (.inr (.inl a)), l1, l2, l3, l4] S σ Q = oE d 185 26 [.inr (.inr (.inl a)), l1, l2, l3, l4] (.inr (.inr (.inl a)) :: S) σ Q := pLdN (k := 0) f_185_25 rfl rfl rfl
theorem f_185_26 : oFet 185 26 = some (.getfield 11, 3) := by decide +kernel
theorem s_185_26 {d : Nat} {l0 l1 l2 l3 l4 : oV} {a : Nat} {S : List oV} {σ : oSg} {Q : Option oV → (Nat → oC) → Prop} (hk : oKd a = some 11) : oE d 185 26 [l0, l1, l2, l3, l4] (.inr (.inr (.inl a)) :: S) σ Q = oE d 185 29 [l0, l1, l2, l3, l4] (.inr (.inr (.inl (oRf a 0))) :: S) σ Q := pGfR f_185_26 ow_185 fl_11_11 rfl (by decide) hk
theorem f_185_29 : oFet 185 29 = some (.bipush 64, 2) := by decide +kernel
theorem s_185_29 {d : Nat} {l0 l1 l2 l3 l4 : oV} {S : List oV} {σ : oSg} {Q : Option oV → (Nat → oC) → Prop} : oE d 185 29 [l0, l1, l2, l3, l4] S σ Q = oE d 185 31 [l0, l1, l2, l3, l4] (.inl (64) :: S) σ Q := pBip f_185_29 (by decide)
theorem f_185_31 : oFet 185 31 = some (.iaload, 1) := by decide +kernel
theorem s_185_31 {d : Nat} {l0 l1 l2 l3 l4 : oV} {a : Nat} {i : Int} {S : List oV} {σ : oSg} {Q : Option oV → (Nat → oC) → Prop} (hk : oAk a = some 0) (h0 : 0 ≤ i) (h1 : i < (oLn a : Int)) : oE d 185 31 [l0, l1, l2, l3, l4] (.inl i :: .inr (.inr (.inl a)) :: S) σ Q = oE d 185 32 [l0, l1, l2, l3, l4] (.inl (σ.2 a i.toNat) :: S) σ Q := oIal f_185_31 hk h0 h1
theorem f_185_32 : oFet 185 32 = some (.if_icmp .ge 58, 3) := by decide +kernel
theorem s_185_32 {d : Nat} {l0 l1 l2 l3 l4 : oV} {x y : Int} {S : List oV} {σ : oSg} {Q : Option oV → (Nat → oC) → Prop} : oE d 185 32 [l0, l1, l2, l3, l4] (.inl y :: .inl x :: S) σ Q = if y ≤ x then oE d 185 90 [l0, l1, l2, l3, l4] S σ Q else oE d 185 35 [l0, l1, l2, l3, l4] S σ Q := oCmpGe f_185_32 (by decide)
theorem f_185_35 : oFet 185 35 = some (.aload_n 0, 1) := by decide +kernel
theorem s_185_35 {d : Nat} {l1 l2 l3 l4 : oV} {a : Nat} {S : List oV} {σ : oSg} {Q : Option oV → (Nat → oC) → Prop} : oE d 185 35 [.inr (.inr (.inl a)), l1, l2, l3, l4] S σ Q = oE d 185 36 [.inr (.inr (.inl a)), l1, l2, l3, l4] (.inr (.inr (.inl a)) :: S) σ Q := pLdN (k := 0) f_185_35 rfl rfl rfl
theorem f_185_36 : oFet 185 36 = some (.getfield 11, 3) := by decide +kernel
theorem s_185_36 {d : Nat} {l0 l1 l2 l3 l4 : oV} {a : Nat} {S : List oV} {σ : oSg} {Q : Option oV → (Nat → oC) → Prop} (hk : oKd a = some 11) : oE d 185 36 [l0, l1, l2, l3, l4] (.inr (.inr (.inl a)) :: S) σ Q = oE d 185 39 [l0, l1, l2, l3, l4] (.inr (.inr (.inl (oRf a 0))) :: S) σ Q := pGfR f_185_36 ow_185 fl_11_11 rfl (by decide) hk
theorem f_185_39 : oFet 185 39 = some (.bipush 65, 2) := by decide +kernel
theorem s_185_39 {d : Nat} {l0 l1 l2 l3 l4 : oV} {S : List oV} {σ : oSg} {Q : Option oV → (Nat → oC) → Prop} : oE d 185 39 [l0, l1, l2, l3, l4] S σ Q = oE d 185 41 [l0, l1, l2, l3, l4] (.inl (65) :: S) σ Q := pBip f_185_39 (by decide)
theorem f_185_41 : oFet 185 41 = some (.iload 4, 2) := by decide +kernel
theorem s_185_41 {d : Nat} {l0 l1 l2 l3 : oV} {x : Int} {S : List oV} {σ : oSg} {Q : Option oV → (Nat → oC) → Prop} : oE d 185 41 [l0, l1, l2, l3, .inl x] S σ Q = oE d 185 43 [l0, l1, l2, l3, .inl x] (.inl x :: S) σ Q := pLd (i := 4) f_185_41 rfl rfl rfl
theorem f_185_43 : oFet 185 43 = some (.iadd, 1) := by decide +kernel
theorem s_185_43 {d : Nat} {l0 l1 l2 l3 l4 : oV} {x y : Int} {S : List oV} {σ : oSg} {Q : Option oV → (Nat → oC) → Prop} : oE d 185 43 [l0, l1, l2, l3, l4] (.inl y :: .inl x :: S) σ Q = oE d 185 44 [l0, l1, l2, l3, l4] (.inl (oAdd x y) :: S) σ Q := oS3 f_185_43 rfl rfl rfl
theorem f_185_44 : oFet 185 44 = some (.iaload, 1) := by decide +kernel
theorem s_185_44 {d : Nat} {l0 l1 l2 l3 l4 : oV} {a : Nat} {i : Int} {S : List oV} {σ : oSg} {Q : Option oV → (Nat → oC) → Prop} (hk : oAk a = some 0) (h0 : 0 ≤ i) (h1 : i < (oLn a : Int)) : oE d 185 44 [l0, l1, l2, l3, l4] (.inl i :: .inr (.inr (.inl a)) :: S) σ Q = oE d 185 45 [l0, l1, l2, l3, l4] (.inl (σ.2 a i.toNat) :: S) σ Q := oIal f_185_44 hk h0 h1
theorem f_185_45 : oFet 185 45 = some (.iload_n 1, 1) := by decide +kernel
theorem s_185_45 {d : Nat} {l0 l2 l3 l4 : oV} {x : Int} {S : List oV} {σ : oSg} {Q : Option oV → (Nat → oC) → Prop} : oE d 185 45 [l0, .inl x, l2, l3, l4] S σ Q = oE d 185 46 [l0, .inl x, l2, l3, l4] (.inl x :: S) σ Q := pLdN (k := 1) f_185_45 rfl rfl rfl
theorem f_185_46 : oFet 185 46 = some (.ishr, 1) := by decide +kernel
theorem s_185_46 {d : Nat} {l0 l1 l2 l3 l4 : oV} {x y : Int} {S : List oV} {σ : oSg} {Q : Option oV → (Nat → oC) → Prop} : oE d 185 46 [l0, l1, l2, l3, l4] (.inl y :: .inl x :: S) σ Q = oE d 185 47 [l0, l1, l2, l3, l4] (.inl (oShr x y) :: S) σ Q := oS3 f_185_46 rfl rfl rfl
theorem f_185_47 : oFet 185 47 = some (.iconst 1, 1) := by decide +kernel
theorem s_185_47 {d : Nat} {l0 l1 l2 l3 l4 : oV} {S : List oV} {σ : oSg} {Q : Option oV → (Nat → oC) → Prop} : oE d 185 47 [l0, l1, l2, l3, l4] S σ Q = oE d 185 48 [l0, l1, l2, l3, l4] (.inl (1) :: S) σ Q := pKst f_185_47 (by decide)
theorem f_185_48 : oFet 185 48 = some (.iand, 1) := by decide +kernel
theorem s_185_48 {d : Nat} {l0 l1 l2 l3 l4 : oV} {x y : Int} {S : List oV} {σ : oSg} {Q : Option oV → (Nat → oC) → Prop} : oE d 185 48 [l0, l1, l2, l3, l4] (.inl y :: .inl x :: S) σ Q = oE d 185 49 [l0, l1, l2, l3, l4] (.inl (oAnd x y) :: S) σ Q := oS3 f_185_48 rfl rfl rfl
theorem f_185_49 : oFet 185 49 = some (.iconst 1, 1) := by decide +kernel
theorem s_185_49 {d : Nat} {l0 l1 l2 l3 l4 : oV} {S : List oV} {σ : oSg} {Q : Option oV → (Nat → oC) → Prop} : oE d 185 49 [l0, l1, l2, l3, l4] S σ Q = oE d 185 50 [l0, l1, l2, l3, l4] (.inl (1) :: S) σ Q := pKst f_185_49 (by decide)
theorem f_185_50 : oFet 185 50 = some (.if_icmp .ne 34, 3) := by decide +kernel
theorem s_185_50 {d : Nat} {l0 l1 l2 l3 l4 : oV} {x y : Int} {S : List oV} {σ : oSg} {Q : Option oV → (Nat → oC) → Prop} : oE d 185 50 [l0, l1, l2, l3, l4] (.inl y :: .inl x :: S) σ Q = if ¬ x = y then oE d 185 84 [l0, l1, l2, l3, l4] S σ Q else oE d 185 53 [l0, l1, l2, l3, l4] S σ Q := oCmpNe f_185_50 (by decide)
theorem f_185_53 : oFet 185 53 = some (.aload_n 0, 1) := by decide +kernel
theorem s_185_53 {d : Nat} {l1 l2 l3 l4 : oV} {a : Nat} {S : List oV} {σ : oSg} {Q : Option oV → (Nat → oC) → Prop} : oE d 185 53 [.inr (.inr (.inl a)), l1, l2, l3, l4] S σ Q = oE d 185 54 [.inr (.inr (.inl a)), l1, l2, l3, l4] (.inr (.inr (.inl a)) :: S) σ Q := pLdN (k := 0) f_185_53 rfl rfl rfl
theorem f_185_54 : oFet 185 54 = some (.getfield 11, 3) := by decide +kernel
theorem s_185_54 {d : Nat} {l0 l1 l2 l3 l4 : oV} {a : Nat} {S : List oV} {σ : oSg} {Q : Option oV → (Nat → oC) → Prop} (hk : oKd a = some 11) : oE d 185 54 [l0, l1, l2, l3, l4] (.inr (.inr (.inl a)) :: S) σ Q = oE d 185 57 [l0, l1, l2, l3, l4] (.inr (.inr (.inl (oRf a 0))) :: S) σ Q := pGfR f_185_54 ow_185 fl_11_11 rfl (by decide) hk
theorem f_185_57 : oFet 185 57 = some (.bipush 65, 2) := by decide +kernel
theorem s_185_57 {d : Nat} {l0 l1 l2 l3 l4 : oV} {S : List oV} {σ : oSg} {Q : Option oV → (Nat → oC) → Prop} : oE d 185 57 [l0, l1, l2, l3, l4] S σ Q = oE d 185 59 [l0, l1, l2, l3, l4] (.inl (65) :: S) σ Q := pBip f_185_57 (by decide)
theorem f_185_59 : oFet 185 59 = some (.iload 4, 2) := by decide +kernel
theorem s_185_59 {d : Nat} {l0 l1 l2 l3 : oV} {x : Int} {S : List oV} {σ : oSg} {Q : Option oV → (Nat → oC) → Prop} : oE d 185 59 [l0, l1, l2, l3, .inl x] S σ Q = oE d 185 61 [l0, l1, l2, l3, .inl x] (.inl x :: S) σ Q := pLd (i := 4) f_185_59 rfl rfl rfl
theorem f_185_61 : oFet 185 61 = some (.iadd, 1) := by decide +kernel
theorem s_185_61 {d : Nat} {l0 l1 l2 l3 l4 : oV} {x y : Int} {S : List oV} {σ : oSg} {Q : Option oV → (Nat → oC) → Prop} : oE d 185 61 [l0, l1, l2, l3, l4] (.inl y :: .inl x :: S) σ Q = oE d 185 62 [l0, l1, l2, l3, l4] (.inl (oAdd x y) :: S) σ Q := oS3 f_185_61 rfl rfl rfl
theorem f_185_62 : oFet 185 62 = some (.iaload, 1) := by decide +kernel
theorem s_185_62 {d : Nat} {l0 l1 l2 l3 l4 : oV} {a : Nat} {i : Int} {S : List oV} {σ : oSg} {Q : Option oV → (Nat → oC) → Prop} (hk : oAk a = some 0) (h0 : 0 ≤ i) (h1 : i < (oLn a : Int)) : oE d 185 62 [l0, l1, l2, l3, l4] (.inl i :: .inr (.inr (.inl a)) :: S) σ Q = oE d 185 63 [l0, l1, l2, l3, l4] (.inl (σ.2 a i.toNat) :: S) σ Q := oIal f_185_62 hk h0 h1
theorem f_185_63 : oFet 185 63 = some (.iload_n 2, 1) := by decide +kernel
theorem s_185_63 {d : Nat} {l0 l1 l3 l4 : oV} {x : Int} {S : List oV} {σ : oSg} {Q : Option oV → (Nat → oC) → Prop} : oE d 185 63 [l0, l1, .inl x, l3, l4] S σ Q = oE d 185 64 [l0, l1, .inl x, l3, l4] (.inl x :: S) σ Q := pLdN (k := 2) f_185_63 rfl rfl rfl
theorem f_185_64 : oFet 185 64 = some (.ishr, 1) := by decide +kernel
theorem s_185_64 {d : Nat} {l0 l1 l2 l3 l4 : oV} {x y : Int} {S : List oV} {σ : oSg} {Q : Option oV → (Nat → oC) → Prop} : oE d 185 64 [l0, l1, l2, l3, l4] (.inl y :: .inl x :: S) σ Q = oE d 185 65 [l0, l1, l2, l3, l4] (.inl (oShr x y) :: S) σ Q := oS3 f_185_64 rfl rfl rfl
theorem f_185_65 : oFet 185 65 = some (.iconst 1, 1) := by decide +kernel
theorem s_185_65 {d : Nat} {l0 l1 l2 l3 l4 : oV} {S : List oV} {σ : oSg} {Q : Option oV → (Nat → oC) → Prop} : oE d 185 65 [l0, l1, l2, l3, l4] S σ Q = oE d 185 66 [l0, l1, l2, l3, l4] (.inl (1) :: S) σ Q := pKst f_185_65 (by decide)
theorem f_185_66 : oFet 185 66 = some (.iand, 1) := by decide +kernel
theorem s_185_66 {d : Nat} {l0 l1 l2 l3 l4 : oV} {x y : Int} {S : List oV} {σ : oSg} {Q : Option oV → (Nat → oC) → Prop} : oE d 185 66 [l0, l1, l2, l3, l4] (.inl y :: .inl x :: S) σ Q = oE d 185 67 [l0, l1, l2, l3, l4] (.inl (oAnd x y) :: S) σ Q := oS3 f_185_66 rfl rfl rfl
theorem f_185_67 : oFet 185 67 = some (.iconst 1, 1) := by decide +kernel
theorem s_185_67 {d : Nat} {l0 l1 l2 l3 l4 : oV} {S : List oV} {σ : oSg} {Q : Option oV → (Nat → oC) → Prop} : oE d 185 67 [l0, l1, l2, l3, l4] S σ Q = oE d 185 68 [l0, l1, l2, l3, l4] (.inl (1) :: S) σ Q := pKst f_185_67 (by decide)
theorem f_185_68 : oFet 185 68 = some (.if_icmp .ne 16, 3) := by decide +kernel
theorem s_185_68 {d : Nat} {l0 l1 l2 l3 l4 : oV} {x y : Int} {S : List oV} {σ : oSg} {Q : Option oV → (Nat → oC) → Prop} : oE d 185 68 [l0, l1, l2, l3, l4] (.inl y :: .inl x :: S) σ Q = if ¬ x = y then oE d 185 84 [l0, l1, l2, l3, l4] S σ Q else oE d 185 71 [l0, l1, l2, l3, l4] S σ Q := oCmpNe f_185_68 (by decide)
theorem f_185_71 : oFet 185 71 = some (.iload_n 3, 1) := by decide +kernel
theorem s_185_71 {d : Nat} {l0 l1 l2 l4 : oV} {x : Int} {S : List oV} {σ : oSg} {Q : Option oV → (Nat → oC) → Prop} : oE d 185 71 [l0, l1, l2, .inl x, l4] S σ Q = oE d 185 72 [l0, l1, l2, .inl x, l4] (.inl x :: S) σ Q := pLdN (k := 3) f_185_71 rfl rfl rfl
theorem f_185_72 : oFet 185 72 = some (.aload_n 0, 1) := by decide +kernel
theorem s_185_72 {d : Nat} {l1 l2 l3 l4 : oV} {a : Nat} {S : List oV} {σ : oSg} {Q : Option oV → (Nat → oC) → Prop} : oE d 185 72 [.inr (.inr (.inl a)), l1, l2, l3, l4] S σ Q = oE d 185 73 [.inr (.inr (.inl a)), l1, l2, l3, l4] (.inr (.inr (.inl a)) :: S) σ Q := pLdN (k := 0) f_185_72 rfl rfl rfl
theorem f_185_73 : oFet 185 73 = some (.getfield 11, 3) := by decide +kernel
theorem s_185_73 {d : Nat} {l0 l1 l2 l3 l4 : oV} {a : Nat} {S : List oV} {σ : oSg} {Q : Option oV → (Nat → oC) → Prop} (hk : oKd a = some 11) : oE d 185 73 [l0, l1, l2, l3, l4] (.inr (.inr (.inl a)) :: S) σ Q = oE d 185 76 [l0, l1, l2, l3, l4] (.inr (.inr (.inl (oRf a 0))) :: S) σ Q := pGfR f_185_73 ow_185 fl_11_11 rfl (by decide) hk
theorem f_185_76 : oFet 185 76 = some (.bipush 68, 2) := by decide +kernel
theorem s_185_76 {d : Nat} {l0 l1 l2 l3 l4 : oV} {S : List oV} {σ : oSg} {Q : Option oV → (Nat → oC) → Prop} : oE d 185 76 [l0, l1, l2, l3, l4] S σ Q = oE d 185 78 [l0, l1, l2, l3, l4] (.inl (68) :: S) σ Q := pBip f_185_76 (by decide)
theorem f_185_78 : oFet 185 78 = some (.iload 4, 2) := by decide +kernel
theorem s_185_78 {d : Nat} {l0 l1 l2 l3 : oV} {x : Int} {S : List oV} {σ : oSg} {Q : Option oV → (Nat → oC) → Prop} : oE d 185 78 [l0, l1, l2, l3, .inl x] S σ Q = oE d 185 80 [l0, l1, l2, l3, .inl x] (.inl x :: S) σ Q := pLd (i := 4) f_185_78 rfl rfl rfl
theorem f_185_80 : oFet 185 80 = some (.iadd, 1) := by decide +kernel
theorem s_185_80 {d : Nat} {l0 l1 l2 l3 l4 : oV} {x y : Int} {S : List oV} {σ : oSg} {Q : Option oV → (Nat → oC) → Prop} : oE d 185 80 [l0, l1, l2, l3, l4] (.inl y :: .inl x :: S) σ Q = oE d 185 81 [l0, l1, l2, l3, l4] (.inl (oAdd x y) :: S) σ Q := oS3 f_185_80 rfl rfl rfl
theorem f_185_81 : oFet 185 81 = some (.iaload, 1) := by decide +kernel
theorem s_185_81 {d : Nat} {l0 l1 l2 l3 l4 : oV} {a : Nat} {i : Int} {S : List oV} {σ : oSg} {Q : Option oV → (Nat → oC) → Prop} (hk : oAk a = some 0) (h0 : 0 ≤ i) (h1 : i < (oLn a : Int)) : oE d 185 81 [l0, l1, l2, l3, l4] (.inl i :: .inr (.inr (.inl a)) :: S) σ Q = oE d 185 82 [l0, l1, l2, l3, l4] (.inl (σ.2 a i.toNat) :: S) σ Q := oIal f_185_81 hk h0 h1
theorem f_185_82 : oFet 185 82 = some (.iadd, 1) := by decide +kernel
theorem s_185_82 {d : Nat} {l0 l1 l2 l3 l4 : oV} {x y : Int} {S : List oV} {σ : oSg} {Q : Option oV → (Nat → oC) → Prop} : oE d 185 82 [l0, l1, l2, l3, l4] (.inl y :: .inl x :: S) σ Q = oE d 185 83 [l0, l1, l2, l3, l4] (.inl (oAdd x y) :: S) σ Q := oS3 f_185_82 rfl rfl rfl
theorem f_185_83 : oFet 185 83 = some (.istore_n 3, 1) := by decide +kernel
theorem s_185_83 {d : Nat} {l0 l1 l2 l3 l4 : oV} {x : Int} {S : List oV} {σ : oSg} {Q : Option oV → (Nat → oC) → Prop} (c3 : oCat l3 = 1) (c2 : oCat l2 = 1)  : oE d 185 83 [l0, l1, l2, l3, l4] (.inl x :: S) σ Q = oE d 185 84 [l0, l1, l2, .inl x, l4] S σ Q := pSt (i := 3) f_185_83 rfl rfl (show (3 : Nat) < 5 by decide) (oC1n c2) (oC1n c3) rfl
theorem f_185_84 : oFet 185 84 = some (.iinc 4 1, 3) := by decide +kernel
theorem s_185_84 {d : Nat} {l0 l1 l2 l3 : oV} {x : Int} {S : List oV} {σ : oSg} {Q : Option oV → (Nat → oC) → Prop} (c3 : oCat l3 = 1)  : oE d 185 84 [l0, l1, l2, l3, .inl x] S σ Q = oE d 185 87 [l0, l1, l2, l3, .inl (oAdd x (1))] S σ Q := pInc f_185_84 rfl (show (4 : Nat) < 5 by decide) (oC1n c3) (oC1n (v := .inl x) rfl) rfl
theorem f_185_87 : oFet 185 87 = some (.goto (-64), 3) := by decide +kernel
theorem s_185_87 {d : Nat} {l0 l1 l2 l3 l4 : oV} {S : List oV} {σ : oSg} {Q : Option oV → (Nat → oC) → Prop} : oE d 185 87 [l0, l1, l2, l3, l4] S σ Q = oE d 185 23 [l0, l1, l2, l3, l4] S σ Q := pGoto f_185_87 (by decide)
theorem f_185_90 : oFet 185 90 = some (.iload_n 3, 1) := by decide +kernel
theorem s_185_90 {d : Nat} {l0 l1 l2 l4 : oV} {x : Int} {S : List oV} {σ : oSg} {Q : Option oV → (Nat → oC) → Prop} : oE d 185 90 [l0, l1, l2, .inl x, l4] S σ Q = oE d 185 91 [l0, l1, l2, .inl x, l4] (.inl x :: S) σ Q := pLdN (k := 3) f_185_90 rfl rfl rfl
theorem f_185_91 : oFet 185 91 = some (.ireturn, 1) := by decide +kernel
theorem s_185_91 {d : Nat} {l0 l1 l2 l3 l4 : oV} {x : Int} {σ : oSg} {Q : Option oV → (Nat → oC) → Prop} : oE d 185 91 [l0, l1, l2, l3, l4] [.inl x] σ Q = Q (some (.inl x)) (oBld σ) := oIret f_185_91 rt_185
theorem ow_186 : (oMt 186).2.2.2.2.1 = 11 := by decide +kernel
theorem rt_186 : (oMt 186).2.2.2.1 = some .int := by decide +kernel
theorem nl_186 : (oMt 186).2.2.1 = 3 := by decide +kernel
theorem f_186_0 : oFet 186 0 = some (.iconst 0, 1) := by decide +kernel
theorem s_186_0 {d : Nat} {l0 l1 l2 : oV} {S : List oV} {σ : oSg} {Q : Option oV → (Nat → oC) → Prop} : oE d 186 0 [l0, l1, l2] S σ Q = oE d 186 1 [l0, l1, l2] (.inl (0) :: S) σ Q := pKst f_186_0 (by decide)
theorem f_186_1 : oFet 186 1 = some (.istore_n 1, 1) := by decide +kernel
theorem s_186_1 {d : Nat} {l0 l1 l2 : oV} {x : Int} {S : List oV} {σ : oSg} {Q : Option oV → (Nat → oC) → Prop} (c1 : oCat l1 = 1) (c0 : oCat l0 = 1)  : oE d 186 1 [l0, l1, l2] (.inl x :: S) σ Q = oE d 186 2 [l0, .inl x, l2] S σ Q := pSt (i := 1) f_186_1 rfl rfl (show (1 : Nat) < 3 by decide) (oC1n c0) (oC1n c1) rfl
theorem f_186_2 : oFet 186 2 = some (.iconst 0, 1) := by decide +kernel
theorem s_186_2 {d : Nat} {l0 l1 l2 : oV} {S : List oV} {σ : oSg} {Q : Option oV → (Nat → oC) → Prop} : oE d 186 2 [l0, l1, l2] S σ Q = oE d 186 3 [l0, l1, l2] (.inl (0) :: S) σ Q := pKst f_186_2 (by decide)
theorem f_186_3 : oFet 186 3 = some (.istore_n 2, 1) := by decide +kernel
theorem s_186_3 {d : Nat} {l0 l1 l2 : oV} {x : Int} {S : List oV} {σ : oSg} {Q : Option oV → (Nat → oC) → Prop} (c2 : oCat l2 = 1) (c1 : oCat l1 = 1)  : oE d 186 3 [l0, l1, l2] (.inl x :: S) σ Q = oE d 186 4 [l0, l1, .inl x] S σ Q := pSt (i := 2) f_186_3 rfl rfl (show (2 : Nat) < 3 by decide) (oC1n c1) (oC1n c2) rfl
theorem f_186_4 : oFet 186 4 = some (.iload_n 2, 1) := by decide +kernel
theorem s_186_4 {d : Nat} {l0 l1 : oV} {x : Int} {S : List oV} {σ : oSg} {Q : Option oV → (Nat → oC) → Prop} : oE d 186 4 [l0, l1, .inl x] S σ Q = oE d 186 5 [l0, l1, .inl x] (.inl x :: S) σ Q := pLdN (k := 2) f_186_4 rfl rfl rfl
theorem f_186_5 : oFet 186 5 = some (.aload_n 0, 1) := by decide +kernel
theorem s_186_5 {d : Nat} {l1 l2 : oV} {a : Nat} {S : List oV} {σ : oSg} {Q : Option oV → (Nat → oC) → Prop} : oE d 186 5 [.inr (.inr (.inl a)), l1, l2] S σ Q = oE d 186 6 [.inr (.inr (.inl a)), l1, l2] (.inr (.inr (.inl a)) :: S) σ Q := pLdN (k := 0) f_186_5 rfl rfl rfl
theorem f_186_6 : oFet 186 6 = some (.getfield 11, 3) := by decide +kernel
theorem s_186_6 {d : Nat} {l0 l1 l2 : oV} {a : Nat} {S : List oV} {σ : oSg} {Q : Option oV → (Nat → oC) → Prop} (hk : oKd a = some 11) : oE d 186 6 [l0, l1, l2] (.inr (.inr (.inl a)) :: S) σ Q = oE d 186 9 [l0, l1, l2] (.inr (.inr (.inl (oRf a 0))) :: S) σ Q := pGfR f_186_6 ow_186 fl_11_11 rfl (by decide) hk
theorem f_186_9 : oFet 186 9 = some (.iconst 0, 1) := by decide +kernel
theorem s_186_9 {d : Nat} {l0 l1 l2 : oV} {S : List oV} {σ : oSg} {Q : Option oV → (Nat → oC) → Prop} : oE d 186 9 [l0, l1, l2] S σ Q = oE d 186 10 [l0, l1, l2] (.inl (0) :: S) σ Q := pKst f_186_9 (by decide)
theorem f_186_10 : oFet 186 10 = some (.iaload, 1) := by decide +kernel
theorem s_186_10 {d : Nat} {l0 l1 l2 : oV} {a : Nat} {i : Int} {S : List oV} {σ : oSg} {Q : Option oV → (Nat → oC) → Prop} (hk : oAk a = some 0) (h0 : 0 ≤ i) (h1 : i < (oLn a : Int)) : oE d 186 10 [l0, l1, l2] (.inl i :: .inr (.inr (.inl a)) :: S) σ Q = oE d 186 11 [l0, l1, l2] (.inl (σ.2 a i.toNat) :: S) σ Q := oIal f_186_10 hk h0 h1
theorem f_186_11 : oFet 186 11 = some (.if_icmp .ge 31, 3) := by decide +kernel
theorem s_186_11 {d : Nat} {l0 l1 l2 : oV} {x y : Int} {S : List oV} {σ : oSg} {Q : Option oV → (Nat → oC) → Prop} : oE d 186 11 [l0, l1, l2] (.inl y :: .inl x :: S) σ Q = if y ≤ x then oE d 186 42 [l0, l1, l2] S σ Q else oE d 186 14 [l0, l1, l2] S σ Q := oCmpGe f_186_11 (by decide)
theorem f_186_14 : oFet 186 14 = some (.aload_n 0, 1) := by decide +kernel
theorem s_186_14 {d : Nat} {l1 l2 : oV} {a : Nat} {S : List oV} {σ : oSg} {Q : Option oV → (Nat → oC) → Prop} : oE d 186 14 [.inr (.inr (.inl a)), l1, l2] S σ Q = oE d 186 15 [.inr (.inr (.inl a)), l1, l2] (.inr (.inr (.inl a)) :: S) σ Q := pLdN (k := 0) f_186_14 rfl rfl rfl
theorem f_186_15 : oFet 186 15 = some (.iload_n 2, 1) := by decide +kernel
theorem s_186_15 {d : Nat} {l0 l1 : oV} {x : Int} {S : List oV} {σ : oSg} {Q : Option oV → (Nat → oC) → Prop} : oE d 186 15 [l0, l1, .inl x] S σ Q = oE d 186 16 [l0, l1, .inl x] (.inl x :: S) σ Q := pLdN (k := 2) f_186_15 rfl rfl rfl
theorem f_186_16 : oFet 186 16 = some (.invokevirtual 75, 3) := by decide +kernel
theorem c_186_16 {d : Nat} {l0 l1 l2 : oV} {x0 : oV} {a : Nat} {v : Option oV} {τ : oSg} {S : List oV} {σ : oSg} {Q : Option oV → (Nat → oC) → Prop} (hm : oMi d 149 [.inr (.inr (.inl a)), x0] σ v τ) (hk : oKd a = some 11) (hs : oSmall S = true) : oE d 186 16 [l0, l1, l2] (x0 :: .inr (.inr (.inl a)) :: S) σ Q = oE d 186 19 [l0, l1, l2] (v.toList ++ S) τ Q := pCallV f_186_16 ow_186 lk_11_75 mt_149 rfl rfl rfl hk hs hm
theorem f_186_19 : oFet 186 19 = some (.iload_n 2, 1) := by decide +kernel
theorem s_186_19 {d : Nat} {l0 l1 : oV} {x : Int} {S : List oV} {σ : oSg} {Q : Option oV → (Nat → oC) → Prop} : oE d 186 19 [l0, l1, .inl x] S σ Q = oE d 186 20 [l0, l1, .inl x] (.inl x :: S) σ Q := pLdN (k := 2) f_186_19 rfl rfl rfl
theorem f_186_20 : oFet 186 20 = some (.if_icmp .le 16, 3) := by decide +kernel
theorem s_186_20 {d : Nat} {l0 l1 l2 : oV} {x y : Int} {S : List oV} {σ : oSg} {Q : Option oV → (Nat → oC) → Prop} : oE d 186 20 [l0, l1, l2] (.inl y :: .inl x :: S) σ Q = if x ≤ y then oE d 186 36 [l0, l1, l2] S σ Q else oE d 186 23 [l0, l1, l2] S σ Q := oCmpLe f_186_20 (by decide)
theorem f_186_23 : oFet 186 23 = some (.iload_n 1, 1) := by decide +kernel
theorem s_186_23 {d : Nat} {l0 l2 : oV} {x : Int} {S : List oV} {σ : oSg} {Q : Option oV → (Nat → oC) → Prop} : oE d 186 23 [l0, .inl x, l2] S σ Q = oE d 186 24 [l0, .inl x, l2] (.inl x :: S) σ Q := pLdN (k := 1) f_186_23 rfl rfl rfl
theorem f_186_24 : oFet 186 24 = some (.aload_n 0, 1) := by decide +kernel
theorem s_186_24 {d : Nat} {l1 l2 : oV} {a : Nat} {S : List oV} {σ : oSg} {Q : Option oV → (Nat → oC) → Prop} : oE d 186 24 [.inr (.inr (.inl a)), l1, l2] S σ Q = oE d 186 25 [.inr (.inr (.inl a)), l1, l2] (.inr (.inr (.inl a)) :: S) σ Q := pLdN (k := 0) f_186_24 rfl rfl rfl
theorem f_186_25 : oFet 186 25 = some (.iload_n 2, 1) := by decide +kernel
theorem s_186_25 {d : Nat} {l0 l1 : oV} {x : Int} {S : List oV} {σ : oSg} {Q : Option oV → (Nat → oC) → Prop} : oE d 186 25 [l0, l1, .inl x] S σ Q = oE d 186 26 [l0, l1, .inl x] (.inl x :: S) σ Q := pLdN (k := 2) f_186_25 rfl rfl rfl
theorem f_186_26 : oFet 186 26 = some (.aload_n 0, 1) := by decide +kernel
theorem s_186_26 {d : Nat} {l1 l2 : oV} {a : Nat} {S : List oV} {σ : oSg} {Q : Option oV → (Nat → oC) → Prop} : oE d 186 26 [.inr (.inr (.inl a)), l1, l2] S σ Q = oE d 186 27 [.inr (.inr (.inl a)), l1, l2] (.inr (.inr (.inl a)) :: S) σ Q := pLdN (k := 0) f_186_26 rfl rfl rfl
theorem f_186_27 : oFet 186 27 = some (.iload_n 2, 1) := by decide +kernel
theorem s_186_27 {d : Nat} {l0 l1 : oV} {x : Int} {S : List oV} {σ : oSg} {Q : Option oV → (Nat → oC) → Prop} : oE d 186 27 [l0, l1, .inl x] S σ Q = oE d 186 28 [l0, l1, .inl x] (.inl x :: S) σ Q := pLdN (k := 2) f_186_27 rfl rfl rfl
theorem f_186_28 : oFet 186 28 = some (.invokevirtual 75, 3) := by decide +kernel
theorem c_186_28 {d : Nat} {l0 l1 l2 : oV} {x0 : oV} {a : Nat} {v : Option oV} {τ : oSg} {S : List oV} {σ : oSg} {Q : Option oV → (Nat → oC) → Prop} (hm : oMi d 149 [.inr (.inr (.inl a)), x0] σ v τ) (hk : oKd a = some 11) (hs : oSmall S = true) : oE d 186 28 [l0, l1, l2] (x0 :: .inr (.inr (.inl a)) :: S) σ Q = oE d 186 31 [l0, l1, l2] (v.toList ++ S) τ Q := pCallV f_186_28 ow_186 lk_11_75 mt_149 rfl rfl rfl hk hs hm
theorem f_186_31 : oFet 186 31 = some (.invokevirtual 65, 3) := by decide +kernel
theorem c_186_31 {d : Nat} {l0 l1 l2 : oV} {x0 x1 : oV} {a : Nat} {v : Option oV} {τ : oSg} {S : List oV} {σ : oSg} {Q : Option oV → (Nat → oC) → Prop} (hm : oMi d 147 [.inr (.inr (.inl a)), x0, x1] σ v τ) (hk : oKd a = some 11) (hs : oSmall S = true) : oE d 186 31 [l0, l1, l2] (x1 :: x0 :: .inr (.inr (.inl a)) :: S) σ Q = oE d 186 34 [l0, l1, l2] (v.toList ++ S) τ Q := pCallV f_186_31 ow_186 lk_11_65 mt_147 rfl rfl rfl hk hs hm
theorem f_186_34 : oFet 186 34 = some (.iadd, 1) := by decide +kernel
theorem s_186_34 {d : Nat} {l0 l1 l2 : oV} {x y : Int} {S : List oV} {σ : oSg} {Q : Option oV → (Nat → oC) → Prop} : oE d 186 34 [l0, l1, l2] (.inl y :: .inl x :: S) σ Q = oE d 186 35 [l0, l1, l2] (.inl (oAdd x y) :: S) σ Q := oS3 f_186_34 rfl rfl rfl
theorem f_186_35 : oFet 186 35 = some (.istore_n 1, 1) := by decide +kernel
theorem s_186_35 {d : Nat} {l0 l1 l2 : oV} {x : Int} {S : List oV} {σ : oSg} {Q : Option oV → (Nat → oC) → Prop} (c1 : oCat l1 = 1) (c0 : oCat l0 = 1)  : oE d 186 35 [l0, l1, l2] (.inl x :: S) σ Q = oE d 186 36 [l0, .inl x, l2] S σ Q := pSt (i := 1) f_186_35 rfl rfl (show (1 : Nat) < 3 by decide) (oC1n c0) (oC1n c1) rfl
theorem f_186_36 : oFet 186 36 = some (.iinc 2 1, 3) := by decide +kernel
theorem s_186_36 {d : Nat} {l0 l1 : oV} {x : Int} {S : List oV} {σ : oSg} {Q : Option oV → (Nat → oC) → Prop} (c1 : oCat l1 = 1)  : oE d 186 36 [l0, l1, .inl x] S σ Q = oE d 186 39 [l0, l1, .inl (oAdd x (1))] S σ Q := pInc f_186_36 rfl (show (2 : Nat) < 3 by decide) (oC1n c1) (oC1n (v := .inl x) rfl) rfl
theorem f_186_39 : oFet 186 39 = some (.goto (-35), 3) := by decide +kernel
theorem s_186_39 {d : Nat} {l0 l1 l2 : oV} {S : List oV} {σ : oSg} {Q : Option oV → (Nat → oC) → Prop} : oE d 186 39 [l0, l1, l2] S σ Q = oE d 186 4 [l0, l1, l2] S σ Q := pGoto f_186_39 (by decide)
theorem f_186_42 : oFet 186 42 = some (.iload_n 1, 1) := by decide +kernel
theorem s_186_42 {d : Nat} {l0 l2 : oV} {x : Int} {S : List oV} {σ : oSg} {Q : Option oV → (Nat → oC) → Prop} : oE d 186 42 [l0, .inl x, l2] S σ Q = oE d 186 43 [l0, .inl x, l2] (.inl x :: S) σ Q := pLdN (k := 1) f_186_42 rfl rfl rfl
theorem f_186_43 : oFet 186 43 = some (.ireturn, 1) := by decide +kernel
theorem s_186_43 {d : Nat} {l0 l1 l2 : oV} {x : Int} {σ : oSg} {Q : Option oV → (Nat → oC) → Prop} : oE d 186 43 [l0, l1, l2] [.inl x] σ Q = Q (some (.inl x)) (oBld σ) := oIret f_186_43 rt_186
theorem ow_187 : (oMt 187).2.2.2.2.1 = 11 := by decide +kernel
theorem rt_187 : (oMt 187).2.2.2.1 = some .int := by decide +kernel
theorem nl_187 : (oMt 187).2.2.1 = 3 := by decide +kernel
theorem f_187_0 : oFet 187 0 = some (.iconst 0, 1) := by decide +kernel
theorem s_187_0 {d : Nat} {l0 l1 l2 : oV} {S : List oV} {σ : oSg} {Q : Option oV → (Nat → oC) → Prop} : oE d 187 0 [l0, l1, l2] S σ Q = oE d 187 1 [l0, l1, l2] (.inl (0) :: S) σ Q := pKst f_187_0 (by decide)
theorem f_187_1 : oFet 187 1 = some (.istore_n 1, 1) := by decide +kernel
theorem s_187_1 {d : Nat} {l0 l1 l2 : oV} {x : Int} {S : List oV} {σ : oSg} {Q : Option oV → (Nat → oC) → Prop} (c1 : oCat l1 = 1) (c0 : oCat l0 = 1)  : oE d 187 1 [l0, l1, l2] (.inl x :: S) σ Q = oE d 187 2 [l0, .inl x, l2] S σ Q := pSt (i := 1) f_187_1 rfl rfl (show (1 : Nat) < 3 by decide) (oC1n c0) (oC1n c1) rfl
theorem f_187_2 : oFet 187 2 = some (.iconst 0, 1) := by decide +kernel
theorem s_187_2 {d : Nat} {l0 l1 l2 : oV} {S : List oV} {σ : oSg} {Q : Option oV → (Nat → oC) → Prop} : oE d 187 2 [l0, l1, l2] S σ Q = oE d 187 3 [l0, l1, l2] (.inl (0) :: S) σ Q := pKst f_187_2 (by decide)
theorem f_187_3 : oFet 187 3 = some (.istore_n 2, 1) := by decide +kernel
theorem s_187_3 {d : Nat} {l0 l1 l2 : oV} {x : Int} {S : List oV} {σ : oSg} {Q : Option oV → (Nat → oC) → Prop} (c2 : oCat l2 = 1) (c1 : oCat l1 = 1)  : oE d 187 3 [l0, l1, l2] (.inl x :: S) σ Q = oE d 187 4 [l0, l1, .inl x] S σ Q := pSt (i := 2) f_187_3 rfl rfl (show (2 : Nat) < 3 by decide) (oC1n c1) (oC1n c2) rfl
theorem f_187_4 : oFet 187 4 = some (.iload_n 2, 1) := by decide +kernel
theorem s_187_4 {d : Nat} {l0 l1 : oV} {x : Int} {S : List oV} {σ : oSg} {Q : Option oV → (Nat → oC) → Prop} : oE d 187 4 [l0, l1, .inl x] S σ Q = oE d 187 5 [l0, l1, .inl x] (.inl x :: S) σ Q := pLdN (k := 2) f_187_4 rfl rfl rfl
theorem f_187_5 : oFet 187 5 = some (.aload_n 0, 1) := by decide +kernel
theorem s_187_5 {d : Nat} {l1 l2 : oV} {a : Nat} {S : List oV} {σ : oSg} {Q : Option oV → (Nat → oC) → Prop} : oE d 187 5 [.inr (.inr (.inl a)), l1, l2] S σ Q = oE d 187 6 [.inr (.inr (.inl a)), l1, l2] (.inr (.inr (.inl a)) :: S) σ Q := pLdN (k := 0) f_187_5 rfl rfl rfl
theorem f_187_6 : oFet 187 6 = some (.getfield 11, 3) := by decide +kernel
theorem s_187_6 {d : Nat} {l0 l1 l2 : oV} {a : Nat} {S : List oV} {σ : oSg} {Q : Option oV → (Nat → oC) → Prop} (hk : oKd a = some 11) : oE d 187 6 [l0, l1, l2] (.inr (.inr (.inl a)) :: S) σ Q = oE d 187 9 [l0, l1, l2] (.inr (.inr (.inl (oRf a 0))) :: S) σ Q := pGfR f_187_6 ow_187 fl_11_11 rfl (by decide) hk
theorem f_187_9 : oFet 187 9 = some (.iconst 0, 1) := by decide +kernel
theorem s_187_9 {d : Nat} {l0 l1 l2 : oV} {S : List oV} {σ : oSg} {Q : Option oV → (Nat → oC) → Prop} : oE d 187 9 [l0, l1, l2] S σ Q = oE d 187 10 [l0, l1, l2] (.inl (0) :: S) σ Q := pKst f_187_9 (by decide)
theorem f_187_10 : oFet 187 10 = some (.iaload, 1) := by decide +kernel
theorem s_187_10 {d : Nat} {l0 l1 l2 : oV} {a : Nat} {i : Int} {S : List oV} {σ : oSg} {Q : Option oV → (Nat → oC) → Prop} (hk : oAk a = some 0) (h0 : 0 ≤ i) (h1 : i < (oLn a : Int)) : oE d 187 10 [l0, l1, l2] (.inl i :: .inr (.inr (.inl a)) :: S) σ Q = oE d 187 11 [l0, l1, l2] (.inl (σ.2 a i.toNat) :: S) σ Q := oIal f_187_10 hk h0 h1
theorem f_187_11 : oFet 187 11 = some (.if_icmp .ge 21, 3) := by decide +kernel
theorem s_187_11 {d : Nat} {l0 l1 l2 : oV} {x y : Int} {S : List oV} {σ : oSg} {Q : Option oV → (Nat → oC) → Prop} : oE d 187 11 [l0, l1, l2] (.inl y :: .inl x :: S) σ Q = if y ≤ x then oE d 187 32 [l0, l1, l2] S σ Q else oE d 187 14 [l0, l1, l2] S σ Q := oCmpGe f_187_11 (by decide)
theorem f_187_14 : oFet 187 14 = some (.iload_n 1, 1) := by decide +kernel
theorem s_187_14 {d : Nat} {l0 l2 : oV} {x : Int} {S : List oV} {σ : oSg} {Q : Option oV → (Nat → oC) → Prop} : oE d 187 14 [l0, .inl x, l2] S σ Q = oE d 187 15 [l0, .inl x, l2] (.inl x :: S) σ Q := pLdN (k := 1) f_187_14 rfl rfl rfl
theorem f_187_15 : oFet 187 15 = some (.aload_n 0, 1) := by decide +kernel
theorem s_187_15 {d : Nat} {l1 l2 : oV} {a : Nat} {S : List oV} {σ : oSg} {Q : Option oV → (Nat → oC) → Prop} : oE d 187 15 [.inr (.inr (.inl a)), l1, l2] S σ Q = oE d 187 16 [.inr (.inr (.inl a)), l1, l2] (.inr (.inr (.inl a)) :: S) σ Q := pLdN (k := 0) f_187_15 rfl rfl rfl
theorem f_187_16 : oFet 187 16 = some (.getfield 11, 3) := by decide +kernel
theorem s_187_16 {d : Nat} {l0 l1 l2 : oV} {a : Nat} {S : List oV} {σ : oSg} {Q : Option oV → (Nat → oC) → Prop} (hk : oKd a = some 11) : oE d 187 16 [l0, l1, l2] (.inr (.inr (.inl a)) :: S) σ Q = oE d 187 19 [l0, l1, l2] (.inr (.inr (.inl (oRf a 0))) :: S) σ Q := pGfR f_187_16 ow_187 fl_11_11 rfl (by decide) hk
theorem f_187_19 : oFet 187 19 = some (.bipush 57, 2) := by decide +kernel
theorem s_187_19 {d : Nat} {l0 l1 l2 : oV} {S : List oV} {σ : oSg} {Q : Option oV → (Nat → oC) → Prop} : oE d 187 19 [l0, l1, l2] S σ Q = oE d 187 21 [l0, l1, l2] (.inl (57) :: S) σ Q := pBip f_187_19 (by decide)
theorem f_187_21 : oFet 187 21 = some (.iload_n 2, 1) := by decide +kernel
theorem s_187_21 {d : Nat} {l0 l1 : oV} {x : Int} {S : List oV} {σ : oSg} {Q : Option oV → (Nat → oC) → Prop} : oE d 187 21 [l0, l1, .inl x] S σ Q = oE d 187 22 [l0, l1, .inl x] (.inl x :: S) σ Q := pLdN (k := 2) f_187_21 rfl rfl rfl
theorem f_187_22 : oFet 187 22 = some (.iadd, 1) := by decide +kernel
theorem s_187_22 {d : Nat} {l0 l1 l2 : oV} {x y : Int} {S : List oV} {σ : oSg} {Q : Option oV → (Nat → oC) → Prop} : oE d 187 22 [l0, l1, l2] (.inl y :: .inl x :: S) σ Q = oE d 187 23 [l0, l1, l2] (.inl (oAdd x y) :: S) σ Q := oS3 f_187_22 rfl rfl rfl
theorem f_187_23 : oFet 187 23 = some (.iaload, 1) := by decide +kernel
theorem s_187_23 {d : Nat} {l0 l1 l2 : oV} {a : Nat} {i : Int} {S : List oV} {σ : oSg} {Q : Option oV → (Nat → oC) → Prop} (hk : oAk a = some 0) (h0 : 0 ≤ i) (h1 : i < (oLn a : Int)) : oE d 187 23 [l0, l1, l2] (.inl i :: .inr (.inr (.inl a)) :: S) σ Q = oE d 187 24 [l0, l1, l2] (.inl (σ.2 a i.toNat) :: S) σ Q := oIal f_187_23 hk h0 h1
theorem f_187_24 : oFet 187 24 = some (.iadd, 1) := by decide +kernel
theorem s_187_24 {d : Nat} {l0 l1 l2 : oV} {x y : Int} {S : List oV} {σ : oSg} {Q : Option oV → (Nat → oC) → Prop} : oE d 187 24 [l0, l1, l2] (.inl y :: .inl x :: S) σ Q = oE d 187 25 [l0, l1, l2] (.inl (oAdd x y) :: S) σ Q := oS3 f_187_24 rfl rfl rfl
theorem f_187_25 : oFet 187 25 = some (.istore_n 1, 1) := by decide +kernel
theorem s_187_25 {d : Nat} {l0 l1 l2 : oV} {x : Int} {S : List oV} {σ : oSg} {Q : Option oV → (Nat → oC) → Prop} (c1 : oCat l1 = 1) (c0 : oCat l0 = 1)  : oE d 187 25 [l0, l1, l2] (.inl x :: S) σ Q = oE d 187 26 [l0, .inl x, l2] S σ Q := pSt (i := 1) f_187_25 rfl rfl (show (1 : Nat) < 3 by decide) (oC1n c0) (oC1n c1) rfl
theorem f_187_26 : oFet 187 26 = some (.iinc 2 1, 3) := by decide +kernel
theorem s_187_26 {d : Nat} {l0 l1 : oV} {x : Int} {S : List oV} {σ : oSg} {Q : Option oV → (Nat → oC) → Prop} (c1 : oCat l1 = 1)  : oE d 187 26 [l0, l1, .inl x] S σ Q = oE d 187 29 [l0, l1, .inl (oAdd x (1))] S σ Q := pInc f_187_26 rfl (show (2 : Nat) < 3 by decide) (oC1n c1) (oC1n (v := .inl x) rfl) rfl
theorem f_187_29 : oFet 187 29 = some (.goto (-25), 3) := by decide +kernel
theorem s_187_29 {d : Nat} {l0 l1 l2 : oV} {S : List oV} {σ : oSg} {Q : Option oV → (Nat → oC) → Prop} : oE d 187 29 [l0, l1, l2] S σ Q = oE d 187 4 [l0, l1, l2] S σ Q := pGoto f_187_29 (by decide)
theorem f_187_32 : oFet 187 32 = some (.iconst 0, 1) := by decide +kernel
theorem s_187_32 {d : Nat} {l0 l1 l2 : oV} {S : List oV} {σ : oSg} {Q : Option oV → (Nat → oC) → Prop} : oE d 187 32 [l0, l1, l2] S σ Q = oE d 187 33 [l0, l1, l2] (.inl (0) :: S) σ Q := pKst f_187_32 (by decide)
theorem f_187_33 : oFet 187 33 = some (.istore_n 2, 1) := by decide +kernel
theorem s_187_33 {d : Nat} {l0 l1 l2 : oV} {x : Int} {S : List oV} {σ : oSg} {Q : Option oV → (Nat → oC) → Prop} (c2 : oCat l2 = 1) (c1 : oCat l1 = 1)  : oE d 187 33 [l0, l1, l2] (.inl x :: S) σ Q = oE d 187 34 [l0, l1, .inl x] S σ Q := pSt (i := 2) f_187_33 rfl rfl (show (2 : Nat) < 3 by decide) (oC1n c1) (oC1n c2) rfl
theorem f_187_34 : oFet 187 34 = some (.iload_n 2, 1) := by decide +kernel
theorem s_187_34 {d : Nat} {l0 l1 : oV} {x : Int} {S : List oV} {σ : oSg} {Q : Option oV → (Nat → oC) → Prop} : oE d 187 34 [l0, l1, .inl x] S σ Q = oE d 187 35 [l0, l1, .inl x] (.inl x :: S) σ Q := pLdN (k := 2) f_187_34 rfl rfl rfl
theorem f_187_35 : oFet 187 35 = some (.aload_n 0, 1) := by decide +kernel
theorem s_187_35 {d : Nat} {l1 l2 : oV} {a : Nat} {S : List oV} {σ : oSg} {Q : Option oV → (Nat → oC) → Prop} : oE d 187 35 [.inr (.inr (.inl a)), l1, l2] S σ Q = oE d 187 36 [.inr (.inr (.inl a)), l1, l2] (.inr (.inr (.inl a)) :: S) σ Q := pLdN (k := 0) f_187_35 rfl rfl rfl
theorem f_187_36 : oFet 187 36 = some (.getfield 11, 3) := by decide +kernel
theorem s_187_36 {d : Nat} {l0 l1 l2 : oV} {a : Nat} {S : List oV} {σ : oSg} {Q : Option oV → (Nat → oC) → Prop} (hk : oKd a = some 11) : oE d 187 36 [l0, l1, l2] (.inr (.inr (.inl a)) :: S) σ Q = oE d 187 39 [l0, l1, l2] (.inr (.inr (.inl (oRf a 0))) :: S) σ Q := pGfR f_187_36 ow_187 fl_11_11 rfl (by decide) hk
theorem f_187_39 : oFet 187 39 = some (.bipush 64, 2) := by decide +kernel
theorem s_187_39 {d : Nat} {l0 l1 l2 : oV} {S : List oV} {σ : oSg} {Q : Option oV → (Nat → oC) → Prop} : oE d 187 39 [l0, l1, l2] S σ Q = oE d 187 41 [l0, l1, l2] (.inl (64) :: S) σ Q := pBip f_187_39 (by decide)
theorem f_187_41 : oFet 187 41 = some (.iaload, 1) := by decide +kernel
theorem s_187_41 {d : Nat} {l0 l1 l2 : oV} {a : Nat} {i : Int} {S : List oV} {σ : oSg} {Q : Option oV → (Nat → oC) → Prop} (hk : oAk a = some 0) (h0 : 0 ≤ i) (h1 : i < (oLn a : Int)) : oE d 187 41 [l0, l1, l2] (.inl i :: .inr (.inr (.inl a)) :: S) σ Q = oE d 187 42 [l0, l1, l2] (.inl (σ.2 a i.toNat) :: S) σ Q := oIal f_187_41 hk h0 h1
theorem f_187_42 : oFet 187 42 = some (.if_icmp .ge 36, 3) := by decide +kernel
theorem s_187_42 {d : Nat} {l0 l1 l2 : oV} {x y : Int} {S : List oV} {σ : oSg} {Q : Option oV → (Nat → oC) → Prop} : oE d 187 42 [l0, l1, l2] (.inl y :: .inl x :: S) σ Q = if y ≤ x then oE d 187 78 [l0, l1, l2] S σ Q else oE d 187 45 [l0, l1, l2] S σ Q := oCmpGe f_187_42 (by decide)
theorem f_187_45 : oFet 187 45 = some (.iload_n 1, 1) := by decide +kernel
theorem s_187_45 {d : Nat} {l0 l2 : oV} {x : Int} {S : List oV} {σ : oSg} {Q : Option oV → (Nat → oC) → Prop} : oE d 187 45 [l0, .inl x, l2] S σ Q = oE d 187 46 [l0, .inl x, l2] (.inl x :: S) σ Q := pLdN (k := 1) f_187_45 rfl rfl rfl
theorem f_187_46 : oFet 187 46 = some (.aload_n 0, 1) := by decide +kernel
theorem s_187_46 {d : Nat} {l1 l2 : oV} {a : Nat} {S : List oV} {σ : oSg} {Q : Option oV → (Nat → oC) → Prop} : oE d 187 46 [.inr (.inr (.inl a)), l1, l2] S σ Q = oE d 187 47 [.inr (.inr (.inl a)), l1, l2] (.inr (.inr (.inl a)) :: S) σ Q := pLdN (k := 0) f_187_46 rfl rfl rfl
theorem f_187_47 : oFet 187 47 = some (.getfield 11, 3) := by decide +kernel
theorem s_187_47 {d : Nat} {l0 l1 l2 : oV} {a : Nat} {S : List oV} {σ : oSg} {Q : Option oV → (Nat → oC) → Prop} (hk : oKd a = some 11) : oE d 187 47 [l0, l1, l2] (.inr (.inr (.inl a)) :: S) σ Q = oE d 187 50 [l0, l1, l2] (.inr (.inr (.inl (oRf a 0))) :: S) σ Q := pGfR f_187_47 ow_187 fl_11_11 rfl (by decide) hk
theorem f_187_50 : oFet 187 50 = some (.bipush 68, 2) := by decide +kernel
theorem s_187_50 {d : Nat} {l0 l1 l2 : oV} {S : List oV} {σ : oSg} {Q : Option oV → (Nat → oC) → Prop} : oE d 187 50 [l0, l1, l2] S σ Q = oE d 187 52 [l0, l1, l2] (.inl (68) :: S) σ Q := pBip f_187_50 (by decide)
theorem f_187_52 : oFet 187 52 = some (.iload_n 2, 1) := by decide +kernel
theorem s_187_52 {d : Nat} {l0 l1 : oV} {x : Int} {S : List oV} {σ : oSg} {Q : Option oV → (Nat → oC) → Prop} : oE d 187 52 [l0, l1, .inl x] S σ Q = oE d 187 53 [l0, l1, .inl x] (.inl x :: S) σ Q := pLdN (k := 2) f_187_52 rfl rfl rfl
theorem f_187_53 : oFet 187 53 = some (.iadd, 1) := by decide +kernel
theorem s_187_53 {d : Nat} {l0 l1 l2 : oV} {x y : Int} {S : List oV} {σ : oSg} {Q : Option oV → (Nat → oC) → Prop} : oE d 187 53 [l0, l1, l2] (.inl y :: .inl x :: S) σ Q = oE d 187 54 [l0, l1, l2] (.inl (oAdd x y) :: S) σ Q := oS3 f_187_53 rfl rfl rfl
theorem f_187_54 : oFet 187 54 = some (.iaload, 1) := by decide +kernel
theorem s_187_54 {d : Nat} {l0 l1 l2 : oV} {a : Nat} {i : Int} {S : List oV} {σ : oSg} {Q : Option oV → (Nat → oC) → Prop} (hk : oAk a = some 0) (h0 : 0 ≤ i) (h1 : i < (oLn a : Int)) : oE d 187 54 [l0, l1, l2] (.inl i :: .inr (.inr (.inl a)) :: S) σ Q = oE d 187 55 [l0, l1, l2] (.inl (σ.2 a i.toNat) :: S) σ Q := oIal f_187_54 hk h0 h1
theorem f_187_55 : oFet 187 55 = some (.aload_n 0, 1) := by decide +kernel
theorem s_187_55 {d : Nat} {l1 l2 : oV} {a : Nat} {S : List oV} {σ : oSg} {Q : Option oV → (Nat → oC) → Prop} : oE d 187 55 [.inr (.inr (.inl a)), l1, l2] S σ Q = oE d 187 56 [.inr (.inr (.inl a)), l1, l2] (.inr (.inr (.inl a)) :: S) σ Q := pLdN (k := 0) f_187_55 rfl rfl rfl
theorem f_187_56 : oFet 187 56 = some (.getfield 11, 3) := by decide +kernel
theorem s_187_56 {d : Nat} {l0 l1 l2 : oV} {a : Nat} {S : List oV} {σ : oSg} {Q : Option oV → (Nat → oC) → Prop} (hk : oKd a = some 11) : oE d 187 56 [l0, l1, l2] (.inr (.inr (.inl a)) :: S) σ Q = oE d 187 59 [l0, l1, l2] (.inr (.inr (.inl (oRf a 0))) :: S) σ Q := pGfR f_187_56 ow_187 fl_11_11 rfl (by decide) hk
theorem f_187_59 : oFet 187 59 = some (.bipush 65, 2) := by decide +kernel
theorem s_187_59 {d : Nat} {l0 l1 l2 : oV} {S : List oV} {σ : oSg} {Q : Option oV → (Nat → oC) → Prop} : oE d 187 59 [l0, l1, l2] S σ Q = oE d 187 61 [l0, l1, l2] (.inl (65) :: S) σ Q := pBip f_187_59 (by decide)
theorem f_187_61 : oFet 187 61 = some (.iload_n 2, 1) := by decide +kernel
theorem s_187_61 {d : Nat} {l0 l1 : oV} {x : Int} {S : List oV} {σ : oSg} {Q : Option oV → (Nat → oC) → Prop} : oE d 187 61 [l0, l1, .inl x] S σ Q = oE d 187 62 [l0, l1, .inl x] (.inl x :: S) σ Q := pLdN (k := 2) f_187_61 rfl rfl rfl
theorem f_187_62 : oFet 187 62 = some (.iadd, 1) := by decide +kernel
theorem s_187_62 {d : Nat} {l0 l1 l2 : oV} {x y : Int} {S : List oV} {σ : oSg} {Q : Option oV → (Nat → oC) → Prop} : oE d 187 62 [l0, l1, l2] (.inl y :: .inl x :: S) σ Q = oE d 187 63 [l0, l1, l2] (.inl (oAdd x y) :: S) σ Q := oS3 f_187_62 rfl rfl rfl
theorem f_187_63 : oFet 187 63 = some (.iaload, 1) := by decide +kernel
theorem s_187_63 {d : Nat} {l0 l1 l2 : oV} {a : Nat} {i : Int} {S : List oV} {σ : oSg} {Q : Option oV → (Nat → oC) → Prop} (hk : oAk a = some 0) (h0 : 0 ≤ i) (h1 : i < (oLn a : Int)) : oE d 187 63 [l0, l1, l2] (.inl i :: .inr (.inr (.inl a)) :: S) σ Q = oE d 187 64 [l0, l1, l2] (.inl (σ.2 a i.toNat) :: S) σ Q := oIal f_187_63 hk h0 h1
theorem f_187_64 : oFet 187 64 = some (.invokestatic 211, 3) := by decide +kernel
theorem c_187_64 {d : Nat} {l0 l1 l2 : oV} {x0 : oV} {v : Option oV} {τ : oSg} {S : List oV} {σ : oSg} {Q : Option oV → (Nat → oC) → Prop} (hm : oMi d 188 [x0] σ v τ) (hs : oSmall S = true) : oE d 187 64 [l0, l1, l2] (x0 :: S) σ Q = oE d 187 67 [l0, l1, l2] (v.toList ++ S) τ Q := pCallS f_187_64 ow_187 lk_11_211 mt_188 rfl rfl rfl hs hm
theorem f_187_67 : oFet 187 67 = some (.iconst 2, 1) := by decide +kernel
theorem s_187_67 {d : Nat} {l0 l1 l2 : oV} {S : List oV} {σ : oSg} {Q : Option oV → (Nat → oC) → Prop} : oE d 187 67 [l0, l1, l2] S σ Q = oE d 187 68 [l0, l1, l2] (.inl (2) :: S) σ Q := pKst f_187_67 (by decide)
theorem f_187_68 : oFet 187 68 = some (.idiv, 1) := by decide +kernel
theorem s_187_68 {d : Nat} {l0 l1 l2 : oV} {x y : Int} {S : List oV} {σ : oSg} {Q : Option oV → (Nat → oC) → Prop} (hy : y ≠ 0) : oE d 187 68 [l0, l1, l2] (.inl y :: .inl x :: S) σ Q = oE d 187 69 [l0, l1, l2] (.inl (oDiv x y) :: S) σ Q := pDiv f_187_68 hy
theorem f_187_69 : oFet 187 69 = some (.imul, 1) := by decide +kernel
theorem s_187_69 {d : Nat} {l0 l1 l2 : oV} {x y : Int} {S : List oV} {σ : oSg} {Q : Option oV → (Nat → oC) → Prop} : oE d 187 69 [l0, l1, l2] (.inl y :: .inl x :: S) σ Q = oE d 187 70 [l0, l1, l2] (.inl (oMul x y) :: S) σ Q := oS3 f_187_69 rfl rfl rfl
theorem f_187_70 : oFet 187 70 = some (.iadd, 1) := by decide +kernel
theorem s_187_70 {d : Nat} {l0 l1 l2 : oV} {x y : Int} {S : List oV} {σ : oSg} {Q : Option oV → (Nat → oC) → Prop} : oE d 187 70 [l0, l1, l2] (.inl y :: .inl x :: S) σ Q = oE d 187 71 [l0, l1, l2] (.inl (oAdd x y) :: S) σ Q := oS3 f_187_70 rfl rfl rfl
theorem f_187_71 : oFet 187 71 = some (.istore_n 1, 1) := by decide +kernel
theorem s_187_71 {d : Nat} {l0 l1 l2 : oV} {x : Int} {S : List oV} {σ : oSg} {Q : Option oV → (Nat → oC) → Prop} (c1 : oCat l1 = 1) (c0 : oCat l0 = 1)  : oE d 187 71 [l0, l1, l2] (.inl x :: S) σ Q = oE d 187 72 [l0, .inl x, l2] S σ Q := pSt (i := 1) f_187_71 rfl rfl (show (1 : Nat) < 3 by decide) (oC1n c0) (oC1n c1) rfl
theorem f_187_72 : oFet 187 72 = some (.iinc 2 1, 3) := by decide +kernel
theorem s_187_72 {d : Nat} {l0 l1 : oV} {x : Int} {S : List oV} {σ : oSg} {Q : Option oV → (Nat → oC) → Prop} (c1 : oCat l1 = 1)  : oE d 187 72 [l0, l1, .inl x] S σ Q = oE d 187 75 [l0, l1, .inl (oAdd x (1))] S σ Q := pInc f_187_72 rfl (show (2 : Nat) < 3 by decide) (oC1n c1) (oC1n (v := .inl x) rfl) rfl
theorem f_187_75 : oFet 187 75 = some (.goto (-41), 3) := by decide +kernel
theorem s_187_75 {d : Nat} {l0 l1 l2 : oV} {S : List oV} {σ : oSg} {Q : Option oV → (Nat → oC) → Prop} : oE d 187 75 [l0, l1, l2] S σ Q = oE d 187 34 [l0, l1, l2] S σ Q := pGoto f_187_75 (by decide)
theorem f_187_78 : oFet 187 78 = some (.iload_n 1, 1) := by decide +kernel
theorem s_187_78 {d : Nat} {l0 l2 : oV} {x : Int} {S : List oV} {σ : oSg} {Q : Option oV → (Nat → oC) → Prop} : oE d 187 78 [l0, .inl x, l2] S σ Q = oE d 187 79 [l0, .inl x, l2] (.inl x :: S) σ Q := pLdN (k := 1) f_187_78 rfl rfl rfl
theorem f_187_79 : oFet 187 79 = some (.ireturn, 1) := by decide +kernel
theorem s_187_79 {d : Nat} {l0 l1 l2 : oV} {x : Int} {σ : oSg} {Q : Option oV → (Nat → oC) → Prop} : oE d 187 79 [l0, l1, l2] [.inl x] σ Q = Q (some (.inl x)) (oBld σ) := oIret f_187_79 rt_187
theorem ow_188 : (oMt 188).2.2.2.2.1 = 11 := by decide +kernel
theorem rt_188 : (oMt 188).2.2.2.1 = some .int := by decide +kernel
theorem nl_188 : (oMt 188).2.2.1 = 3 := by decide +kernel
theorem f_188_0 : oFet 188 0 = some (.iconst 0, 1) := by decide +kernel
theorem s_188_0 {d : Nat} {l0 l1 l2 : oV} {S : List oV} {σ : oSg} {Q : Option oV → (Nat → oC) → Prop} : oE d 188 0 [l0, l1, l2] S σ Q = oE d 188 1 [l0, l1, l2] (.inl (0) :: S) σ Q := pKst f_188_0 (by decide)
theorem f_188_1 : oFet 188 1 = some (.istore_n 1, 1) := by decide +kernel
theorem s_188_1 {d : Nat} {l0 l1 l2 : oV} {x : Int} {S : List oV} {σ : oSg} {Q : Option oV → (Nat → oC) → Prop} (c1 : oCat l1 = 1) (c0 : oCat l0 = 1)  : oE d 188 1 [l0, l1, l2] (.inl x :: S) σ Q = oE d 188 2 [l0, .inl x, l2] S σ Q := pSt (i := 1) f_188_1 rfl rfl (show (1 : Nat) < 3 by decide) (oC1n c0) (oC1n c1) rfl
theorem f_188_2 : oFet 188 2 = some (.iconst 0, 1) := by decide +kernel
theorem s_188_2 {d : Nat} {l0 l1 l2 : oV} {S : List oV} {σ : oSg} {Q : Option oV → (Nat → oC) → Prop} : oE d 188 2 [l0, l1, l2] S σ Q = oE d 188 3 [l0, l1, l2] (.inl (0) :: S) σ Q := pKst f_188_2 (by decide)
theorem f_188_3 : oFet 188 3 = some (.istore_n 2, 1) := by decide +kernel
theorem s_188_3 {d : Nat} {l0 l1 l2 : oV} {x : Int} {S : List oV} {σ : oSg} {Q : Option oV → (Nat → oC) → Prop} (c2 : oCat l2 = 1) (c1 : oCat l1 = 1)  : oE d 188 3 [l0, l1, l2] (.inl x :: S) σ Q = oE d 188 4 [l0, l1, .inl x] S σ Q := pSt (i := 2) f_188_3 rfl rfl (show (2 : Nat) < 3 by decide) (oC1n c1) (oC1n c2) rfl
theorem f_188_4 : oFet 188 4 = some (.iload_n 2, 1) := by decide +kernel
theorem s_188_4 {d : Nat} {l0 l1 : oV} {x : Int} {S : List oV} {σ : oSg} {Q : Option oV → (Nat → oC) → Prop} : oE d 188 4 [l0, l1, .inl x] S σ Q = oE d 188 5 [l0, l1, .inl x] (.inl x :: S) σ Q := pLdN (k := 2) f_188_4 rfl rfl rfl
theorem f_188_5 : oFet 188 5 = some (.bipush 7, 2) := by decide +kernel
theorem s_188_5 {d : Nat} {l0 l1 l2 : oV} {S : List oV} {σ : oSg} {Q : Option oV → (Nat → oC) → Prop} : oE d 188 5 [l0, l1, l2] S σ Q = oE d 188 7 [l0, l1, l2] (.inl (7) :: S) σ Q := pBip f_188_5 (by decide)
theorem f_188_7 : oFet 188 7 = some (.if_icmp .ge 17, 3) := by decide +kernel
theorem s_188_7 {d : Nat} {l0 l1 l2 : oV} {x y : Int} {S : List oV} {σ : oSg} {Q : Option oV → (Nat → oC) → Prop} : oE d 188 7 [l0, l1, l2] (.inl y :: .inl x :: S) σ Q = if y ≤ x then oE d 188 24 [l0, l1, l2] S σ Q else oE d 188 10 [l0, l1, l2] S σ Q := oCmpGe f_188_7 (by decide)
theorem f_188_10 : oFet 188 10 = some (.iload_n 1, 1) := by decide +kernel
theorem s_188_10 {d : Nat} {l0 l2 : oV} {x : Int} {S : List oV} {σ : oSg} {Q : Option oV → (Nat → oC) → Prop} : oE d 188 10 [l0, .inl x, l2] S σ Q = oE d 188 11 [l0, .inl x, l2] (.inl x :: S) σ Q := pLdN (k := 1) f_188_10 rfl rfl rfl
theorem f_188_11 : oFet 188 11 = some (.iload_n 0, 1) := by decide +kernel
theorem s_188_11 {d : Nat} {l1 l2 : oV} {x : Int} {S : List oV} {σ : oSg} {Q : Option oV → (Nat → oC) → Prop} : oE d 188 11 [.inl x, l1, l2] S σ Q = oE d 188 12 [.inl x, l1, l2] (.inl x :: S) σ Q := pLdN (k := 0) f_188_11 rfl rfl rfl
theorem f_188_12 : oFet 188 12 = some (.iload_n 2, 1) := by decide +kernel
theorem s_188_12 {d : Nat} {l0 l1 : oV} {x : Int} {S : List oV} {σ : oSg} {Q : Option oV → (Nat → oC) → Prop} : oE d 188 12 [l0, l1, .inl x] S σ Q = oE d 188 13 [l0, l1, .inl x] (.inl x :: S) σ Q := pLdN (k := 2) f_188_12 rfl rfl rfl
theorem f_188_13 : oFet 188 13 = some (.ishr, 1) := by decide +kernel
theorem s_188_13 {d : Nat} {l0 l1 l2 : oV} {x y : Int} {S : List oV} {σ : oSg} {Q : Option oV → (Nat → oC) → Prop} : oE d 188 13 [l0, l1, l2] (.inl y :: .inl x :: S) σ Q = oE d 188 14 [l0, l1, l2] (.inl (oShr x y) :: S) σ Q := oS3 f_188_13 rfl rfl rfl
theorem f_188_14 : oFet 188 14 = some (.iconst 1, 1) := by decide +kernel
theorem s_188_14 {d : Nat} {l0 l1 l2 : oV} {S : List oV} {σ : oSg} {Q : Option oV → (Nat → oC) → Prop} : oE d 188 14 [l0, l1, l2] S σ Q = oE d 188 15 [l0, l1, l2] (.inl (1) :: S) σ Q := pKst f_188_14 (by decide)
theorem f_188_15 : oFet 188 15 = some (.iand, 1) := by decide +kernel
theorem s_188_15 {d : Nat} {l0 l1 l2 : oV} {x y : Int} {S : List oV} {σ : oSg} {Q : Option oV → (Nat → oC) → Prop} : oE d 188 15 [l0, l1, l2] (.inl y :: .inl x :: S) σ Q = oE d 188 16 [l0, l1, l2] (.inl (oAnd x y) :: S) σ Q := oS3 f_188_15 rfl rfl rfl
theorem f_188_16 : oFet 188 16 = some (.iadd, 1) := by decide +kernel
theorem s_188_16 {d : Nat} {l0 l1 l2 : oV} {x y : Int} {S : List oV} {σ : oSg} {Q : Option oV → (Nat → oC) → Prop} : oE d 188 16 [l0, l1, l2] (.inl y :: .inl x :: S) σ Q = oE d 188 17 [l0, l1, l2] (.inl (oAdd x y) :: S) σ Q := oS3 f_188_16 rfl rfl rfl
theorem f_188_17 : oFet 188 17 = some (.istore_n 1, 1) := by decide +kernel
theorem s_188_17 {d : Nat} {l0 l1 l2 : oV} {x : Int} {S : List oV} {σ : oSg} {Q : Option oV → (Nat → oC) → Prop} (c1 : oCat l1 = 1) (c0 : oCat l0 = 1)  : oE d 188 17 [l0, l1, l2] (.inl x :: S) σ Q = oE d 188 18 [l0, .inl x, l2] S σ Q := pSt (i := 1) f_188_17 rfl rfl (show (1 : Nat) < 3 by decide) (oC1n c0) (oC1n c1) rfl
theorem f_188_18 : oFet 188 18 = some (.iinc 2 1, 3) := by decide +kernel
theorem s_188_18 {d : Nat} {l0 l1 : oV} {x : Int} {S : List oV} {σ : oSg} {Q : Option oV → (Nat → oC) → Prop} (c1 : oCat l1 = 1)  : oE d 188 18 [l0, l1, .inl x] S σ Q = oE d 188 21 [l0, l1, .inl (oAdd x (1))] S σ Q := pInc f_188_18 rfl (show (2 : Nat) < 3 by decide) (oC1n c1) (oC1n (v := .inl x) rfl) rfl
theorem f_188_21 : oFet 188 21 = some (.goto (-17), 3) := by decide +kernel
theorem s_188_21 {d : Nat} {l0 l1 l2 : oV} {S : List oV} {σ : oSg} {Q : Option oV → (Nat → oC) → Prop} : oE d 188 21 [l0, l1, l2] S σ Q = oE d 188 4 [l0, l1, l2] S σ Q := pGoto f_188_21 (by decide)
theorem f_188_24 : oFet 188 24 = some (.iload_n 1, 1) := by decide +kernel
theorem s_188_24 {d : Nat} {l0 l2 : oV} {x : Int} {S : List oV} {σ : oSg} {Q : Option oV → (Nat → oC) → Prop} : oE d 188 24 [l0, .inl x, l2] S σ Q = oE d 188 25 [l0, .inl x, l2] (.inl x :: S) σ Q := pLdN (k := 1) f_188_24 rfl rfl rfl
theorem f_188_25 : oFet 188 25 = some (.ireturn, 1) := by decide +kernel
theorem s_188_25 {d : Nat} {l0 l1 l2 : oV} {x : Int} {σ : oSg} {Q : Option oV → (Nat → oC) → Prop} : oE d 188 25 [l0, l1, l2] [.inl x] σ Q = Q (some (.inl x)) (oBld σ) := oIret f_188_25 rt_188
theorem ow_189 : (oMt 189).2.2.2.2.1 = 11 := by decide +kernel
theorem rt_189 : (oMt 189).2.2.2.1 = some .int := by decide +kernel
theorem nl_189 : (oMt 189).2.2.1 = 4 := by decide +kernel
theorem f_189_0 : oFet 189 0 = some (.iload_n 1, 1) := by decide +kernel
theorem s_189_0 {d : Nat} {l0 l2 l3 : oV} {x : Int} {S : List oV} {σ : oSg} {Q : Option oV → (Nat → oC) → Prop} : oE d 189 0 [l0, .inl x, l2, l3] S σ Q = oE d 189 1 [l0, .inl x, l2, l3] (.inl x :: S) σ Q := pLdN (k := 1) f_189_0 rfl rfl rfl
theorem f_189_1 : oFet 189 1 = some (.iconst 0, 1) := by decide +kernel
theorem s_189_1 {d : Nat} {l0 l1 l2 l3 : oV} {S : List oV} {σ : oSg} {Q : Option oV → (Nat → oC) → Prop} : oE d 189 1 [l0, l1, l2, l3] S σ Q = oE d 189 2 [l0, l1, l2, l3] (.inl (0) :: S) σ Q := pKst f_189_1 (by decide)
theorem f_189_2 : oFet 189 2 = some (.iconst 4, 1) := by decide +kernel
theorem s_189_2 {d : Nat} {l0 l1 l2 l3 : oV} {S : List oV} {σ : oSg} {Q : Option oV → (Nat → oC) → Prop} : oE d 189 2 [l0, l1, l2, l3] S σ Q = oE d 189 3 [l0, l1, l2, l3] (.inl (4) :: S) σ Q := pKst f_189_2 (by decide)
theorem f_189_3 : oFet 189 3 = some (.invokestatic 57, 3) := by decide +kernel
theorem c_189_3 {d : Nat} {l0 l1 l2 l3 : oV} {x0 x1 x2 : oV} {v : Option oV} {τ : oSg} {S : List oV} {σ : oSg} {Q : Option oV → (Nat → oC) → Prop} (hm : oMi d 146 [x0, x1, x2] σ v τ) (hs : oSmall S = true) : oE d 189 3 [l0, l1, l2, l3] (x2 :: x1 :: x0 :: S) σ Q = oE d 189 6 [l0, l1, l2, l3] (v.toList ++ S) τ Q := pCallS f_189_3 ow_189 lk_11_57 mt_146 rfl rfl rfl hs hm
theorem f_189_6 : oFet 189 6 = some (.ifCond .ne 5, 3) := by decide +kernel
theorem s_189_6 {d : Nat} {l0 l1 l2 l3 : oV} {x : Int} {S : List oV} {σ : oSg} {Q : Option oV → (Nat → oC) → Prop} : oE d 189 6 [l0, l1, l2, l3] (.inl x :: S) σ Q = if ¬ x = 0 then oE d 189 11 [l0, l1, l2, l3] S σ Q else oE d 189 9 [l0, l1, l2, l3] S σ Q := oIfNe f_189_6 (by decide)
theorem f_189_9 : oFet 189 9 = some (.iconst (-1), 1) := by decide +kernel
theorem s_189_9 {d : Nat} {l0 l1 l2 l3 : oV} {S : List oV} {σ : oSg} {Q : Option oV → (Nat → oC) → Prop} : oE d 189 9 [l0, l1, l2, l3] S σ Q = oE d 189 10 [l0, l1, l2, l3] (.inl (-1) :: S) σ Q := pKst f_189_9 (by decide)
theorem f_189_10 : oFet 189 10 = some (.ireturn, 1) := by decide +kernel
theorem s_189_10 {d : Nat} {l0 l1 l2 l3 : oV} {x : Int} {σ : oSg} {Q : Option oV → (Nat → oC) → Prop} : oE d 189 10 [l0, l1, l2, l3] [.inl x] σ Q = Q (some (.inl x)) (oBld σ) := oIret f_189_10 rt_189
theorem f_189_11 : oFet 189 11 = some (.iload_n 1, 1) := by decide +kernel
theorem s_189_11 {d : Nat} {l0 l2 l3 : oV} {x : Int} {S : List oV} {σ : oSg} {Q : Option oV → (Nat → oC) → Prop} : oE d 189 11 [l0, .inl x, l2, l3] S σ Q = oE d 189 12 [l0, .inl x, l2, l3] (.inl x :: S) σ Q := pLdN (k := 1) f_189_11 rfl rfl rfl
theorem f_189_12 : oFet 189 12 = some (.iconst 2, 1) := by decide +kernel
theorem s_189_12 {d : Nat} {l0 l1 l2 l3 : oV} {S : List oV} {σ : oSg} {Q : Option oV → (Nat → oC) → Prop} : oE d 189 12 [l0, l1, l2, l3] S σ Q = oE d 189 13 [l0, l1, l2, l3] (.inl (2) :: S) σ Q := pKst f_189_12 (by decide)
theorem f_189_13 : oFet 189 13 = some (.if_icmp .le 23, 3) := by decide +kernel
theorem s_189_13 {d : Nat} {l0 l1 l2 l3 : oV} {x y : Int} {S : List oV} {σ : oSg} {Q : Option oV → (Nat → oC) → Prop} : oE d 189 13 [l0, l1, l2, l3] (.inl y :: .inl x :: S) σ Q = if x ≤ y then oE d 189 36 [l0, l1, l2, l3] S σ Q else oE d 189 16 [l0, l1, l2, l3] S σ Q := oCmpLe f_189_13 (by decide)
theorem f_189_16 : oFet 189 16 = some (.aload_n 0, 1) := by decide +kernel
theorem s_189_16 {d : Nat} {l1 l2 l3 : oV} {a : Nat} {S : List oV} {σ : oSg} {Q : Option oV → (Nat → oC) → Prop} : oE d 189 16 [.inr (.inr (.inl a)), l1, l2, l3] S σ Q = oE d 189 17 [.inr (.inr (.inl a)), l1, l2, l3] (.inr (.inr (.inl a)) :: S) σ Q := pLdN (k := 0) f_189_16 rfl rfl rfl
theorem f_189_17 : oFet 189 17 = some (.invokevirtual 220, 3) := by decide +kernel
theorem c_189_17 {d : Nat} {l0 l1 l2 l3 : oV} {a : Nat} {v : Option oV} {τ : oSg} {S : List oV} {σ : oSg} {Q : Option oV → (Nat → oC) → Prop} (hm : oMi d 190 [.inr (.inr (.inl a))] σ v τ) (hk : oKd a = some 11) (hs : oSmall S = true) : oE d 189 17 [l0, l1, l2, l3] (.inr (.inr (.inl a)) :: S) σ Q = oE d 189 20 [l0, l1, l2, l3] (v.toList ++ S) τ Q := pCallV f_189_17 ow_189 lk_11_220 mt_190 rfl rfl rfl hk hs hm
theorem f_189_20 : oFet 189 20 = some (.istore_n 2, 1) := by decide +kernel
theorem s_189_20 {d : Nat} {l0 l1 l2 l3 : oV} {x : Int} {S : List oV} {σ : oSg} {Q : Option oV → (Nat → oC) → Prop} (c2 : oCat l2 = 1) (c1 : oCat l1 = 1)  : oE d 189 20 [l0, l1, l2, l3] (.inl x :: S) σ Q = oE d 189 21 [l0, l1, .inl x, l3] S σ Q := pSt (i := 2) f_189_20 rfl rfl (show (2 : Nat) < 4 by decide) (oC1n c1) (oC1n c2) rfl
theorem f_189_21 : oFet 189 21 = some (.iload_n 1, 1) := by decide +kernel
theorem s_189_21 {d : Nat} {l0 l2 l3 : oV} {x : Int} {S : List oV} {σ : oSg} {Q : Option oV → (Nat → oC) → Prop} : oE d 189 21 [l0, .inl x, l2, l3] S σ Q = oE d 189 22 [l0, .inl x, l2, l3] (.inl x :: S) σ Q := pLdN (k := 1) f_189_21 rfl rfl rfl
theorem f_189_22 : oFet 189 22 = some (.iconst 3, 1) := by decide +kernel
theorem s_189_22 {d : Nat} {l0 l1 l2 l3 : oV} {S : List oV} {σ : oSg} {Q : Option oV → (Nat → oC) → Prop} : oE d 189 22 [l0, l1, l2, l3] S σ Q = oE d 189 23 [l0, l1, l2, l3] (.inl (3) :: S) σ Q := pKst f_189_22 (by decide)
theorem f_189_23 : oFet 189 23 = some (.if_icmp .ne 7, 3) := by decide +kernel
theorem s_189_23 {d : Nat} {l0 l1 l2 l3 : oV} {x y : Int} {S : List oV} {σ : oSg} {Q : Option oV → (Nat → oC) → Prop} : oE d 189 23 [l0, l1, l2, l3] (.inl y :: .inl x :: S) σ Q = if ¬ x = y then oE d 189 30 [l0, l1, l2, l3] S σ Q else oE d 189 26 [l0, l1, l2, l3] S σ Q := oCmpNe f_189_23 (by decide)
theorem f_189_26 : oFet 189 26 = some (.iload_n 2, 1) := by decide +kernel
theorem s_189_26 {d : Nat} {l0 l1 l3 : oV} {x : Int} {S : List oV} {σ : oSg} {Q : Option oV → (Nat → oC) → Prop} : oE d 189 26 [l0, l1, .inl x, l3] S σ Q = oE d 189 27 [l0, l1, .inl x, l3] (.inl x :: S) σ Q := pLdN (k := 2) f_189_26 rfl rfl rfl
theorem f_189_27 : oFet 189 27 = some (.goto 8, 3) := by decide +kernel
theorem s_189_27 {d : Nat} {l0 l1 l2 l3 : oV} {S : List oV} {σ : oSg} {Q : Option oV → (Nat → oC) → Prop} : oE d 189 27 [l0, l1, l2, l3] S σ Q = oE d 189 35 [l0, l1, l2, l3] S σ Q := pGoto f_189_27 (by decide)
theorem f_189_30 : oFet 189 30 = some (.aload_n 0, 1) := by decide +kernel
theorem s_189_30 {d : Nat} {l1 l2 l3 : oV} {a : Nat} {S : List oV} {σ : oSg} {Q : Option oV → (Nat → oC) → Prop} : oE d 189 30 [.inr (.inr (.inl a)), l1, l2, l3] S σ Q = oE d 189 31 [.inr (.inr (.inl a)), l1, l2, l3] (.inr (.inr (.inl a)) :: S) σ Q := pLdN (k := 0) f_189_30 rfl rfl rfl
theorem f_189_31 : oFet 189 31 = some (.iload_n 2, 1) := by decide +kernel
theorem s_189_31 {d : Nat} {l0 l1 l3 : oV} {x : Int} {S : List oV} {σ : oSg} {Q : Option oV → (Nat → oC) → Prop} : oE d 189 31 [l0, l1, .inl x, l3] S σ Q = oE d 189 32 [l0, l1, .inl x, l3] (.inl x :: S) σ Q := pLdN (k := 2) f_189_31 rfl rfl rfl
theorem f_189_32 : oFet 189 32 = some (.invokevirtual 217, 3) := by decide +kernel
theorem c_189_32 {d : Nat} {l0 l1 l2 l3 : oV} {x0 : oV} {a : Nat} {v : Option oV} {τ : oSg} {S : List oV} {σ : oSg} {Q : Option oV → (Nat → oC) → Prop} (hm : oMi d 191 [.inr (.inr (.inl a)), x0] σ v τ) (hk : oKd a = some 11) (hs : oSmall S = true) : oE d 189 32 [l0, l1, l2, l3] (x0 :: .inr (.inr (.inl a)) :: S) σ Q = oE d 189 35 [l0, l1, l2, l3] (v.toList ++ S) τ Q := pCallV f_189_32 ow_189 lk_11_217 mt_191 rfl rfl rfl hk hs hm
theorem f_189_35 : oFet 189 35 = some (.ireturn, 1) := by decide +kernel
theorem s_189_35 {d : Nat} {l0 l1 l2 l3 : oV} {x : Int} {σ : oSg} {Q : Option oV → (Nat → oC) → Prop} : oE d 189 35 [l0, l1, l2, l3] [.inl x] σ Q = Q (some (.inl x)) (oBld σ) := oIret f_189_35 rt_189
theorem f_189_36 : oFet 189 36 = some (.aload_n 0, 1) := by decide +kernel
theorem s_189_36 {d : Nat} {l1 l2 l3 : oV} {a : Nat} {S : List oV} {σ : oSg} {Q : Option oV → (Nat → oC) → Prop} : oE d 189 36 [.inr (.inr (.inl a)), l1, l2, l3] S σ Q = oE d 189 37 [.inr (.inr (.inl a)), l1, l2, l3] (.inr (.inr (.inl a)) :: S) σ Q := pLdN (k := 0) f_189_36 rfl rfl rfl
theorem f_189_37 : oFet 189 37 = some (.invokevirtual 223, 3) := by decide +kernel
theorem c_189_37 {d : Nat} {l0 l1 l2 l3 : oV} {a : Nat} {v : Option oV} {τ : oSg} {S : List oV} {σ : oSg} {Q : Option oV → (Nat → oC) → Prop} (hm : oMi d 193 [.inr (.inr (.inl a))] σ v τ) (hk : oKd a = some 11) (hs : oSmall S = true) : oE d 189 37 [l0, l1, l2, l3] (.inr (.inr (.inl a)) :: S) σ Q = oE d 189 40 [l0, l1, l2, l3] (v.toList ++ S) τ Q := pCallV f_189_37 ow_189 lk_11_223 mt_193 rfl rfl rfl hk hs hm
theorem f_189_40 : oFet 189 40 = some (.istore_n 2, 1) := by decide +kernel
theorem s_189_40 {d : Nat} {l0 l1 l2 l3 : oV} {x : Int} {S : List oV} {σ : oSg} {Q : Option oV → (Nat → oC) → Prop} (c2 : oCat l2 = 1) (c1 : oCat l1 = 1)  : oE d 189 40 [l0, l1, l2, l3] (.inl x :: S) σ Q = oE d 189 41 [l0, l1, .inl x, l3] S σ Q := pSt (i := 2) f_189_40 rfl rfl (show (2 : Nat) < 4 by decide) (oC1n c1) (oC1n c2) rfl
theorem f_189_41 : oFet 189 41 = some (.aload_n 0, 1) := by decide +kernel
theorem s_189_41 {d : Nat} {l1 l2 l3 : oV} {a : Nat} {S : List oV} {σ : oSg} {Q : Option oV → (Nat → oC) → Prop} : oE d 189 41 [.inr (.inr (.inl a)), l1, l2, l3] S σ Q = oE d 189 42 [.inr (.inr (.inl a)), l1, l2, l3] (.inr (.inr (.inl a)) :: S) σ Q := pLdN (k := 0) f_189_41 rfl rfl rfl
theorem f_189_42 : oFet 189 42 = some (.iload_n 2, 1) := by decide +kernel
theorem s_189_42 {d : Nat} {l0 l1 l3 : oV} {x : Int} {S : List oV} {σ : oSg} {Q : Option oV → (Nat → oC) → Prop} : oE d 189 42 [l0, l1, .inl x, l3] S σ Q = oE d 189 43 [l0, l1, .inl x, l3] (.inl x :: S) σ Q := pLdN (k := 2) f_189_42 rfl rfl rfl
theorem f_189_43 : oFet 189 43 = some (.invokevirtual 226, 3) := by decide +kernel
theorem c_189_43 {d : Nat} {l0 l1 l2 l3 : oV} {x0 : oV} {a : Nat} {v : Option oV} {τ : oSg} {S : List oV} {σ : oSg} {Q : Option oV → (Nat → oC) → Prop} (hm : oMi d 194 [.inr (.inr (.inl a)), x0] σ v τ) (hk : oKd a = some 11) (hs : oSmall S = true) : oE d 189 43 [l0, l1, l2, l3] (x0 :: .inr (.inr (.inl a)) :: S) σ Q = oE d 189 46 [l0, l1, l2, l3] (v.toList ++ S) τ Q := pCallV f_189_43 ow_189 lk_11_226 mt_194 rfl rfl rfl hk hs hm
theorem f_189_46 : oFet 189 46 = some (.istore_n 3, 1) := by decide +kernel
theorem s_189_46 {d : Nat} {l0 l1 l2 l3 : oV} {x : Int} {S : List oV} {σ : oSg} {Q : Option oV → (Nat → oC) → Prop} (c3 : oCat l3 = 1) (c2 : oCat l2 = 1)  : oE d 189 46 [l0, l1, l2, l3] (.inl x :: S) σ Q = oE d 189 47 [l0, l1, l2, .inl x] S σ Q := pSt (i := 3) f_189_46 rfl rfl (show (3 : Nat) < 4 by decide) (oC1n c2) (oC1n c3) rfl
theorem f_189_47 : oFet 189 47 = some (.iload_n 1, 1) := by decide +kernel
theorem s_189_47 {d : Nat} {l0 l2 l3 : oV} {x : Int} {S : List oV} {σ : oSg} {Q : Option oV → (Nat → oC) → Prop} : oE d 189 47 [l0, .inl x, l2, l3] S σ Q = oE d 189 48 [l0, .inl x, l2, l3] (.inl x :: S) σ Q := pLdN (k := 1) f_189_47 rfl rfl rfl
theorem f_189_48 : oFet 189 48 = some (.ifCond .ne 7, 3) := by decide +kernel
theorem s_189_48 {d : Nat} {l0 l1 l2 l3 : oV} {x : Int} {S : List oV} {σ : oSg} {Q : Option oV → (Nat → oC) → Prop} : oE d 189 48 [l0, l1, l2, l3] (.inl x :: S) σ Q = if ¬ x = 0 then oE d 189 55 [l0, l1, l2, l3] S σ Q else oE d 189 51 [l0, l1, l2, l3] S σ Q := oIfNe f_189_48 (by decide)
theorem f_189_51 : oFet 189 51 = some (.iload_n 2, 1) := by decide +kernel
theorem s_189_51 {d : Nat} {l0 l1 l3 : oV} {x : Int} {S : List oV} {σ : oSg} {Q : Option oV → (Nat → oC) → Prop} : oE d 189 51 [l0, l1, .inl x, l3] S σ Q = oE d 189 52 [l0, l1, .inl x, l3] (.inl x :: S) σ Q := pLdN (k := 2) f_189_51 rfl rfl rfl
theorem f_189_52 : oFet 189 52 = some (.goto 30, 3) := by decide +kernel
theorem s_189_52 {d : Nat} {l0 l1 l2 l3 : oV} {S : List oV} {σ : oSg} {Q : Option oV → (Nat → oC) → Prop} : oE d 189 52 [l0, l1, l2, l3] S σ Q = oE d 189 82 [l0, l1, l2, l3] S σ Q := pGoto f_189_52 (by decide)
theorem f_189_55 : oFet 189 55 = some (.iload_n 1, 1) := by decide +kernel
theorem s_189_55 {d : Nat} {l0 l2 l3 : oV} {x : Int} {S : List oV} {σ : oSg} {Q : Option oV → (Nat → oC) → Prop} : oE d 189 55 [l0, .inl x, l2, l3] S σ Q = oE d 189 56 [l0, .inl x, l2, l3] (.inl x :: S) σ Q := pLdN (k := 1) f_189_55 rfl rfl rfl
theorem f_189_56 : oFet 189 56 = some (.iconst 1, 1) := by decide +kernel
theorem s_189_56 {d : Nat} {l0 l1 l2 l3 : oV} {S : List oV} {σ : oSg} {Q : Option oV → (Nat → oC) → Prop} : oE d 189 56 [l0, l1, l2, l3] S σ Q = oE d 189 57 [l0, l1, l2, l3] (.inl (1) :: S) σ Q := pKst f_189_56 (by decide)
theorem f_189_57 : oFet 189 57 = some (.if_icmp .ne 7, 3) := by decide +kernel
theorem s_189_57 {d : Nat} {l0 l1 l2 l3 : oV} {x y : Int} {S : List oV} {σ : oSg} {Q : Option oV → (Nat → oC) → Prop} : oE d 189 57 [l0, l1, l2, l3] (.inl y :: .inl x :: S) σ Q = if ¬ x = y then oE d 189 64 [l0, l1, l2, l3] S σ Q else oE d 189 60 [l0, l1, l2, l3] S σ Q := oCmpNe f_189_57 (by decide)
theorem f_189_60 : oFet 189 60 = some (.iload_n 3, 1) := by decide +kernel
theorem s_189_60 {d : Nat} {l0 l1 l2 : oV} {x : Int} {S : List oV} {σ : oSg} {Q : Option oV → (Nat → oC) → Prop} : oE d 189 60 [l0, l1, l2, .inl x] S σ Q = oE d 189 61 [l0, l1, l2, .inl x] (.inl x :: S) σ Q := pLdN (k := 3) f_189_60 rfl rfl rfl
theorem f_189_61 : oFet 189 61 = some (.goto 21, 3) := by decide +kernel
theorem s_189_61 {d : Nat} {l0 l1 l2 l3 : oV} {S : List oV} {σ : oSg} {Q : Option oV → (Nat → oC) → Prop} : oE d 189 61 [l0, l1, l2, l3] S σ Q = oE d 189 82 [l0, l1, l2, l3] S σ Q := pGoto f_189_61 (by decide)
theorem f_189_64 : oFet 189 64 = some (.iconst 1, 1) := by decide +kernel
theorem s_189_64 {d : Nat} {l0 l1 l2 l3 : oV} {S : List oV} {σ : oSg} {Q : Option oV → (Nat → oC) → Prop} : oE d 189 64 [l0, l1, l2, l3] S σ Q = oE d 189 65 [l0, l1, l2, l3] (.inl (1) :: S) σ Q := pKst f_189_64 (by decide)
theorem f_189_65 : oFet 189 65 = some (.aload_n 0, 1) := by decide +kernel
theorem s_189_65 {d : Nat} {l1 l2 l3 : oV} {a : Nat} {S : List oV} {σ : oSg} {Q : Option oV → (Nat → oC) → Prop} : oE d 189 65 [.inr (.inr (.inl a)), l1, l2, l3] S σ Q = oE d 189 66 [.inr (.inr (.inl a)), l1, l2, l3] (.inr (.inr (.inl a)) :: S) σ Q := pLdN (k := 0) f_189_65 rfl rfl rfl
theorem f_189_66 : oFet 189 66 = some (.getfield 11, 3) := by decide +kernel
theorem s_189_66 {d : Nat} {l0 l1 l2 l3 : oV} {a : Nat} {S : List oV} {σ : oSg} {Q : Option oV → (Nat → oC) → Prop} (hk : oKd a = some 11) : oE d 189 66 [l0, l1, l2, l3] (.inr (.inr (.inl a)) :: S) σ Q = oE d 189 69 [l0, l1, l2, l3] (.inr (.inr (.inl (oRf a 0))) :: S) σ Q := pGfR f_189_66 ow_189 fl_11_11 rfl (by decide) hk
theorem f_189_69 : oFet 189 69 = some (.iconst 0, 1) := by decide +kernel
theorem s_189_69 {d : Nat} {l0 l1 l2 l3 : oV} {S : List oV} {σ : oSg} {Q : Option oV → (Nat → oC) → Prop} : oE d 189 69 [l0, l1, l2, l3] S σ Q = oE d 189 70 [l0, l1, l2, l3] (.inl (0) :: S) σ Q := pKst f_189_69 (by decide)
theorem f_189_70 : oFet 189 70 = some (.iaload, 1) := by decide +kernel
theorem s_189_70 {d : Nat} {l0 l1 l2 l3 : oV} {a : Nat} {i : Int} {S : List oV} {σ : oSg} {Q : Option oV → (Nat → oC) → Prop} (hk : oAk a = some 0) (h0 : 0 ≤ i) (h1 : i < (oLn a : Int)) : oE d 189 70 [l0, l1, l2, l3] (.inl i :: .inr (.inr (.inl a)) :: S) σ Q = oE d 189 71 [l0, l1, l2, l3] (.inl (σ.2 a i.toNat) :: S) σ Q := oIal f_189_70 hk h0 h1
theorem f_189_71 : oFet 189 71 = some (.ishl, 1) := by decide +kernel
theorem s_189_71 {d : Nat} {l0 l1 l2 l3 : oV} {x y : Int} {S : List oV} {σ : oSg} {Q : Option oV → (Nat → oC) → Prop} : oE d 189 71 [l0, l1, l2, l3] (.inl y :: .inl x :: S) σ Q = oE d 189 72 [l0, l1, l2, l3] (.inl (oShl x y) :: S) σ Q := oS3 f_189_71 rfl rfl rfl
theorem f_189_72 : oFet 189 72 = some (.iconst 1, 1) := by decide +kernel
theorem s_189_72 {d : Nat} {l0 l1 l2 l3 : oV} {S : List oV} {σ : oSg} {Q : Option oV → (Nat → oC) → Prop} : oE d 189 72 [l0, l1, l2, l3] S σ Q = oE d 189 73 [l0, l1, l2, l3] (.inl (1) :: S) σ Q := pKst f_189_72 (by decide)
theorem f_189_73 : oFet 189 73 = some (.isub, 1) := by decide +kernel
theorem s_189_73 {d : Nat} {l0 l1 l2 l3 : oV} {x y : Int} {S : List oV} {σ : oSg} {Q : Option oV → (Nat → oC) → Prop} : oE d 189 73 [l0, l1, l2, l3] (.inl y :: .inl x :: S) σ Q = oE d 189 74 [l0, l1, l2, l3] (.inl (oSub x y) :: S) σ Q := oS3 f_189_73 rfl rfl rfl
theorem f_189_74 : oFet 189 74 = some (.iload_n 2, 1) := by decide +kernel
theorem s_189_74 {d : Nat} {l0 l1 l3 : oV} {x : Int} {S : List oV} {σ : oSg} {Q : Option oV → (Nat → oC) → Prop} : oE d 189 74 [l0, l1, .inl x, l3] S σ Q = oE d 189 75 [l0, l1, .inl x, l3] (.inl x :: S) σ Q := pLdN (k := 2) f_189_74 rfl rfl rfl
theorem f_189_75 : oFet 189 75 = some (.iconst (-1), 1) := by decide +kernel
theorem s_189_75 {d : Nat} {l0 l1 l2 l3 : oV} {S : List oV} {σ : oSg} {Q : Option oV → (Nat → oC) → Prop} : oE d 189 75 [l0, l1, l2, l3] S σ Q = oE d 189 76 [l0, l1, l2, l3] (.inl (-1) :: S) σ Q := pKst f_189_75 (by decide)
theorem f_189_76 : oFet 189 76 = some (.ixor, 1) := by decide +kernel
theorem s_189_76 {d : Nat} {l0 l1 l2 l3 : oV} {x y : Int} {S : List oV} {σ : oSg} {Q : Option oV → (Nat → oC) → Prop} : oE d 189 76 [l0, l1, l2, l3] (.inl y :: .inl x :: S) σ Q = oE d 189 77 [l0, l1, l2, l3] (.inl (oXor x y) :: S) σ Q := oS3 f_189_76 rfl rfl rfl
theorem f_189_77 : oFet 189 77 = some (.iand, 1) := by decide +kernel
theorem s_189_77 {d : Nat} {l0 l1 l2 l3 : oV} {x y : Int} {S : List oV} {σ : oSg} {Q : Option oV → (Nat → oC) → Prop} : oE d 189 77 [l0, l1, l2, l3] (.inl y :: .inl x :: S) σ Q = oE d 189 78 [l0, l1, l2, l3] (.inl (oAnd x y) :: S) σ Q := oS3 f_189_77 rfl rfl rfl
theorem f_189_78 : oFet 189 78 = some (.iload_n 3, 1) := by decide +kernel
theorem s_189_78 {d : Nat} {l0 l1 l2 : oV} {x : Int} {S : List oV} {σ : oSg} {Q : Option oV → (Nat → oC) → Prop} : oE d 189 78 [l0, l1, l2, .inl x] S σ Q = oE d 189 79 [l0, l1, l2, .inl x] (.inl x :: S) σ Q := pLdN (k := 3) f_189_78 rfl rfl rfl
theorem f_189_79 : oFet 189 79 = some (.iconst (-1), 1) := by decide +kernel
theorem s_189_79 {d : Nat} {l0 l1 l2 l3 : oV} {S : List oV} {σ : oSg} {Q : Option oV → (Nat → oC) → Prop} : oE d 189 79 [l0, l1, l2, l3] S σ Q = oE d 189 80 [l0, l1, l2, l3] (.inl (-1) :: S) σ Q := pKst f_189_79 (by decide)
theorem f_189_80 : oFet 189 80 = some (.ixor, 1) := by decide +kernel
theorem s_189_80 {d : Nat} {l0 l1 l2 l3 : oV} {x y : Int} {S : List oV} {σ : oSg} {Q : Option oV → (Nat → oC) → Prop} : oE d 189 80 [l0, l1, l2, l3] (.inl y :: .inl x :: S) σ Q = oE d 189 81 [l0, l1, l2, l3] (.inl (oXor x y) :: S) σ Q := oS3 f_189_80 rfl rfl rfl
theorem f_189_81 : oFet 189 81 = some (.iand, 1) := by decide +kernel
theorem s_189_81 {d : Nat} {l0 l1 l2 l3 : oV} {x y : Int} {S : List oV} {σ : oSg} {Q : Option oV → (Nat → oC) → Prop} : oE d 189 81 [l0, l1, l2, l3] (.inl y :: .inl x :: S) σ Q = oE d 189 82 [l0, l1, l2, l3] (.inl (oAnd x y) :: S) σ Q := oS3 f_189_81 rfl rfl rfl
theorem f_189_82 : oFet 189 82 = some (.ireturn, 1) := by decide +kernel
theorem s_189_82 {d : Nat} {l0 l1 l2 l3 : oV} {x : Int} {σ : oSg} {Q : Option oV → (Nat → oC) → Prop} : oE d 189 82 [l0, l1, l2, l3] [.inl x] σ Q = Q (some (.inl x)) (oBld σ) := oIret f_189_82 rt_189
theorem ow_190 : (oMt 190).2.2.2.2.1 = 11 := by decide +kernel
theorem rt_190 : (oMt 190).2.2.2.1 = some .int := by decide +kernel
theorem nl_190 : (oMt 190).2.2.1 = 3 := by decide +kernel
theorem f_190_0 : oFet 190 0 = some (.aload_n 0, 1) := by decide +kernel
theorem s_190_0 {d : Nat} {l1 l2 : oV} {a : Nat} {S : List oV} {σ : oSg} {Q : Option oV → (Nat → oC) → Prop} : oE d 190 0 [.inr (.inr (.inl a)), l1, l2] S σ Q = oE d 190 1 [.inr (.inr (.inl a)), l1, l2] (.inr (.inr (.inl a)) :: S) σ Q := pLdN (k := 0) f_190_0 rfl rfl rfl
theorem f_190_1 : oFet 190 1 = some (.invokevirtual 195, 3) := by decide +kernel
theorem c_190_1 {d : Nat} {l0 l1 l2 : oV} {a : Nat} {v : Option oV} {τ : oSg} {S : List oV} {σ : oSg} {Q : Option oV → (Nat → oC) → Prop} (hm : oMi d 181 [.inr (.inr (.inl a))] σ v τ) (hk : oKd a = some 11) (hs : oSmall S = true) : oE d 190 1 [l0, l1, l2] (.inr (.inr (.inl a)) :: S) σ Q = oE d 190 4 [l0, l1, l2] (v.toList ++ S) τ Q := pCallV f_190_1 ow_190 lk_11_195 mt_181 rfl rfl rfl hk hs hm
theorem f_190_4 : oFet 190 4 = some (.iconst 0, 1) := by decide +kernel
theorem s_190_4 {d : Nat} {l0 l1 l2 : oV} {S : List oV} {σ : oSg} {Q : Option oV → (Nat → oC) → Prop} : oE d 190 4 [l0, l1, l2] S σ Q = oE d 190 5 [l0, l1, l2] (.inl (0) :: S) σ Q := pKst f_190_4 (by decide)
theorem f_190_5 : oFet 190 5 = some (.istore_n 1, 1) := by decide +kernel
theorem s_190_5 {d : Nat} {l0 l1 l2 : oV} {x : Int} {S : List oV} {σ : oSg} {Q : Option oV → (Nat → oC) → Prop} (c1 : oCat l1 = 1) (c0 : oCat l0 = 1)  : oE d 190 5 [l0, l1, l2] (.inl x :: S) σ Q = oE d 190 6 [l0, .inl x, l2] S σ Q := pSt (i := 1) f_190_5 rfl rfl (show (1 : Nat) < 3 by decide) (oC1n c0) (oC1n c1) rfl
theorem f_190_6 : oFet 190 6 = some (.iconst 1, 1) := by decide +kernel
theorem s_190_6 {d : Nat} {l0 l1 l2 : oV} {S : List oV} {σ : oSg} {Q : Option oV → (Nat → oC) → Prop} : oE d 190 6 [l0, l1, l2] S σ Q = oE d 190 7 [l0, l1, l2] (.inl (1) :: S) σ Q := pKst f_190_6 (by decide)
theorem f_190_7 : oFet 190 7 = some (.istore_n 2, 1) := by decide +kernel
theorem s_190_7 {d : Nat} {l0 l1 l2 : oV} {x : Int} {S : List oV} {σ : oSg} {Q : Option oV → (Nat → oC) → Prop} (c2 : oCat l2 = 1) (c1 : oCat l1 = 1)  : oE d 190 7 [l0, l1, l2] (.inl x :: S) σ Q = oE d 190 8 [l0, l1, .inl x] S σ Q := pSt (i := 2) f_190_7 rfl rfl (show (2 : Nat) < 3 by decide) (oC1n c1) (oC1n c2) rfl
theorem f_190_8 : oFet 190 8 = some (.iload_n 2, 1) := by decide +kernel
theorem s_190_8 {d : Nat} {l0 l1 : oV} {x : Int} {S : List oV} {σ : oSg} {Q : Option oV → (Nat → oC) → Prop} : oE d 190 8 [l0, l1, .inl x] S σ Q = oE d 190 9 [l0, l1, .inl x] (.inl x :: S) σ Q := pLdN (k := 2) f_190_8 rfl rfl rfl
theorem f_190_9 : oFet 190 9 = some (.iconst 1, 1) := by decide +kernel
theorem s_190_9 {d : Nat} {l0 l1 l2 : oV} {S : List oV} {σ : oSg} {Q : Option oV → (Nat → oC) → Prop} : oE d 190 9 [l0, l1, l2] S σ Q = oE d 190 10 [l0, l1, l2] (.inl (1) :: S) σ Q := pKst f_190_9 (by decide)
theorem f_190_10 : oFet 190 10 = some (.aload_n 0, 1) := by decide +kernel
theorem s_190_10 {d : Nat} {l1 l2 : oV} {a : Nat} {S : List oV} {σ : oSg} {Q : Option oV → (Nat → oC) → Prop} : oE d 190 10 [.inr (.inr (.inl a)), l1, l2] S σ Q = oE d 190 11 [.inr (.inr (.inl a)), l1, l2] (.inr (.inr (.inl a)) :: S) σ Q := pLdN (k := 0) f_190_10 rfl rfl rfl
theorem f_190_11 : oFet 190 11 = some (.getfield 11, 3) := by decide +kernel
theorem s_190_11 {d : Nat} {l0 l1 l2 : oV} {a : Nat} {S : List oV} {σ : oSg} {Q : Option oV → (Nat → oC) → Prop} (hk : oKd a = some 11) : oE d 190 11 [l0, l1, l2] (.inr (.inr (.inl a)) :: S) σ Q = oE d 190 14 [l0, l1, l2] (.inr (.inr (.inl (oRf a 0))) :: S) σ Q := pGfR f_190_11 ow_190 fl_11_11 rfl (by decide) hk
theorem f_190_14 : oFet 190 14 = some (.iconst 0, 1) := by decide +kernel
theorem s_190_14 {d : Nat} {l0 l1 l2 : oV} {S : List oV} {σ : oSg} {Q : Option oV → (Nat → oC) → Prop} : oE d 190 14 [l0, l1, l2] S σ Q = oE d 190 15 [l0, l1, l2] (.inl (0) :: S) σ Q := pKst f_190_14 (by decide)
theorem f_190_15 : oFet 190 15 = some (.iaload, 1) := by decide +kernel
theorem s_190_15 {d : Nat} {l0 l1 l2 : oV} {a : Nat} {i : Int} {S : List oV} {σ : oSg} {Q : Option oV → (Nat → oC) → Prop} (hk : oAk a = some 0) (h0 : 0 ≤ i) (h1 : i < (oLn a : Int)) : oE d 190 15 [l0, l1, l2] (.inl i :: .inr (.inr (.inl a)) :: S) σ Q = oE d 190 16 [l0, l1, l2] (.inl (σ.2 a i.toNat) :: S) σ Q := oIal f_190_15 hk h0 h1
theorem f_190_16 : oFet 190 16 = some (.ishl, 1) := by decide +kernel
theorem s_190_16 {d : Nat} {l0 l1 l2 : oV} {x y : Int} {S : List oV} {σ : oSg} {Q : Option oV → (Nat → oC) → Prop} : oE d 190 16 [l0, l1, l2] (.inl y :: .inl x :: S) σ Q = oE d 190 17 [l0, l1, l2] (.inl (oShl x y) :: S) σ Q := oS3 f_190_16 rfl rfl rfl
theorem f_190_17 : oFet 190 17 = some (.if_icmp .ge 48, 3) := by decide +kernel
theorem s_190_17 {d : Nat} {l0 l1 l2 : oV} {x y : Int} {S : List oV} {σ : oSg} {Q : Option oV → (Nat → oC) → Prop} : oE d 190 17 [l0, l1, l2] (.inl y :: .inl x :: S) σ Q = if y ≤ x then oE d 190 65 [l0, l1, l2] S σ Q else oE d 190 20 [l0, l1, l2] S σ Q := oCmpGe f_190_17 (by decide)
theorem f_190_20 : oFet 190 20 = some (.aload_n 0, 1) := by decide +kernel
theorem s_190_20 {d : Nat} {l1 l2 : oV} {a : Nat} {S : List oV} {σ : oSg} {Q : Option oV → (Nat → oC) → Prop} : oE d 190 20 [.inr (.inr (.inl a)), l1, l2] S σ Q = oE d 190 21 [.inr (.inr (.inl a)), l1, l2] (.inr (.inr (.inl a)) :: S) σ Q := pLdN (k := 0) f_190_20 rfl rfl rfl
theorem f_190_21 : oFet 190 21 = some (.iload_n 2, 1) := by decide +kernel
theorem s_190_21 {d : Nat} {l0 l1 : oV} {x : Int} {S : List oV} {σ : oSg} {Q : Option oV → (Nat → oC) → Prop} : oE d 190 21 [l0, l1, .inl x] S σ Q = oE d 190 22 [l0, l1, .inl x] (.inl x :: S) σ Q := pLdN (k := 2) f_190_21 rfl rfl rfl
theorem f_190_22 : oFet 190 22 = some (.invokevirtual 217, 3) := by decide +kernel
theorem c_190_22 {d : Nat} {l0 l1 l2 : oV} {x0 : oV} {a : Nat} {v : Option oV} {τ : oSg} {S : List oV} {σ : oSg} {Q : Option oV → (Nat → oC) → Prop} (hm : oMi d 191 [.inr (.inr (.inl a)), x0] σ v τ) (hk : oKd a = some 11) (hs : oSmall S = true) : oE d 190 22 [l0, l1, l2] (x0 :: .inr (.inr (.inl a)) :: S) σ Q = oE d 190 25 [l0, l1, l2] (v.toList ++ S) τ Q := pCallV f_190_22 ow_190 lk_11_217 mt_191 rfl rfl rfl hk hs hm
theorem f_190_25 : oFet 190 25 = some (.aload_n 0, 1) := by decide +kernel
theorem s_190_25 {d : Nat} {l1 l2 : oV} {a : Nat} {S : List oV} {σ : oSg} {Q : Option oV → (Nat → oC) → Prop} : oE d 190 25 [.inr (.inr (.inl a)), l1, l2] S σ Q = oE d 190 26 [.inr (.inr (.inl a)), l1, l2] (.inr (.inr (.inl a)) :: S) σ Q := pLdN (k := 0) f_190_25 rfl rfl rfl
theorem f_190_26 : oFet 190 26 = some (.iload_n 1, 1) := by decide +kernel
theorem s_190_26 {d : Nat} {l0 l2 : oV} {x : Int} {S : List oV} {σ : oSg} {Q : Option oV → (Nat → oC) → Prop} : oE d 190 26 [l0, .inl x, l2] S σ Q = oE d 190 27 [l0, .inl x, l2] (.inl x :: S) σ Q := pLdN (k := 1) f_190_26 rfl rfl rfl
theorem f_190_27 : oFet 190 27 = some (.invokevirtual 217, 3) := by decide +kernel
theorem c_190_27 {d : Nat} {l0 l1 l2 : oV} {x0 : oV} {a : Nat} {v : Option oV} {τ : oSg} {S : List oV} {σ : oSg} {Q : Option oV → (Nat → oC) → Prop} (hm : oMi d 191 [.inr (.inr (.inl a)), x0] σ v τ) (hk : oKd a = some 11) (hs : oSmall S = true) : oE d 190 27 [l0, l1, l2] (x0 :: .inr (.inr (.inl a)) :: S) σ Q = oE d 190 30 [l0, l1, l2] (v.toList ++ S) τ Q := pCallV f_190_27 ow_190 lk_11_217 mt_191 rfl rfl rfl hk hs hm
theorem f_190_30 : oFet 190 30 = some (.if_icmp .gt 27, 3) := by decide +kernel
theorem s_190_30 {d : Nat} {l0 l1 l2 : oV} {x y : Int} {S : List oV} {σ : oSg} {Q : Option oV → (Nat → oC) → Prop} : oE d 190 30 [l0, l1, l2] (.inl y :: .inl x :: S) σ Q = if y < x then oE d 190 57 [l0, l1, l2] S σ Q else oE d 190 33 [l0, l1, l2] S σ Q := oCmpGt f_190_30 (by decide)
theorem f_190_33 : oFet 190 33 = some (.aload_n 0, 1) := by decide +kernel
theorem s_190_33 {d : Nat} {l1 l2 : oV} {a : Nat} {S : List oV} {σ : oSg} {Q : Option oV → (Nat → oC) → Prop} : oE d 190 33 [.inr (.inr (.inl a)), l1, l2] S σ Q = oE d 190 34 [.inr (.inr (.inl a)), l1, l2] (.inr (.inr (.inl a)) :: S) σ Q := pLdN (k := 0) f_190_33 rfl rfl rfl
theorem f_190_34 : oFet 190 34 = some (.iload_n 2, 1) := by decide +kernel
theorem s_190_34 {d : Nat} {l0 l1 : oV} {x : Int} {S : List oV} {σ : oSg} {Q : Option oV → (Nat → oC) → Prop} : oE d 190 34 [l0, l1, .inl x] S σ Q = oE d 190 35 [l0, l1, .inl x] (.inl x :: S) σ Q := pLdN (k := 2) f_190_34 rfl rfl rfl
theorem f_190_35 : oFet 190 35 = some (.invokevirtual 217, 3) := by decide +kernel
theorem c_190_35 {d : Nat} {l0 l1 l2 : oV} {x0 : oV} {a : Nat} {v : Option oV} {τ : oSg} {S : List oV} {σ : oSg} {Q : Option oV → (Nat → oC) → Prop} (hm : oMi d 191 [.inr (.inr (.inl a)), x0] σ v τ) (hk : oKd a = some 11) (hs : oSmall S = true) : oE d 190 35 [l0, l1, l2] (x0 :: .inr (.inr (.inl a)) :: S) σ Q = oE d 190 38 [l0, l1, l2] (v.toList ++ S) τ Q := pCallV f_190_35 ow_190 lk_11_217 mt_191 rfl rfl rfl hk hs hm
theorem f_190_38 : oFet 190 38 = some (.aload_n 0, 1) := by decide +kernel
theorem s_190_38 {d : Nat} {l1 l2 : oV} {a : Nat} {S : List oV} {σ : oSg} {Q : Option oV → (Nat → oC) → Prop} : oE d 190 38 [.inr (.inr (.inl a)), l1, l2] S σ Q = oE d 190 39 [.inr (.inr (.inl a)), l1, l2] (.inr (.inr (.inl a)) :: S) σ Q := pLdN (k := 0) f_190_38 rfl rfl rfl
theorem f_190_39 : oFet 190 39 = some (.iload_n 1, 1) := by decide +kernel
theorem s_190_39 {d : Nat} {l0 l2 : oV} {x : Int} {S : List oV} {σ : oSg} {Q : Option oV → (Nat → oC) → Prop} : oE d 190 39 [l0, .inl x, l2] S σ Q = oE d 190 40 [l0, .inl x, l2] (.inl x :: S) σ Q := pLdN (k := 1) f_190_39 rfl rfl rfl
theorem f_190_40 : oFet 190 40 = some (.invokevirtual 217, 3) := by decide +kernel
theorem c_190_40 {d : Nat} {l0 l1 l2 : oV} {x0 : oV} {a : Nat} {v : Option oV} {τ : oSg} {S : List oV} {σ : oSg} {Q : Option oV → (Nat → oC) → Prop} (hm : oMi d 191 [.inr (.inr (.inl a)), x0] σ v τ) (hk : oKd a = some 11) (hs : oSmall S = true) : oE d 190 40 [l0, l1, l2] (x0 :: .inr (.inr (.inl a)) :: S) σ Q = oE d 190 43 [l0, l1, l2] (v.toList ++ S) τ Q := pCallV f_190_40 ow_190 lk_11_217 mt_191 rfl rfl rfl hk hs hm
theorem f_190_43 : oFet 190 43 = some (.if_icmp .ne 16, 3) := by decide +kernel
theorem s_190_43 {d : Nat} {l0 l1 l2 : oV} {x y : Int} {S : List oV} {σ : oSg} {Q : Option oV → (Nat → oC) → Prop} : oE d 190 43 [l0, l1, l2] (.inl y :: .inl x :: S) σ Q = if ¬ x = y then oE d 190 59 [l0, l1, l2] S σ Q else oE d 190 46 [l0, l1, l2] S σ Q := oCmpNe f_190_43 (by decide)
theorem f_190_46 : oFet 190 46 = some (.iload_n 2, 1) := by decide +kernel
theorem s_190_46 {d : Nat} {l0 l1 : oV} {x : Int} {S : List oV} {σ : oSg} {Q : Option oV → (Nat → oC) → Prop} : oE d 190 46 [l0, l1, .inl x] S σ Q = oE d 190 47 [l0, l1, .inl x] (.inl x :: S) σ Q := pLdN (k := 2) f_190_46 rfl rfl rfl
theorem f_190_47 : oFet 190 47 = some (.invokestatic 211, 3) := by decide +kernel
theorem c_190_47 {d : Nat} {l0 l1 l2 : oV} {x0 : oV} {v : Option oV} {τ : oSg} {S : List oV} {σ : oSg} {Q : Option oV → (Nat → oC) → Prop} (hm : oMi d 188 [x0] σ v τ) (hs : oSmall S = true) : oE d 190 47 [l0, l1, l2] (x0 :: S) σ Q = oE d 190 50 [l0, l1, l2] (v.toList ++ S) τ Q := pCallS f_190_47 ow_190 lk_11_211 mt_188 rfl rfl rfl hs hm
theorem f_190_50 : oFet 190 50 = some (.iload_n 1, 1) := by decide +kernel
theorem s_190_50 {d : Nat} {l0 l2 : oV} {x : Int} {S : List oV} {σ : oSg} {Q : Option oV → (Nat → oC) → Prop} : oE d 190 50 [l0, .inl x, l2] S σ Q = oE d 190 51 [l0, .inl x, l2] (.inl x :: S) σ Q := pLdN (k := 1) f_190_50 rfl rfl rfl
theorem f_190_51 : oFet 190 51 = some (.invokestatic 211, 3) := by decide +kernel
theorem c_190_51 {d : Nat} {l0 l1 l2 : oV} {x0 : oV} {v : Option oV} {τ : oSg} {S : List oV} {σ : oSg} {Q : Option oV → (Nat → oC) → Prop} (hm : oMi d 188 [x0] σ v τ) (hs : oSmall S = true) : oE d 190 51 [l0, l1, l2] (x0 :: S) σ Q = oE d 190 54 [l0, l1, l2] (v.toList ++ S) τ Q := pCallS f_190_51 ow_190 lk_11_211 mt_188 rfl rfl rfl hs hm
theorem f_190_54 : oFet 190 54 = some (.if_icmp .ge 5, 3) := by decide +kernel
theorem s_190_54 {d : Nat} {l0 l1 l2 : oV} {x y : Int} {S : List oV} {σ : oSg} {Q : Option oV → (Nat → oC) → Prop} : oE d 190 54 [l0, l1, l2] (.inl y :: .inl x :: S) σ Q = if y ≤ x then oE d 190 59 [l0, l1, l2] S σ Q else oE d 190 57 [l0, l1, l2] S σ Q := oCmpGe f_190_54 (by decide)
theorem f_190_57 : oFet 190 57 = some (.iload_n 2, 1) := by decide +kernel
theorem s_190_57 {d : Nat} {l0 l1 : oV} {x : Int} {S : List oV} {σ : oSg} {Q : Option oV → (Nat → oC) → Prop} : oE d 190 57 [l0, l1, .inl x] S σ Q = oE d 190 58 [l0, l1, .inl x] (.inl x :: S) σ Q := pLdN (k := 2) f_190_57 rfl rfl rfl
theorem f_190_58 : oFet 190 58 = some (.istore_n 1, 1) := by decide +kernel
theorem s_190_58 {d : Nat} {l0 l1 l2 : oV} {x : Int} {S : List oV} {σ : oSg} {Q : Option oV → (Nat → oC) → Prop} (c1 : oCat l1 = 1) (c0 : oCat l0 = 1)  : oE d 190 58 [l0, l1, l2] (.inl x :: S) σ Q = oE d 190 59 [l0, .inl x, l2] S σ Q := pSt (i := 1) f_190_58 rfl rfl (show (1 : Nat) < 3 by decide) (oC1n c0) (oC1n c1) rfl
theorem f_190_59 : oFet 190 59 = some (.iinc 2 1, 3) := by decide +kernel
theorem s_190_59 {d : Nat} {l0 l1 : oV} {x : Int} {S : List oV} {σ : oSg} {Q : Option oV → (Nat → oC) → Prop} (c1 : oCat l1 = 1)  : oE d 190 59 [l0, l1, .inl x] S σ Q = oE d 190 62 [l0, l1, .inl (oAdd x (1))] S σ Q := pInc f_190_59 rfl (show (2 : Nat) < 3 by decide) (oC1n c1) (oC1n (v := .inl x) rfl) rfl
theorem f_190_62 : oFet 190 62 = some (.goto (-54), 3) := by decide +kernel
theorem s_190_62 {d : Nat} {l0 l1 l2 : oV} {S : List oV} {σ : oSg} {Q : Option oV → (Nat → oC) → Prop} : oE d 190 62 [l0, l1, l2] S σ Q = oE d 190 8 [l0, l1, l2] S σ Q := pGoto f_190_62 (by decide)
theorem f_190_65 : oFet 190 65 = some (.iload_n 1, 1) := by decide +kernel
theorem s_190_65 {d : Nat} {l0 l2 : oV} {x : Int} {S : List oV} {σ : oSg} {Q : Option oV → (Nat → oC) → Prop} : oE d 190 65 [l0, .inl x, l2] S σ Q = oE d 190 66 [l0, .inl x, l2] (.inl x :: S) σ Q := pLdN (k := 1) f_190_65 rfl rfl rfl
theorem f_190_66 : oFet 190 66 = some (.ireturn, 1) := by decide +kernel
theorem s_190_66 {d : Nat} {l0 l1 l2 : oV} {x : Int} {σ : oSg} {Q : Option oV → (Nat → oC) → Prop} : oE d 190 66 [l0, l1, l2] [.inl x] σ Q = Q (some (.inl x)) (oBld σ) := oIret f_190_66 rt_190
theorem ow_191 : (oMt 191).2.2.2.2.1 = 11 := by decide +kernel
theorem rt_191 : (oMt 191).2.2.2.1 = some .int := by decide +kernel
theorem nl_191 : (oMt 191).2.2.1 = 2 := by decide +kernel
theorem f_191_0 : oFet 191 0 = some (.aload_n 0, 1) := by decide +kernel
theorem s_191_0 {d : Nat} {l1 : oV} {a : Nat} {S : List oV} {σ : oSg} {Q : Option oV → (Nat → oC) → Prop} : oE d 191 0 [.inr (.inr (.inl a)), l1] S σ Q = oE d 191 1 [.inr (.inr (.inl a)), l1] (.inr (.inr (.inl a)) :: S) σ Q := pLdN (k := 0) f_191_0 rfl rfl rfl
theorem f_191_1 : oFet 191 1 = some (.iconst 1, 1) := by decide +kernel
theorem s_191_1 {d : Nat} {l0 l1 : oV} {S : List oV} {σ : oSg} {Q : Option oV → (Nat → oC) → Prop} : oE d 191 1 [l0, l1] S σ Q = oE d 191 2 [l0, l1] (.inl (1) :: S) σ Q := pKst f_191_1 (by decide)
theorem f_191_2 : oFet 191 2 = some (.aload_n 0, 1) := by decide +kernel
theorem s_191_2 {d : Nat} {l1 : oV} {a : Nat} {S : List oV} {σ : oSg} {Q : Option oV → (Nat → oC) → Prop} : oE d 191 2 [.inr (.inr (.inl a)), l1] S σ Q = oE d 191 3 [.inr (.inr (.inl a)), l1] (.inr (.inr (.inl a)) :: S) σ Q := pLdN (k := 0) f_191_2 rfl rfl rfl
theorem f_191_3 : oFet 191 3 = some (.getfield 11, 3) := by decide +kernel
theorem s_191_3 {d : Nat} {l0 l1 : oV} {a : Nat} {S : List oV} {σ : oSg} {Q : Option oV → (Nat → oC) → Prop} (hk : oKd a = some 11) : oE d 191 3 [l0, l1] (.inr (.inr (.inl a)) :: S) σ Q = oE d 191 6 [l0, l1] (.inr (.inr (.inl (oRf a 0))) :: S) σ Q := pGfR f_191_3 ow_191 fl_11_11 rfl (by decide) hk
theorem f_191_6 : oFet 191 6 = some (.iconst 0, 1) := by decide +kernel
theorem s_191_6 {d : Nat} {l0 l1 : oV} {S : List oV} {σ : oSg} {Q : Option oV → (Nat → oC) → Prop} : oE d 191 6 [l0, l1] S σ Q = oE d 191 7 [l0, l1] (.inl (0) :: S) σ Q := pKst f_191_6 (by decide)
theorem f_191_7 : oFet 191 7 = some (.iaload, 1) := by decide +kernel
theorem s_191_7 {d : Nat} {l0 l1 : oV} {a : Nat} {i : Int} {S : List oV} {σ : oSg} {Q : Option oV → (Nat → oC) → Prop} (hk : oAk a = some 0) (h0 : 0 ≤ i) (h1 : i < (oLn a : Int)) : oE d 191 7 [l0, l1] (.inl i :: .inr (.inr (.inl a)) :: S) σ Q = oE d 191 8 [l0, l1] (.inl (σ.2 a i.toNat) :: S) σ Q := oIal f_191_7 hk h0 h1
theorem f_191_8 : oFet 191 8 = some (.ishl, 1) := by decide +kernel
theorem s_191_8 {d : Nat} {l0 l1 : oV} {x y : Int} {S : List oV} {σ : oSg} {Q : Option oV → (Nat → oC) → Prop} : oE d 191 8 [l0, l1] (.inl y :: .inl x :: S) σ Q = oE d 191 9 [l0, l1] (.inl (oShl x y) :: S) σ Q := oS3 f_191_8 rfl rfl rfl
theorem f_191_9 : oFet 191 9 = some (.iconst 1, 1) := by decide +kernel
theorem s_191_9 {d : Nat} {l0 l1 : oV} {S : List oV} {σ : oSg} {Q : Option oV → (Nat → oC) → Prop} : oE d 191 9 [l0, l1] S σ Q = oE d 191 10 [l0, l1] (.inl (1) :: S) σ Q := pKst f_191_9 (by decide)
theorem f_191_10 : oFet 191 10 = some (.isub, 1) := by decide +kernel
theorem s_191_10 {d : Nat} {l0 l1 : oV} {x y : Int} {S : List oV} {σ : oSg} {Q : Option oV → (Nat → oC) → Prop} : oE d 191 10 [l0, l1] (.inl y :: .inl x :: S) σ Q = oE d 191 11 [l0, l1] (.inl (oSub x y) :: S) σ Q := oS3 f_191_10 rfl rfl rfl
theorem f_191_11 : oFet 191 11 = some (.iload_n 1, 1) := by decide +kernel
theorem s_191_11 {d : Nat} {l0 : oV} {x : Int} {S : List oV} {σ : oSg} {Q : Option oV → (Nat → oC) → Prop} : oE d 191 11 [l0, .inl x] S σ Q = oE d 191 12 [l0, .inl x] (.inl x :: S) σ Q := pLdN (k := 1) f_191_11 rfl rfl rfl
theorem f_191_12 : oFet 191 12 = some (.iconst (-1), 1) := by decide +kernel
theorem s_191_12 {d : Nat} {l0 l1 : oV} {S : List oV} {σ : oSg} {Q : Option oV → (Nat → oC) → Prop} : oE d 191 12 [l0, l1] S σ Q = oE d 191 13 [l0, l1] (.inl (-1) :: S) σ Q := pKst f_191_12 (by decide)
theorem f_191_13 : oFet 191 13 = some (.ixor, 1) := by decide +kernel
theorem s_191_13 {d : Nat} {l0 l1 : oV} {x y : Int} {S : List oV} {σ : oSg} {Q : Option oV → (Nat → oC) → Prop} : oE d 191 13 [l0, l1] (.inl y :: .inl x :: S) σ Q = oE d 191 14 [l0, l1] (.inl (oXor x y) :: S) σ Q := oS3 f_191_13 rfl rfl rfl
theorem f_191_14 : oFet 191 14 = some (.iand, 1) := by decide +kernel
theorem s_191_14 {d : Nat} {l0 l1 : oV} {x y : Int} {S : List oV} {σ : oSg} {Q : Option oV → (Nat → oC) → Prop} : oE d 191 14 [l0, l1] (.inl y :: .inl x :: S) σ Q = oE d 191 15 [l0, l1] (.inl (oAnd x y) :: S) σ Q := oS3 f_191_14 rfl rfl rfl
theorem f_191_15 : oFet 191 15 = some (.invokevirtual 214, 3) := by decide +kernel
theorem c_191_15 {d : Nat} {l0 l1 : oV} {x0 : oV} {a : Nat} {v : Option oV} {τ : oSg} {S : List oV} {σ : oSg} {Q : Option oV → (Nat → oC) → Prop} (hm : oMi d 192 [.inr (.inr (.inl a)), x0] σ v τ) (hk : oKd a = some 11) (hs : oSmall S = true) : oE d 191 15 [l0, l1] (x0 :: .inr (.inr (.inl a)) :: S) σ Q = oE d 191 18 [l0, l1] (v.toList ++ S) τ Q := pCallV f_191_15 ow_191 lk_11_214 mt_192 rfl rfl rfl hk hs hm
theorem f_191_18 : oFet 191 18 = some (.iload_n 1, 1) := by decide +kernel
theorem s_191_18 {d : Nat} {l0 : oV} {x : Int} {S : List oV} {σ : oSg} {Q : Option oV → (Nat → oC) → Prop} : oE d 191 18 [l0, .inl x] S σ Q = oE d 191 19 [l0, .inl x] (.inl x :: S) σ Q := pLdN (k := 1) f_191_18 rfl rfl rfl
theorem f_191_19 : oFet 191 19 = some (.invokestatic 211, 3) := by decide +kernel
theorem c_191_19 {d : Nat} {l0 l1 : oV} {x0 : oV} {v : Option oV} {τ : oSg} {S : List oV} {σ : oSg} {Q : Option oV → (Nat → oC) → Prop} (hm : oMi d 188 [x0] σ v τ) (hs : oSmall S = true) : oE d 191 19 [l0, l1] (x0 :: S) σ Q = oE d 191 22 [l0, l1] (v.toList ++ S) τ Q := pCallS f_191_19 ow_191 lk_11_211 mt_188 rfl rfl rfl hs hm
theorem f_191_22 : oFet 191 22 = some (.isub, 1) := by decide +kernel
theorem s_191_22 {d : Nat} {l0 l1 : oV} {x y : Int} {S : List oV} {σ : oSg} {Q : Option oV → (Nat → oC) → Prop} : oE d 191 22 [l0, l1] (.inl y :: .inl x :: S) σ Q = oE d 191 23 [l0, l1] (.inl (oSub x y) :: S) σ Q := oS3 f_191_22 rfl rfl rfl
theorem f_191_23 : oFet 191 23 = some (.ireturn, 1) := by decide +kernel
theorem s_191_23 {d : Nat} {l0 l1 : oV} {x : Int} {σ : oSg} {Q : Option oV → (Nat → oC) → Prop} : oE d 191 23 [l0, l1] [.inl x] σ Q = Q (some (.inl x)) (oBld σ) := oIret f_191_23 rt_191
theorem ow_192 : (oMt 192).2.2.2.2.1 = 11 := by decide +kernel
theorem rt_192 : (oMt 192).2.2.2.1 = some .int := by decide +kernel
theorem nl_192 : (oMt 192).2.2.1 = 7 := by decide +kernel
theorem f_192_0 : oFet 192 0 = some (.iconst 0, 1) := by decide +kernel
theorem s_192_0 {d : Nat} {l0 l1 l2 l3 l4 l5 l6 : oV} {S : List oV} {σ : oSg} {Q : Option oV → (Nat → oC) → Prop} : oE d 192 0 [l0, l1, l2, l3, l4, l5, l6] S σ Q = oE d 192 1 [l0, l1, l2, l3, l4, l5, l6] (.inl (0) :: S) σ Q := pKst f_192_0 (by decide)
theorem f_192_1 : oFet 192 1 = some (.istore_n 2, 1) := by decide +kernel
theorem s_192_1 {d : Nat} {l0 l1 l2 l3 l4 l5 l6 : oV} {x : Int} {S : List oV} {σ : oSg} {Q : Option oV → (Nat → oC) → Prop} (c2 : oCat l2 = 1) (c1 : oCat l1 = 1)  : oE d 192 1 [l0, l1, l2, l3, l4, l5, l6] (.inl x :: S) σ Q = oE d 192 2 [l0, l1, .inl x, l3, l4, l5, l6] S σ Q := pSt (i := 2) f_192_1 rfl rfl (show (2 : Nat) < 7 by decide) (oC1n c1) (oC1n c2) rfl
theorem f_192_2 : oFet 192 2 = some (.iload_n 1, 1) := by decide +kernel
theorem s_192_2 {d : Nat} {l0 l2 l3 l4 l5 l6 : oV} {x : Int} {S : List oV} {σ : oSg} {Q : Option oV → (Nat → oC) → Prop} : oE d 192 2 [l0, .inl x, l2, l3, l4, l5, l6] S σ Q = oE d 192 3 [l0, .inl x, l2, l3, l4, l5, l6] (.inl x :: S) σ Q := pLdN (k := 1) f_192_2 rfl rfl rfl
theorem f_192_3 : oFet 192 3 = some (.istore_n 3, 1) := by decide +kernel
theorem s_192_3 {d : Nat} {l0 l1 l2 l3 l4 l5 l6 : oV} {x : Int} {S : List oV} {σ : oSg} {Q : Option oV → (Nat → oC) → Prop} (c3 : oCat l3 = 1) (c2 : oCat l2 = 1)  : oE d 192 3 [l0, l1, l2, l3, l4, l5, l6] (.inl x :: S) σ Q = oE d 192 4 [l0, l1, l2, .inl x, l4, l5, l6] S σ Q := pSt (i := 3) f_192_3 rfl rfl (show (3 : Nat) < 7 by decide) (oC1n c2) (oC1n c3) rfl
theorem f_192_4 : oFet 192 4 = some (.iload_n 3, 1) := by decide +kernel
theorem s_192_4 {d : Nat} {l0 l1 l2 l4 l5 l6 : oV} {x : Int} {S : List oV} {σ : oSg} {Q : Option oV → (Nat → oC) → Prop} : oE d 192 4 [l0, l1, l2, .inl x, l4, l5, l6] S σ Q = oE d 192 5 [l0, l1, l2, .inl x, l4, l5, l6] (.inl x :: S) σ Q := pLdN (k := 3) f_192_4 rfl rfl rfl
theorem f_192_5 : oFet 192 5 = some (.ifCond .eq 91, 3) := by decide +kernel
theorem s_192_5 {d : Nat} {l0 l1 l2 l3 l4 l5 l6 : oV} {x : Int} {S : List oV} {σ : oSg} {Q : Option oV → (Nat → oC) → Prop} : oE d 192 5 [l0, l1, l2, l3, l4, l5, l6] (.inl x :: S) σ Q = if x = 0 then oE d 192 96 [l0, l1, l2, l3, l4, l5, l6] S σ Q else oE d 192 8 [l0, l1, l2, l3, l4, l5, l6] S σ Q := oIfEq f_192_5 (by decide)
theorem f_192_8 : oFet 192 8 = some (.iload_n 3, 1) := by decide +kernel
theorem s_192_8 {d : Nat} {l0 l1 l2 l4 l5 l6 : oV} {x : Int} {S : List oV} {σ : oSg} {Q : Option oV → (Nat → oC) → Prop} : oE d 192 8 [l0, l1, l2, .inl x, l4, l5, l6] S σ Q = oE d 192 9 [l0, l1, l2, .inl x, l4, l5, l6] (.inl x :: S) σ Q := pLdN (k := 3) f_192_8 rfl rfl rfl
theorem f_192_9 : oFet 192 9 = some (.iload_n 3, 1) := by decide +kernel
theorem s_192_9 {d : Nat} {l0 l1 l2 l4 l5 l6 : oV} {x : Int} {S : List oV} {σ : oSg} {Q : Option oV → (Nat → oC) → Prop} : oE d 192 9 [l0, l1, l2, .inl x, l4, l5, l6] S σ Q = oE d 192 10 [l0, l1, l2, .inl x, l4, l5, l6] (.inl x :: S) σ Q := pLdN (k := 3) f_192_9 rfl rfl rfl
theorem f_192_10 : oFet 192 10 = some (.ineg, 1) := by decide +kernel
theorem s_192_10 {d : Nat} {l0 l1 l2 l3 l4 l5 l6 : oV} {x : Int} {S : List oV} {σ : oSg} {Q : Option oV → (Nat → oC) → Prop} : oE d 192 10 [l0, l1, l2, l3, l4, l5, l6] (.inl x :: S) σ Q = oE d 192 11 [l0, l1, l2, l3, l4, l5, l6] (.inl (oNeg x) :: S) σ Q := oS3 f_192_10 rfl rfl rfl
theorem f_192_11 : oFet 192 11 = some (.iand, 1) := by decide +kernel
theorem s_192_11 {d : Nat} {l0 l1 l2 l3 l4 l5 l6 : oV} {x y : Int} {S : List oV} {σ : oSg} {Q : Option oV → (Nat → oC) → Prop} : oE d 192 11 [l0, l1, l2, l3, l4, l5, l6] (.inl y :: .inl x :: S) σ Q = oE d 192 12 [l0, l1, l2, l3, l4, l5, l6] (.inl (oAnd x y) :: S) σ Q := oS3 f_192_11 rfl rfl rfl
theorem f_192_12 : oFet 192 12 = some (.istore 4, 2) := by decide +kernel
theorem s_192_12 {d : Nat} {l0 l1 l2 l3 l4 l5 l6 : oV} {x : Int} {S : List oV} {σ : oSg} {Q : Option oV → (Nat → oC) → Prop} (c4 : oCat l4 = 1) (c3 : oCat l3 = 1)  : oE d 192 12 [l0, l1, l2, l3, l4, l5, l6] (.inl x :: S) σ Q = oE d 192 14 [l0, l1, l2, l3, .inl x, l5, l6] S σ Q := pSt (i := 4) f_192_12 rfl rfl (show (4 : Nat) < 7 by decide) (oC1n c3) (oC1n c4) rfl
theorem f_192_14 : oFet 192 14 = some (.iconst 0, 1) := by decide +kernel
theorem s_192_14 {d : Nat} {l0 l1 l2 l3 l4 l5 l6 : oV} {S : List oV} {σ : oSg} {Q : Option oV → (Nat → oC) → Prop} : oE d 192 14 [l0, l1, l2, l3, l4, l5, l6] S σ Q = oE d 192 15 [l0, l1, l2, l3, l4, l5, l6] (.inl (0) :: S) σ Q := pKst f_192_14 (by decide)
theorem f_192_15 : oFet 192 15 = some (.istore 5, 2) := by decide +kernel
theorem s_192_15 {d : Nat} {l0 l1 l2 l3 l4 l5 l6 : oV} {x : Int} {S : List oV} {σ : oSg} {Q : Option oV → (Nat → oC) → Prop} (c5 : oCat l5 = 1) (c4 : oCat l4 = 1)  : oE d 192 15 [l0, l1, l2, l3, l4, l5, l6] (.inl x :: S) σ Q = oE d 192 17 [l0, l1, l2, l3, l4, .inl x, l6] S σ Q := pSt (i := 5) f_192_15 rfl rfl (show (5 : Nat) < 7 by decide) (oC1n c4) (oC1n c5) rfl
theorem f_192_17 : oFet 192 17 = some (.iload 4, 2) := by decide +kernel
theorem s_192_17 {d : Nat} {l0 l1 l2 l3 l5 l6 : oV} {x : Int} {S : List oV} {σ : oSg} {Q : Option oV → (Nat → oC) → Prop} : oE d 192 17 [l0, l1, l2, l3, .inl x, l5, l6] S σ Q = oE d 192 19 [l0, l1, l2, l3, .inl x, l5, l6] (.inl x :: S) σ Q := pLd (i := 4) f_192_17 rfl rfl rfl
theorem f_192_19 : oFet 192 19 = some (.iload 5, 2) := by decide +kernel
theorem s_192_19 {d : Nat} {l0 l1 l2 l3 l4 l6 : oV} {x : Int} {S : List oV} {σ : oSg} {Q : Option oV → (Nat → oC) → Prop} : oE d 192 19 [l0, l1, l2, l3, l4, .inl x, l6] S σ Q = oE d 192 21 [l0, l1, l2, l3, l4, .inl x, l6] (.inl x :: S) σ Q := pLd (i := 5) f_192_19 rfl rfl rfl
theorem f_192_21 : oFet 192 21 = some (.if_icmp .eq 51, 3) := by decide +kernel
theorem s_192_21 {d : Nat} {l0 l1 l2 l3 l4 l5 l6 : oV} {x y : Int} {S : List oV} {σ : oSg} {Q : Option oV → (Nat → oC) → Prop} : oE d 192 21 [l0, l1, l2, l3, l4, l5, l6] (.inl y :: .inl x :: S) σ Q = if x = y then oE d 192 72 [l0, l1, l2, l3, l4, l5, l6] S σ Q else oE d 192 24 [l0, l1, l2, l3, l4, l5, l6] S σ Q := oCmpEq f_192_21 (by decide)
theorem f_192_24 : oFet 192 24 = some (.iload 4, 2) := by decide +kernel
theorem s_192_24 {d : Nat} {l0 l1 l2 l3 l5 l6 : oV} {x : Int} {S : List oV} {σ : oSg} {Q : Option oV → (Nat → oC) → Prop} : oE d 192 24 [l0, l1, l2, l3, .inl x, l5, l6] S σ Q = oE d 192 26 [l0, l1, l2, l3, .inl x, l5, l6] (.inl x :: S) σ Q := pLd (i := 4) f_192_24 rfl rfl rfl
theorem f_192_26 : oFet 192 26 = some (.istore 5, 2) := by decide +kernel
theorem s_192_26 {d : Nat} {l0 l1 l2 l3 l4 l5 l6 : oV} {x : Int} {S : List oV} {σ : oSg} {Q : Option oV → (Nat → oC) → Prop} (c5 : oCat l5 = 1) (c4 : oCat l4 = 1)  : oE d 192 26 [l0, l1, l2, l3, l4, l5, l6] (.inl x :: S) σ Q = oE d 192 28 [l0, l1, l2, l3, l4, .inl x, l6] S σ Q := pSt (i := 5) f_192_26 rfl rfl (show (5 : Nat) < 7 by decide) (oC1n c4) (oC1n c5) rfl
theorem f_192_28 : oFet 192 28 = some (.iconst 0, 1) := by decide +kernel
theorem s_192_28 {d : Nat} {l0 l1 l2 l3 l4 l5 l6 : oV} {S : List oV} {σ : oSg} {Q : Option oV → (Nat → oC) → Prop} : oE d 192 28 [l0, l1, l2, l3, l4, l5, l6] S σ Q = oE d 192 29 [l0, l1, l2, l3, l4, l5, l6] (.inl (0) :: S) σ Q := pKst f_192_28 (by decide)
theorem f_192_29 : oFet 192 29 = some (.istore 6, 2) := by decide +kernel
theorem s_192_29 {d : Nat} {l0 l1 l2 l3 l4 l5 l6 : oV} {x : Int} {S : List oV} {σ : oSg} {Q : Option oV → (Nat → oC) → Prop} (c6 : oCat l6 = 1) (c5 : oCat l5 = 1)  : oE d 192 29 [l0, l1, l2, l3, l4, l5, l6] (.inl x :: S) σ Q = oE d 192 31 [l0, l1, l2, l3, l4, l5, .inl x] S σ Q := pSt (i := 6) f_192_29 rfl rfl (show (6 : Nat) < 7 by decide) (oC1n c5) (oC1n c6) rfl
theorem f_192_31 : oFet 192 31 = some (.iload 6, 2) := by decide +kernel
theorem s_192_31 {d : Nat} {l0 l1 l2 l3 l4 l5 : oV} {x : Int} {S : List oV} {σ : oSg} {Q : Option oV → (Nat → oC) → Prop} : oE d 192 31 [l0, l1, l2, l3, l4, l5, .inl x] S σ Q = oE d 192 33 [l0, l1, l2, l3, l4, l5, .inl x] (.inl x :: S) σ Q := pLd (i := 6) f_192_31 rfl rfl rfl
theorem f_192_33 : oFet 192 33 = some (.bipush 7, 2) := by decide +kernel
theorem s_192_33 {d : Nat} {l0 l1 l2 l3 l4 l5 l6 : oV} {S : List oV} {σ : oSg} {Q : Option oV → (Nat → oC) → Prop} : oE d 192 33 [l0, l1, l2, l3, l4, l5, l6] S σ Q = oE d 192 35 [l0, l1, l2, l3, l4, l5, l6] (.inl (7) :: S) σ Q := pBip f_192_33 (by decide)
theorem f_192_35 : oFet 192 35 = some (.if_icmp .ge 34, 3) := by decide +kernel
theorem s_192_35 {d : Nat} {l0 l1 l2 l3 l4 l5 l6 : oV} {x y : Int} {S : List oV} {σ : oSg} {Q : Option oV → (Nat → oC) → Prop} : oE d 192 35 [l0, l1, l2, l3, l4, l5, l6] (.inl y :: .inl x :: S) σ Q = if y ≤ x then oE d 192 69 [l0, l1, l2, l3, l4, l5, l6] S σ Q else oE d 192 38 [l0, l1, l2, l3, l4, l5, l6] S σ Q := oCmpGe f_192_35 (by decide)
theorem f_192_38 : oFet 192 38 = some (.iload 5, 2) := by decide +kernel
theorem s_192_38 {d : Nat} {l0 l1 l2 l3 l4 l6 : oV} {x : Int} {S : List oV} {σ : oSg} {Q : Option oV → (Nat → oC) → Prop} : oE d 192 38 [l0, l1, l2, l3, l4, .inl x, l6] S σ Q = oE d 192 40 [l0, l1, l2, l3, l4, .inl x, l6] (.inl x :: S) σ Q := pLd (i := 5) f_192_38 rfl rfl rfl
theorem f_192_40 : oFet 192 40 = some (.iload 6, 2) := by decide +kernel
theorem s_192_40 {d : Nat} {l0 l1 l2 l3 l4 l5 : oV} {x : Int} {S : List oV} {σ : oSg} {Q : Option oV → (Nat → oC) → Prop} : oE d 192 40 [l0, l1, l2, l3, l4, l5, .inl x] S σ Q = oE d 192 42 [l0, l1, l2, l3, l4, l5, .inl x] (.inl x :: S) σ Q := pLd (i := 6) f_192_40 rfl rfl rfl
theorem f_192_42 : oFet 192 42 = some (.ishr, 1) := by decide +kernel
theorem s_192_42 {d : Nat} {l0 l1 l2 l3 l4 l5 l6 : oV} {x y : Int} {S : List oV} {σ : oSg} {Q : Option oV → (Nat → oC) → Prop} : oE d 192 42 [l0, l1, l2, l3, l4, l5, l6] (.inl y :: .inl x :: S) σ Q = oE d 192 43 [l0, l1, l2, l3, l4, l5, l6] (.inl (oShr x y) :: S) σ Q := oS3 f_192_42 rfl rfl rfl
theorem f_192_43 : oFet 192 43 = some (.iconst 1, 1) := by decide +kernel
theorem s_192_43 {d : Nat} {l0 l1 l2 l3 l4 l5 l6 : oV} {S : List oV} {σ : oSg} {Q : Option oV → (Nat → oC) → Prop} : oE d 192 43 [l0, l1, l2, l3, l4, l5, l6] S σ Q = oE d 192 44 [l0, l1, l2, l3, l4, l5, l6] (.inl (1) :: S) σ Q := pKst f_192_43 (by decide)
theorem f_192_44 : oFet 192 44 = some (.iand, 1) := by decide +kernel
theorem s_192_44 {d : Nat} {l0 l1 l2 l3 l4 l5 l6 : oV} {x y : Int} {S : List oV} {σ : oSg} {Q : Option oV → (Nat → oC) → Prop} : oE d 192 44 [l0, l1, l2, l3, l4, l5, l6] (.inl y :: .inl x :: S) σ Q = oE d 192 45 [l0, l1, l2, l3, l4, l5, l6] (.inl (oAnd x y) :: S) σ Q := oS3 f_192_44 rfl rfl rfl
theorem f_192_45 : oFet 192 45 = some (.iconst 1, 1) := by decide +kernel
theorem s_192_45 {d : Nat} {l0 l1 l2 l3 l4 l5 l6 : oV} {S : List oV} {σ : oSg} {Q : Option oV → (Nat → oC) → Prop} : oE d 192 45 [l0, l1, l2, l3, l4, l5, l6] S σ Q = oE d 192 46 [l0, l1, l2, l3, l4, l5, l6] (.inl (1) :: S) σ Q := pKst f_192_45 (by decide)
theorem f_192_46 : oFet 192 46 = some (.if_icmp .ne 17, 3) := by decide +kernel
theorem s_192_46 {d : Nat} {l0 l1 l2 l3 l4 l5 l6 : oV} {x y : Int} {S : List oV} {σ : oSg} {Q : Option oV → (Nat → oC) → Prop} : oE d 192 46 [l0, l1, l2, l3, l4, l5, l6] (.inl y :: .inl x :: S) σ Q = if ¬ x = y then oE d 192 63 [l0, l1, l2, l3, l4, l5, l6] S σ Q else oE d 192 49 [l0, l1, l2, l3, l4, l5, l6] S σ Q := oCmpNe f_192_46 (by decide)
theorem f_192_49 : oFet 192 49 = some (.iload 4, 2) := by decide +kernel
theorem s_192_49 {d : Nat} {l0 l1 l2 l3 l5 l6 : oV} {x : Int} {S : List oV} {σ : oSg} {Q : Option oV → (Nat → oC) → Prop} : oE d 192 49 [l0, l1, l2, l3, .inl x, l5, l6] S σ Q = oE d 192 51 [l0, l1, l2, l3, .inl x, l5, l6] (.inl x :: S) σ Q := pLd (i := 4) f_192_49 rfl rfl rfl
theorem f_192_51 : oFet 192 51 = some (.aload_n 0, 1) := by decide +kernel
theorem s_192_51 {d : Nat} {l1 l2 l3 l4 l5 l6 : oV} {a : Nat} {S : List oV} {σ : oSg} {Q : Option oV → (Nat → oC) → Prop} : oE d 192 51 [.inr (.inr (.inl a)), l1, l2, l3, l4, l5, l6] S σ Q = oE d 192 52 [.inr (.inr (.inl a)), l1, l2, l3, l4, l5, l6] (.inr (.inr (.inl a)) :: S) σ Q := pLdN (k := 0) f_192_51 rfl rfl rfl
theorem f_192_52 : oFet 192 52 = some (.getfield 36, 3) := by decide +kernel
theorem s_192_52 {d : Nat} {l0 l1 l2 l3 l4 l5 l6 : oV} {a : Nat} {S : List oV} {σ : oSg} {Q : Option oV → (Nat → oC) → Prop} (hk : oKd a = some 11) : oE d 192 52 [l0, l1, l2, l3, l4, l5, l6] (.inr (.inr (.inl a)) :: S) σ Q = oE d 192 55 [l0, l1, l2, l3, l4, l5, l6] (.inr (.inr (.inl (oRf a 18))) :: S) σ Q := pGfR f_192_52 ow_192 fl_11_36 rfl (by decide) hk
theorem f_192_55 : oFet 192 55 = some (.iload 6, 2) := by decide +kernel
theorem s_192_55 {d : Nat} {l0 l1 l2 l3 l4 l5 : oV} {x : Int} {S : List oV} {σ : oSg} {Q : Option oV → (Nat → oC) → Prop} : oE d 192 55 [l0, l1, l2, l3, l4, l5, .inl x] S σ Q = oE d 192 57 [l0, l1, l2, l3, l4, l5, .inl x] (.inl x :: S) σ Q := pLd (i := 6) f_192_55 rfl rfl rfl
theorem f_192_57 : oFet 192 57 = some (.iaload, 1) := by decide +kernel
theorem s_192_57 {d : Nat} {l0 l1 l2 l3 l4 l5 l6 : oV} {a : Nat} {i : Int} {S : List oV} {σ : oSg} {Q : Option oV → (Nat → oC) → Prop} (hk : oAk a = some 0) (h0 : 0 ≤ i) (h1 : i < (oLn a : Int)) : oE d 192 57 [l0, l1, l2, l3, l4, l5, l6] (.inl i :: .inr (.inr (.inl a)) :: S) σ Q = oE d 192 58 [l0, l1, l2, l3, l4, l5, l6] (.inl (σ.2 a i.toNat) :: S) σ Q := oIal f_192_57 hk h0 h1
theorem f_192_58 : oFet 192 58 = some (.iload_n 1, 1) := by decide +kernel
theorem s_192_58 {d : Nat} {l0 l2 l3 l4 l5 l6 : oV} {x : Int} {S : List oV} {σ : oSg} {Q : Option oV → (Nat → oC) → Prop} : oE d 192 58 [l0, .inl x, l2, l3, l4, l5, l6] S σ Q = oE d 192 59 [l0, .inl x, l2, l3, l4, l5, l6] (.inl x :: S) σ Q := pLdN (k := 1) f_192_58 rfl rfl rfl
theorem f_192_59 : oFet 192 59 = some (.iand, 1) := by decide +kernel
theorem s_192_59 {d : Nat} {l0 l1 l2 l3 l4 l5 l6 : oV} {x y : Int} {S : List oV} {σ : oSg} {Q : Option oV → (Nat → oC) → Prop} : oE d 192 59 [l0, l1, l2, l3, l4, l5, l6] (.inl y :: .inl x :: S) σ Q = oE d 192 60 [l0, l1, l2, l3, l4, l5, l6] (.inl (oAnd x y) :: S) σ Q := oS3 f_192_59 rfl rfl rfl
theorem f_192_60 : oFet 192 60 = some (.ior, 1) := by decide +kernel
theorem s_192_60 {d : Nat} {l0 l1 l2 l3 l4 l5 l6 : oV} {x y : Int} {S : List oV} {σ : oSg} {Q : Option oV → (Nat → oC) → Prop} : oE d 192 60 [l0, l1, l2, l3, l4, l5, l6] (.inl y :: .inl x :: S) σ Q = oE d 192 61 [l0, l1, l2, l3, l4, l5, l6] (.inl (oOr x y) :: S) σ Q := oS3 f_192_60 rfl rfl rfl
theorem f_192_61 : oFet 192 61 = some (.istore 4, 2) := by decide +kernel
theorem s_192_61 {d : Nat} {l0 l1 l2 l3 l4 l5 l6 : oV} {x : Int} {S : List oV} {σ : oSg} {Q : Option oV → (Nat → oC) → Prop} (c4 : oCat l4 = 1) (c3 : oCat l3 = 1)  : oE d 192 61 [l0, l1, l2, l3, l4, l5, l6] (.inl x :: S) σ Q = oE d 192 63 [l0, l1, l2, l3, .inl x, l5, l6] S σ Q := pSt (i := 4) f_192_61 rfl rfl (show (4 : Nat) < 7 by decide) (oC1n c3) (oC1n c4) rfl
theorem f_192_63 : oFet 192 63 = some (.iinc 6 1, 3) := by decide +kernel
theorem s_192_63 {d : Nat} {l0 l1 l2 l3 l4 l5 : oV} {x : Int} {S : List oV} {σ : oSg} {Q : Option oV → (Nat → oC) → Prop} (c5 : oCat l5 = 1)  : oE d 192 63 [l0, l1, l2, l3, l4, l5, .inl x] S σ Q = oE d 192 66 [l0, l1, l2, l3, l4, l5, .inl (oAdd x (1))] S σ Q := pInc f_192_63 rfl (show (6 : Nat) < 7 by decide) (oC1n c5) (oC1n (v := .inl x) rfl) rfl
theorem f_192_66 : oFet 192 66 = some (.goto (-35), 3) := by decide +kernel
theorem s_192_66 {d : Nat} {l0 l1 l2 l3 l4 l5 l6 : oV} {S : List oV} {σ : oSg} {Q : Option oV → (Nat → oC) → Prop} : oE d 192 66 [l0, l1, l2, l3, l4, l5, l6] S σ Q = oE d 192 31 [l0, l1, l2, l3, l4, l5, l6] S σ Q := pGoto f_192_66 (by decide)
theorem f_192_69 : oFet 192 69 = some (.goto (-52), 3) := by decide +kernel
theorem s_192_69 {d : Nat} {l0 l1 l2 l3 l4 l5 l6 : oV} {S : List oV} {σ : oSg} {Q : Option oV → (Nat → oC) → Prop} : oE d 192 69 [l0, l1, l2, l3, l4, l5, l6] S σ Q = oE d 192 17 [l0, l1, l2, l3, l4, l5, l6] S σ Q := pGoto f_192_69 (by decide)
theorem f_192_72 : oFet 192 72 = some (.iload 4, 2) := by decide +kernel
theorem s_192_72 {d : Nat} {l0 l1 l2 l3 l5 l6 : oV} {x : Int} {S : List oV} {σ : oSg} {Q : Option oV → (Nat → oC) → Prop} : oE d 192 72 [l0, l1, l2, l3, .inl x, l5, l6] S σ Q = oE d 192 74 [l0, l1, l2, l3, .inl x, l5, l6] (.inl x :: S) σ Q := pLd (i := 4) f_192_72 rfl rfl rfl
theorem f_192_74 : oFet 192 74 = some (.invokestatic 211, 3) := by decide +kernel
theorem c_192_74 {d : Nat} {l0 l1 l2 l3 l4 l5 l6 : oV} {x0 : oV} {v : Option oV} {τ : oSg} {S : List oV} {σ : oSg} {Q : Option oV → (Nat → oC) → Prop} (hm : oMi d 188 [x0] σ v τ) (hs : oSmall S = true) : oE d 192 74 [l0, l1, l2, l3, l4, l5, l6] (x0 :: S) σ Q = oE d 192 77 [l0, l1, l2, l3, l4, l5, l6] (v.toList ++ S) τ Q := pCallS f_192_74 ow_192 lk_11_211 mt_188 rfl rfl rfl hs hm
theorem f_192_77 : oFet 192 77 = some (.iconst 2, 1) := by decide +kernel
theorem s_192_77 {d : Nat} {l0 l1 l2 l3 l4 l5 l6 : oV} {S : List oV} {σ : oSg} {Q : Option oV → (Nat → oC) → Prop} : oE d 192 77 [l0, l1, l2, l3, l4, l5, l6] S σ Q = oE d 192 78 [l0, l1, l2, l3, l4, l5, l6] (.inl (2) :: S) σ Q := pKst f_192_77 (by decide)
theorem f_192_78 : oFet 192 78 = some (.irem, 1) := by decide +kernel
theorem s_192_78 {d : Nat} {l0 l1 l2 l3 l4 l5 l6 : oV} {x y : Int} {S : List oV} {σ : oSg} {Q : Option oV → (Nat → oC) → Prop} (hy : y ≠ 0) : oE d 192 78 [l0, l1, l2, l3, l4, l5, l6] (.inl y :: .inl x :: S) σ Q = oE d 192 79 [l0, l1, l2, l3, l4, l5, l6] (.inl (oRem x y) :: S) σ Q := pRem f_192_78 hy
theorem f_192_79 : oFet 192 79 = some (.iconst 1, 1) := by decide +kernel
theorem s_192_79 {d : Nat} {l0 l1 l2 l3 l4 l5 l6 : oV} {S : List oV} {σ : oSg} {Q : Option oV → (Nat → oC) → Prop} : oE d 192 79 [l0, l1, l2, l3, l4, l5, l6] S σ Q = oE d 192 80 [l0, l1, l2, l3, l4, l5, l6] (.inl (1) :: S) σ Q := pKst f_192_79 (by decide)
theorem f_192_80 : oFet 192 80 = some (.if_icmp .ne 6, 3) := by decide +kernel
theorem s_192_80 {d : Nat} {l0 l1 l2 l3 l4 l5 l6 : oV} {x y : Int} {S : List oV} {σ : oSg} {Q : Option oV → (Nat → oC) → Prop} : oE d 192 80 [l0, l1, l2, l3, l4, l5, l6] (.inl y :: .inl x :: S) σ Q = if ¬ x = y then oE d 192 86 [l0, l1, l2, l3, l4, l5, l6] S σ Q else oE d 192 83 [l0, l1, l2, l3, l4, l5, l6] S σ Q := oCmpNe f_192_80 (by decide)
theorem f_192_83 : oFet 192 83 = some (.iinc 2 1, 3) := by decide +kernel
theorem s_192_83 {d : Nat} {l0 l1 l3 l4 l5 l6 : oV} {x : Int} {S : List oV} {σ : oSg} {Q : Option oV → (Nat → oC) → Prop} (c1 : oCat l1 = 1)  : oE d 192 83 [l0, l1, .inl x, l3, l4, l5, l6] S σ Q = oE d 192 86 [l0, l1, .inl (oAdd x (1)), l3, l4, l5, l6] S σ Q := pInc f_192_83 rfl (show (2 : Nat) < 7 by decide) (oC1n c1) (oC1n (v := .inl x) rfl) rfl
theorem f_192_86 : oFet 192 86 = some (.iload_n 3, 1) := by decide +kernel
theorem s_192_86 {d : Nat} {l0 l1 l2 l4 l5 l6 : oV} {x : Int} {S : List oV} {σ : oSg} {Q : Option oV → (Nat → oC) → Prop} : oE d 192 86 [l0, l1, l2, .inl x, l4, l5, l6] S σ Q = oE d 192 87 [l0, l1, l2, .inl x, l4, l5, l6] (.inl x :: S) σ Q := pLdN (k := 3) f_192_86 rfl rfl rfl
theorem f_192_87 : oFet 192 87 = some (.iload 4, 2) := by decide +kernel
theorem s_192_87 {d : Nat} {l0 l1 l2 l3 l5 l6 : oV} {x : Int} {S : List oV} {σ : oSg} {Q : Option oV → (Nat → oC) → Prop} : oE d 192 87 [l0, l1, l2, l3, .inl x, l5, l6] S σ Q = oE d 192 89 [l0, l1, l2, l3, .inl x, l5, l6] (.inl x :: S) σ Q := pLd (i := 4) f_192_87 rfl rfl rfl
theorem f_192_89 : oFet 192 89 = some (.iconst (-1), 1) := by decide +kernel
theorem s_192_89 {d : Nat} {l0 l1 l2 l3 l4 l5 l6 : oV} {S : List oV} {σ : oSg} {Q : Option oV → (Nat → oC) → Prop} : oE d 192 89 [l0, l1, l2, l3, l4, l5, l6] S σ Q = oE d 192 90 [l0, l1, l2, l3, l4, l5, l6] (.inl (-1) :: S) σ Q := pKst f_192_89 (by decide)
theorem f_192_90 : oFet 192 90 = some (.ixor, 1) := by decide +kernel
theorem s_192_90 {d : Nat} {l0 l1 l2 l3 l4 l5 l6 : oV} {x y : Int} {S : List oV} {σ : oSg} {Q : Option oV → (Nat → oC) → Prop} : oE d 192 90 [l0, l1, l2, l3, l4, l5, l6] (.inl y :: .inl x :: S) σ Q = oE d 192 91 [l0, l1, l2, l3, l4, l5, l6] (.inl (oXor x y) :: S) σ Q := oS3 f_192_90 rfl rfl rfl
theorem f_192_91 : oFet 192 91 = some (.iand, 1) := by decide +kernel
theorem s_192_91 {d : Nat} {l0 l1 l2 l3 l4 l5 l6 : oV} {x y : Int} {S : List oV} {σ : oSg} {Q : Option oV → (Nat → oC) → Prop} : oE d 192 91 [l0, l1, l2, l3, l4, l5, l6] (.inl y :: .inl x :: S) σ Q = oE d 192 92 [l0, l1, l2, l3, l4, l5, l6] (.inl (oAnd x y) :: S) σ Q := oS3 f_192_91 rfl rfl rfl
theorem f_192_92 : oFet 192 92 = some (.istore_n 3, 1) := by decide +kernel
theorem s_192_92 {d : Nat} {l0 l1 l2 l3 l4 l5 l6 : oV} {x : Int} {S : List oV} {σ : oSg} {Q : Option oV → (Nat → oC) → Prop} (c3 : oCat l3 = 1) (c2 : oCat l2 = 1)  : oE d 192 92 [l0, l1, l2, l3, l4, l5, l6] (.inl x :: S) σ Q = oE d 192 93 [l0, l1, l2, .inl x, l4, l5, l6] S σ Q := pSt (i := 3) f_192_92 rfl rfl (show (3 : Nat) < 7 by decide) (oC1n c2) (oC1n c3) rfl
theorem f_192_93 : oFet 192 93 = some (.goto (-89), 3) := by decide +kernel
theorem s_192_93 {d : Nat} {l0 l1 l2 l3 l4 l5 l6 : oV} {S : List oV} {σ : oSg} {Q : Option oV → (Nat → oC) → Prop} : oE d 192 93 [l0, l1, l2, l3, l4, l5, l6] S σ Q = oE d 192 4 [l0, l1, l2, l3, l4, l5, l6] S σ Q := pGoto f_192_93 (by decide)
theorem f_192_96 : oFet 192 96 = some (.iload_n 2, 1) := by decide +kernel
theorem s_192_96 {d : Nat} {l0 l1 l3 l4 l5 l6 : oV} {x : Int} {S : List oV} {σ : oSg} {Q : Option oV → (Nat → oC) → Prop} : oE d 192 96 [l0, l1, .inl x, l3, l4, l5, l6] S σ Q = oE d 192 97 [l0, l1, .inl x, l3, l4, l5, l6] (.inl x :: S) σ Q := pLdN (k := 2) f_192_96 rfl rfl rfl
theorem f_192_97 : oFet 192 97 = some (.ireturn, 1) := by decide +kernel
theorem s_192_97 {d : Nat} {l0 l1 l2 l3 l4 l5 l6 : oV} {x : Int} {σ : oSg} {Q : Option oV → (Nat → oC) → Prop} : oE d 192 97 [l0, l1, l2, l3, l4, l5, l6] [.inl x] σ Q = Q (some (.inl x)) (oBld σ) := oIret f_192_97 rt_192
theorem ow_193 : (oMt 193).2.2.2.2.1 = 11 := by decide +kernel
theorem rt_193 : (oMt 193).2.2.2.1 = some .int := by decide +kernel
theorem nl_193 : (oMt 193).2.2.1 = 5 := by decide +kernel
theorem f_193_0 : oFet 193 0 = some (.aload_n 0, 1) := by decide +kernel
theorem s_193_0 {d : Nat} {l1 l2 l3 l4 : oV} {a : Nat} {S : List oV} {σ : oSg} {Q : Option oV → (Nat → oC) → Prop} : oE d 193 0 [.inr (.inr (.inl a)), l1, l2, l3, l4] S σ Q = oE d 193 1 [.inr (.inr (.inl a)), l1, l2, l3, l4] (.inr (.inr (.inl a)) :: S) σ Q := pLdN (k := 0) f_193_0 rfl rfl rfl
theorem f_193_1 : oFet 193 1 = some (.invokevirtual 195, 3) := by decide +kernel
theorem c_193_1 {d : Nat} {l0 l1 l2 l3 l4 : oV} {a : Nat} {v : Option oV} {τ : oSg} {S : List oV} {σ : oSg} {Q : Option oV → (Nat → oC) → Prop} (hm : oMi d 181 [.inr (.inr (.inl a))] σ v τ) (hk : oKd a = some 11) (hs : oSmall S = true) : oE d 193 1 [l0, l1, l2, l3, l4] (.inr (.inr (.inl a)) :: S) σ Q = oE d 193 4 [l0, l1, l2, l3, l4] (v.toList ++ S) τ Q := pCallV f_193_1 ow_193 lk_11_195 mt_181 rfl rfl rfl hk hs hm
theorem f_193_4 : oFet 193 4 = some (.iconst 1, 1) := by decide +kernel
theorem s_193_4 {d : Nat} {l0 l1 l2 l3 l4 : oV} {S : List oV} {σ : oSg} {Q : Option oV → (Nat → oC) → Prop} : oE d 193 4 [l0, l1, l2, l3, l4] S σ Q = oE d 193 5 [l0, l1, l2, l3, l4] (.inl (1) :: S) σ Q := pKst f_193_4 (by decide)
theorem f_193_5 : oFet 193 5 = some (.aload_n 0, 1) := by decide +kernel
theorem s_193_5 {d : Nat} {l1 l2 l3 l4 : oV} {a : Nat} {S : List oV} {σ : oSg} {Q : Option oV → (Nat → oC) → Prop} : oE d 193 5 [.inr (.inr (.inl a)), l1, l2, l3, l4] S σ Q = oE d 193 6 [.inr (.inr (.inl a)), l1, l2, l3, l4] (.inr (.inr (.inl a)) :: S) σ Q := pLdN (k := 0) f_193_5 rfl rfl rfl
theorem f_193_6 : oFet 193 6 = some (.getfield 11, 3) := by decide +kernel
theorem s_193_6 {d : Nat} {l0 l1 l2 l3 l4 : oV} {a : Nat} {S : List oV} {σ : oSg} {Q : Option oV → (Nat → oC) → Prop} (hk : oKd a = some 11) : oE d 193 6 [l0, l1, l2, l3, l4] (.inr (.inr (.inl a)) :: S) σ Q = oE d 193 9 [l0, l1, l2, l3, l4] (.inr (.inr (.inl (oRf a 0))) :: S) σ Q := pGfR f_193_6 ow_193 fl_11_11 rfl (by decide) hk
theorem f_193_9 : oFet 193 9 = some (.iconst 0, 1) := by decide +kernel
theorem s_193_9 {d : Nat} {l0 l1 l2 l3 l4 : oV} {S : List oV} {σ : oSg} {Q : Option oV → (Nat → oC) → Prop} : oE d 193 9 [l0, l1, l2, l3, l4] S σ Q = oE d 193 10 [l0, l1, l2, l3, l4] (.inl (0) :: S) σ Q := pKst f_193_9 (by decide)
theorem f_193_10 : oFet 193 10 = some (.iaload, 1) := by decide +kernel
theorem s_193_10 {d : Nat} {l0 l1 l2 l3 l4 : oV} {a : Nat} {i : Int} {S : List oV} {σ : oSg} {Q : Option oV → (Nat → oC) → Prop} (hk : oAk a = some 0) (h0 : 0 ≤ i) (h1 : i < (oLn a : Int)) : oE d 193 10 [l0, l1, l2, l3, l4] (.inl i :: .inr (.inr (.inl a)) :: S) σ Q = oE d 193 11 [l0, l1, l2, l3, l4] (.inl (σ.2 a i.toNat) :: S) σ Q := oIal f_193_10 hk h0 h1
theorem f_193_11 : oFet 193 11 = some (.ishl, 1) := by decide +kernel
theorem s_193_11 {d : Nat} {l0 l1 l2 l3 l4 : oV} {x y : Int} {S : List oV} {σ : oSg} {Q : Option oV → (Nat → oC) → Prop} : oE d 193 11 [l0, l1, l2, l3, l4] (.inl y :: .inl x :: S) σ Q = oE d 193 12 [l0, l1, l2, l3, l4] (.inl (oShl x y) :: S) σ Q := oS3 f_193_11 rfl rfl rfl
theorem f_193_12 : oFet 193 12 = some (.iconst 1, 1) := by decide +kernel
theorem s_193_12 {d : Nat} {l0 l1 l2 l3 l4 : oV} {S : List oV} {σ : oSg} {Q : Option oV → (Nat → oC) → Prop} : oE d 193 12 [l0, l1, l2, l3, l4] S σ Q = oE d 193 13 [l0, l1, l2, l3, l4] (.inl (1) :: S) σ Q := pKst f_193_12 (by decide)
theorem f_193_13 : oFet 193 13 = some (.isub, 1) := by decide +kernel
theorem s_193_13 {d : Nat} {l0 l1 l2 l3 l4 : oV} {x y : Int} {S : List oV} {σ : oSg} {Q : Option oV → (Nat → oC) → Prop} : oE d 193 13 [l0, l1, l2, l3, l4] (.inl y :: .inl x :: S) σ Q = oE d 193 14 [l0, l1, l2, l3, l4] (.inl (oSub x y) :: S) σ Q := oS3 f_193_13 rfl rfl rfl
theorem f_193_14 : oFet 193 14 = some (.istore_n 1, 1) := by decide +kernel
theorem s_193_14 {d : Nat} {l0 l1 l2 l3 l4 : oV} {x : Int} {S : List oV} {σ : oSg} {Q : Option oV → (Nat → oC) → Prop} (c1 : oCat l1 = 1) (c0 : oCat l0 = 1)  : oE d 193 14 [l0, l1, l2, l3, l4] (.inl x :: S) σ Q = oE d 193 15 [l0, .inl x, l2, l3, l4] S σ Q := pSt (i := 1) f_193_14 rfl rfl (show (1 : Nat) < 5 by decide) (oC1n c0) (oC1n c1) rfl
theorem f_193_15 : oFet 193 15 = some (.aload_n 0, 1) := by decide +kernel
theorem s_193_15 {d : Nat} {l1 l2 l3 l4 : oV} {a : Nat} {S : List oV} {σ : oSg} {Q : Option oV → (Nat → oC) → Prop} : oE d 193 15 [.inr (.inr (.inl a)), l1, l2, l3, l4] S σ Q = oE d 193 16 [.inr (.inr (.inl a)), l1, l2, l3, l4] (.inr (.inr (.inl a)) :: S) σ Q := pLdN (k := 0) f_193_15 rfl rfl rfl
theorem f_193_16 : oFet 193 16 = some (.getfield 36, 3) := by decide +kernel
theorem s_193_16 {d : Nat} {l0 l1 l2 l3 l4 : oV} {a : Nat} {S : List oV} {σ : oSg} {Q : Option oV → (Nat → oC) → Prop} (hk : oKd a = some 11) : oE d 193 16 [l0, l1, l2, l3, l4] (.inr (.inr (.inl a)) :: S) σ Q = oE d 193 19 [l0, l1, l2, l3, l4] (.inr (.inr (.inl (oRf a 18))) :: S) σ Q := pGfR f_193_16 ow_193 fl_11_36 rfl (by decide) hk
theorem f_193_19 : oFet 193 19 = some (.iload_n 1, 1) := by decide +kernel
theorem s_193_19 {d : Nat} {l0 l2 l3 l4 : oV} {x : Int} {S : List oV} {σ : oSg} {Q : Option oV → (Nat → oC) → Prop} : oE d 193 19 [l0, .inl x, l2, l3, l4] S σ Q = oE d 193 20 [l0, .inl x, l2, l3, l4] (.inl x :: S) σ Q := pLdN (k := 1) f_193_19 rfl rfl rfl
theorem f_193_20 : oFet 193 20 = some (.invokestatic 186, 3) := by decide +kernel
theorem c_193_20 {d : Nat} {l0 l1 l2 l3 l4 : oV} {x0 x1 : oV} {v : Option oV} {τ : oSg} {S : List oV} {σ : oSg} {Q : Option oV → (Nat → oC) → Prop} (hm : oMi d 182 [x0, x1] σ v τ) (hs : oSmall S = true) : oE d 193 20 [l0, l1, l2, l3, l4] (x1 :: x0 :: S) σ Q = oE d 193 23 [l0, l1, l2, l3, l4] (v.toList ++ S) τ Q := pCallS f_193_20 ow_193 lk_11_186 mt_182 rfl rfl rfl hs hm
theorem f_193_23 : oFet 193 23 = some (.istore_n 2, 1) := by decide +kernel
theorem s_193_23 {d : Nat} {l0 l1 l2 l3 l4 : oV} {x : Int} {S : List oV} {σ : oSg} {Q : Option oV → (Nat → oC) → Prop} (c2 : oCat l2 = 1) (c1 : oCat l1 = 1)  : oE d 193 23 [l0, l1, l2, l3, l4] (.inl x :: S) σ Q = oE d 193 24 [l0, l1, .inl x, l3, l4] S σ Q := pSt (i := 2) f_193_23 rfl rfl (show (2 : Nat) < 5 by decide) (oC1n c1) (oC1n c2) rfl
theorem f_193_24 : oFet 193 24 = some (.iconst 0, 1) := by decide +kernel
theorem s_193_24 {d : Nat} {l0 l1 l2 l3 l4 : oV} {S : List oV} {σ : oSg} {Q : Option oV → (Nat → oC) → Prop} : oE d 193 24 [l0, l1, l2, l3, l4] S σ Q = oE d 193 25 [l0, l1, l2, l3, l4] (.inl (0) :: S) σ Q := pKst f_193_24 (by decide)
theorem f_193_25 : oFet 193 25 = some (.istore_n 3, 1) := by decide +kernel
theorem s_193_25 {d : Nat} {l0 l1 l2 l3 l4 : oV} {x : Int} {S : List oV} {σ : oSg} {Q : Option oV → (Nat → oC) → Prop} (c3 : oCat l3 = 1) (c2 : oCat l2 = 1)  : oE d 193 25 [l0, l1, l2, l3, l4] (.inl x :: S) σ Q = oE d 193 26 [l0, l1, l2, .inl x, l4] S σ Q := pSt (i := 3) f_193_25 rfl rfl (show (3 : Nat) < 5 by decide) (oC1n c2) (oC1n c3) rfl
theorem f_193_26 : oFet 193 26 = some (.iconst 0, 1) := by decide +kernel
theorem s_193_26 {d : Nat} {l0 l1 l2 l3 l4 : oV} {S : List oV} {σ : oSg} {Q : Option oV → (Nat → oC) → Prop} : oE d 193 26 [l0, l1, l2, l3, l4] S σ Q = oE d 193 27 [l0, l1, l2, l3, l4] (.inl (0) :: S) σ Q := pKst f_193_26 (by decide)
theorem f_193_27 : oFet 193 27 = some (.istore 4, 2) := by decide +kernel
theorem s_193_27 {d : Nat} {l0 l1 l2 l3 l4 : oV} {x : Int} {S : List oV} {σ : oSg} {Q : Option oV → (Nat → oC) → Prop} (c4 : oCat l4 = 1) (c3 : oCat l3 = 1)  : oE d 193 27 [l0, l1, l2, l3, l4] (.inl x :: S) σ Q = oE d 193 29 [l0, l1, l2, l3, .inl x] S σ Q := pSt (i := 4) f_193_27 rfl rfl (show (4 : Nat) < 5 by decide) (oC1n c3) (oC1n c4) rfl
theorem f_193_29 : oFet 193 29 = some (.iload 4, 2) := by decide +kernel
theorem s_193_29 {d : Nat} {l0 l1 l2 l3 : oV} {x : Int} {S : List oV} {σ : oSg} {Q : Option oV → (Nat → oC) → Prop} : oE d 193 29 [l0, l1, l2, l3, .inl x] S σ Q = oE d 193 31 [l0, l1, l2, l3, .inl x] (.inl x :: S) σ Q := pLd (i := 4) f_193_29 rfl rfl rfl
theorem f_193_31 : oFet 193 31 = some (.aload_n 0, 1) := by decide +kernel
theorem s_193_31 {d : Nat} {l1 l2 l3 l4 : oV} {a : Nat} {S : List oV} {σ : oSg} {Q : Option oV → (Nat → oC) → Prop} : oE d 193 31 [.inr (.inr (.inl a)), l1, l2, l3, l4] S σ Q = oE d 193 32 [.inr (.inr (.inl a)), l1, l2, l3, l4] (.inr (.inr (.inl a)) :: S) σ Q := pLdN (k := 0) f_193_31 rfl rfl rfl
theorem f_193_32 : oFet 193 32 = some (.getfield 11, 3) := by decide +kernel
theorem s_193_32 {d : Nat} {l0 l1 l2 l3 l4 : oV} {a : Nat} {S : List oV} {σ : oSg} {Q : Option oV → (Nat → oC) → Prop} (hk : oKd a = some 11) : oE d 193 32 [l0, l1, l2, l3, l4] (.inr (.inr (.inl a)) :: S) σ Q = oE d 193 35 [l0, l1, l2, l3, l4] (.inr (.inr (.inl (oRf a 0))) :: S) σ Q := pGfR f_193_32 ow_193 fl_11_11 rfl (by decide) hk
theorem f_193_35 : oFet 193 35 = some (.iconst 0, 1) := by decide +kernel
theorem s_193_35 {d : Nat} {l0 l1 l2 l3 l4 : oV} {S : List oV} {σ : oSg} {Q : Option oV → (Nat → oC) → Prop} : oE d 193 35 [l0, l1, l2, l3, l4] S σ Q = oE d 193 36 [l0, l1, l2, l3, l4] (.inl (0) :: S) σ Q := pKst f_193_35 (by decide)
theorem f_193_36 : oFet 193 36 = some (.iaload, 1) := by decide +kernel
theorem s_193_36 {d : Nat} {l0 l1 l2 l3 l4 : oV} {a : Nat} {i : Int} {S : List oV} {σ : oSg} {Q : Option oV → (Nat → oC) → Prop} (hk : oAk a = some 0) (h0 : 0 ≤ i) (h1 : i < (oLn a : Int)) : oE d 193 36 [l0, l1, l2, l3, l4] (.inl i :: .inr (.inr (.inl a)) :: S) σ Q = oE d 193 37 [l0, l1, l2, l3, l4] (.inl (σ.2 a i.toNat) :: S) σ Q := oIal f_193_36 hk h0 h1
theorem f_193_37 : oFet 193 37 = some (.if_icmp .ge 35, 3) := by decide +kernel
theorem s_193_37 {d : Nat} {l0 l1 l2 l3 l4 : oV} {x y : Int} {S : List oV} {σ : oSg} {Q : Option oV → (Nat → oC) → Prop} : oE d 193 37 [l0, l1, l2, l3, l4] (.inl y :: .inl x :: S) σ Q = if y ≤ x then oE d 193 72 [l0, l1, l2, l3, l4] S σ Q else oE d 193 40 [l0, l1, l2, l3, l4] S σ Q := oCmpGe f_193_37 (by decide)
theorem f_193_40 : oFet 193 40 = some (.aload_n 0, 1) := by decide +kernel
theorem s_193_40 {d : Nat} {l1 l2 l3 l4 : oV} {a : Nat} {S : List oV} {σ : oSg} {Q : Option oV → (Nat → oC) → Prop} : oE d 193 40 [.inr (.inr (.inl a)), l1, l2, l3, l4] S σ Q = oE d 193 41 [.inr (.inr (.inl a)), l1, l2, l3, l4] (.inr (.inr (.inl a)) :: S) σ Q := pLdN (k := 0) f_193_40 rfl rfl rfl
theorem f_193_41 : oFet 193 41 = some (.getfield 36, 3) := by decide +kernel
theorem s_193_41 {d : Nat} {l0 l1 l2 l3 l4 : oV} {a : Nat} {S : List oV} {σ : oSg} {Q : Option oV → (Nat → oC) → Prop} (hk : oKd a = some 11) : oE d 193 41 [l0, l1, l2, l3, l4] (.inr (.inr (.inl a)) :: S) σ Q = oE d 193 44 [l0, l1, l2, l3, l4] (.inr (.inr (.inl (oRf a 18))) :: S) σ Q := pGfR f_193_41 ow_193 fl_11_36 rfl (by decide) hk
theorem f_193_44 : oFet 193 44 = some (.iload_n 1, 1) := by decide +kernel
theorem s_193_44 {d : Nat} {l0 l2 l3 l4 : oV} {x : Int} {S : List oV} {σ : oSg} {Q : Option oV → (Nat → oC) → Prop} : oE d 193 44 [l0, .inl x, l2, l3, l4] S σ Q = oE d 193 45 [l0, .inl x, l2, l3, l4] (.inl x :: S) σ Q := pLdN (k := 1) f_193_44 rfl rfl rfl
theorem f_193_45 : oFet 193 45 = some (.iconst 1, 1) := by decide +kernel
theorem s_193_45 {d : Nat} {l0 l1 l2 l3 l4 : oV} {S : List oV} {σ : oSg} {Q : Option oV → (Nat → oC) → Prop} : oE d 193 45 [l0, l1, l2, l3, l4] S σ Q = oE d 193 46 [l0, l1, l2, l3, l4] (.inl (1) :: S) σ Q := pKst f_193_45 (by decide)
theorem f_193_46 : oFet 193 46 = some (.iload 4, 2) := by decide +kernel
theorem s_193_46 {d : Nat} {l0 l1 l2 l3 : oV} {x : Int} {S : List oV} {σ : oSg} {Q : Option oV → (Nat → oC) → Prop} : oE d 193 46 [l0, l1, l2, l3, .inl x] S σ Q = oE d 193 48 [l0, l1, l2, l3, .inl x] (.inl x :: S) σ Q := pLd (i := 4) f_193_46 rfl rfl rfl
theorem f_193_48 : oFet 193 48 = some (.ishl, 1) := by decide +kernel
theorem s_193_48 {d : Nat} {l0 l1 l2 l3 l4 : oV} {x y : Int} {S : List oV} {σ : oSg} {Q : Option oV → (Nat → oC) → Prop} : oE d 193 48 [l0, l1, l2, l3, l4] (.inl y :: .inl x :: S) σ Q = oE d 193 49 [l0, l1, l2, l3, l4] (.inl (oShl x y) :: S) σ Q := oS3 f_193_48 rfl rfl rfl
theorem f_193_49 : oFet 193 49 = some (.iconst (-1), 1) := by decide +kernel
theorem s_193_49 {d : Nat} {l0 l1 l2 l3 l4 : oV} {S : List oV} {σ : oSg} {Q : Option oV → (Nat → oC) → Prop} : oE d 193 49 [l0, l1, l2, l3, l4] S σ Q = oE d 193 50 [l0, l1, l2, l3, l4] (.inl (-1) :: S) σ Q := pKst f_193_49 (by decide)
theorem f_193_50 : oFet 193 50 = some (.ixor, 1) := by decide +kernel
theorem s_193_50 {d : Nat} {l0 l1 l2 l3 l4 : oV} {x y : Int} {S : List oV} {σ : oSg} {Q : Option oV → (Nat → oC) → Prop} : oE d 193 50 [l0, l1, l2, l3, l4] (.inl y :: .inl x :: S) σ Q = oE d 193 51 [l0, l1, l2, l3, l4] (.inl (oXor x y) :: S) σ Q := oS3 f_193_50 rfl rfl rfl
theorem f_193_51 : oFet 193 51 = some (.iand, 1) := by decide +kernel
theorem s_193_51 {d : Nat} {l0 l1 l2 l3 l4 : oV} {x y : Int} {S : List oV} {σ : oSg} {Q : Option oV → (Nat → oC) → Prop} : oE d 193 51 [l0, l1, l2, l3, l4] (.inl y :: .inl x :: S) σ Q = oE d 193 52 [l0, l1, l2, l3, l4] (.inl (oAnd x y) :: S) σ Q := oS3 f_193_51 rfl rfl rfl
theorem f_193_52 : oFet 193 52 = some (.invokestatic 186, 3) := by decide +kernel
theorem c_193_52 {d : Nat} {l0 l1 l2 l3 l4 : oV} {x0 x1 : oV} {v : Option oV} {τ : oSg} {S : List oV} {σ : oSg} {Q : Option oV → (Nat → oC) → Prop} (hm : oMi d 182 [x0, x1] σ v τ) (hs : oSmall S = true) : oE d 193 52 [l0, l1, l2, l3, l4] (x1 :: x0 :: S) σ Q = oE d 193 55 [l0, l1, l2, l3, l4] (v.toList ++ S) τ Q := pCallS f_193_52 ow_193 lk_11_186 mt_182 rfl rfl rfl hs hm
theorem f_193_55 : oFet 193 55 = some (.iload_n 2, 1) := by decide +kernel
theorem s_193_55 {d : Nat} {l0 l1 l3 l4 : oV} {x : Int} {S : List oV} {σ : oSg} {Q : Option oV → (Nat → oC) → Prop} : oE d 193 55 [l0, l1, .inl x, l3, l4] S σ Q = oE d 193 56 [l0, l1, .inl x, l3, l4] (.inl x :: S) σ Q := pLdN (k := 2) f_193_55 rfl rfl rfl
theorem f_193_56 : oFet 193 56 = some (.if_icmp .ne 10, 3) := by decide +kernel
theorem s_193_56 {d : Nat} {l0 l1 l2 l3 l4 : oV} {x y : Int} {S : List oV} {σ : oSg} {Q : Option oV → (Nat → oC) → Prop} : oE d 193 56 [l0, l1, l2, l3, l4] (.inl y :: .inl x :: S) σ Q = if ¬ x = y then oE d 193 66 [l0, l1, l2, l3, l4] S σ Q else oE d 193 59 [l0, l1, l2, l3, l4] S σ Q := oCmpNe f_193_56 (by decide)
theorem f_193_59 : oFet 193 59 = some (.iload_n 3, 1) := by decide +kernel
theorem s_193_59 {d : Nat} {l0 l1 l2 l4 : oV} {x : Int} {S : List oV} {σ : oSg} {Q : Option oV → (Nat → oC) → Prop} : oE d 193 59 [l0, l1, l2, .inl x, l4] S σ Q = oE d 193 60 [l0, l1, l2, .inl x, l4] (.inl x :: S) σ Q := pLdN (k := 3) f_193_59 rfl rfl rfl
theorem f_193_60 : oFet 193 60 = some (.iconst 1, 1) := by decide +kernel
theorem s_193_60 {d : Nat} {l0 l1 l2 l3 l4 : oV} {S : List oV} {σ : oSg} {Q : Option oV → (Nat → oC) → Prop} : oE d 193 60 [l0, l1, l2, l3, l4] S σ Q = oE d 193 61 [l0, l1, l2, l3, l4] (.inl (1) :: S) σ Q := pKst f_193_60 (by decide)
theorem f_193_61 : oFet 193 61 = some (.iload 4, 2) := by decide +kernel
theorem s_193_61 {d : Nat} {l0 l1 l2 l3 : oV} {x : Int} {S : List oV} {σ : oSg} {Q : Option oV → (Nat → oC) → Prop} : oE d 193 61 [l0, l1, l2, l3, .inl x] S σ Q = oE d 193 63 [l0, l1, l2, l3, .inl x] (.inl x :: S) σ Q := pLd (i := 4) f_193_61 rfl rfl rfl
theorem f_193_63 : oFet 193 63 = some (.ishl, 1) := by decide +kernel
theorem s_193_63 {d : Nat} {l0 l1 l2 l3 l4 : oV} {x y : Int} {S : List oV} {σ : oSg} {Q : Option oV → (Nat → oC) → Prop} : oE d 193 63 [l0, l1, l2, l3, l4] (.inl y :: .inl x :: S) σ Q = oE d 193 64 [l0, l1, l2, l3, l4] (.inl (oShl x y) :: S) σ Q := oS3 f_193_63 rfl rfl rfl
theorem f_193_64 : oFet 193 64 = some (.ior, 1) := by decide +kernel
theorem s_193_64 {d : Nat} {l0 l1 l2 l3 l4 : oV} {x y : Int} {S : List oV} {σ : oSg} {Q : Option oV → (Nat → oC) → Prop} : oE d 193 64 [l0, l1, l2, l3, l4] (.inl y :: .inl x :: S) σ Q = oE d 193 65 [l0, l1, l2, l3, l4] (.inl (oOr x y) :: S) σ Q := oS3 f_193_64 rfl rfl rfl
theorem f_193_65 : oFet 193 65 = some (.istore_n 3, 1) := by decide +kernel
theorem s_193_65 {d : Nat} {l0 l1 l2 l3 l4 : oV} {x : Int} {S : List oV} {σ : oSg} {Q : Option oV → (Nat → oC) → Prop} (c3 : oCat l3 = 1) (c2 : oCat l2 = 1)  : oE d 193 65 [l0, l1, l2, l3, l4] (.inl x :: S) σ Q = oE d 193 66 [l0, l1, l2, .inl x, l4] S σ Q := pSt (i := 3) f_193_65 rfl rfl (show (3 : Nat) < 5 by decide) (oC1n c2) (oC1n c3) rfl
theorem f_193_66 : oFet 193 66 = some (.iinc 4 1, 3) := by decide +kernel
theorem s_193_66 {d : Nat} {l0 l1 l2 l3 : oV} {x : Int} {S : List oV} {σ : oSg} {Q : Option oV → (Nat → oC) → Prop} (c3 : oCat l3 = 1)  : oE d 193 66 [l0, l1, l2, l3, .inl x] S σ Q = oE d 193 69 [l0, l1, l2, l3, .inl (oAdd x (1))] S σ Q := pInc f_193_66 rfl (show (4 : Nat) < 5 by decide) (oC1n c3) (oC1n (v := .inl x) rfl) rfl
theorem f_193_69 : oFet 193 69 = some (.goto (-40), 3) := by decide +kernel
theorem s_193_69 {d : Nat} {l0 l1 l2 l3 l4 : oV} {S : List oV} {σ : oSg} {Q : Option oV → (Nat → oC) → Prop} : oE d 193 69 [l0, l1, l2, l3, l4] S σ Q = oE d 193 29 [l0, l1, l2, l3, l4] S σ Q := pGoto f_193_69 (by decide)
theorem f_193_72 : oFet 193 72 = some (.iload_n 3, 1) := by decide +kernel
theorem s_193_72 {d : Nat} {l0 l1 l2 l4 : oV} {x : Int} {S : List oV} {σ : oSg} {Q : Option oV → (Nat → oC) → Prop} : oE d 193 72 [l0, l1, l2, .inl x, l4] S σ Q = oE d 193 73 [l0, l1, l2, .inl x, l4] (.inl x :: S) σ Q := pLdN (k := 3) f_193_72 rfl rfl rfl
theorem f_193_73 : oFet 193 73 = some (.ireturn, 1) := by decide +kernel
theorem s_193_73 {d : Nat} {l0 l1 l2 l3 l4 : oV} {x : Int} {σ : oSg} {Q : Option oV → (Nat → oC) → Prop} : oE d 193 73 [l0, l1, l2, l3, l4] [.inl x] σ Q = Q (some (.inl x)) (oBld σ) := oIret f_193_73 rt_193
theorem ow_194 : (oMt 194).2.2.2.2.1 = 11 := by decide +kernel
theorem rt_194 : (oMt 194).2.2.2.1 = some .int := by decide +kernel
theorem nl_194 : (oMt 194).2.2.1 = 4 := by decide +kernel
theorem f_194_0 : oFet 194 0 = some (.iconst 0, 1) := by decide +kernel
theorem s_194_0 {d : Nat} {l0 l1 l2 l3 : oV} {S : List oV} {σ : oSg} {Q : Option oV → (Nat → oC) → Prop} : oE d 194 0 [l0, l1, l2, l3] S σ Q = oE d 194 1 [l0, l1, l2, l3] (.inl (0) :: S) σ Q := pKst f_194_0 (by decide)
theorem f_194_1 : oFet 194 1 = some (.istore_n 2, 1) := by decide +kernel
theorem s_194_1 {d : Nat} {l0 l1 l2 l3 : oV} {x : Int} {S : List oV} {σ : oSg} {Q : Option oV → (Nat → oC) → Prop} (c2 : oCat l2 = 1) (c1 : oCat l1 = 1)  : oE d 194 1 [l0, l1, l2, l3] (.inl x :: S) σ Q = oE d 194 2 [l0, l1, .inl x, l3] S σ Q := pSt (i := 2) f_194_1 rfl rfl (show (2 : Nat) < 4 by decide) (oC1n c1) (oC1n c2) rfl
theorem f_194_2 : oFet 194 2 = some (.iconst 0, 1) := by decide +kernel
theorem s_194_2 {d : Nat} {l0 l1 l2 l3 : oV} {S : List oV} {σ : oSg} {Q : Option oV → (Nat → oC) → Prop} : oE d 194 2 [l0, l1, l2, l3] S σ Q = oE d 194 3 [l0, l1, l2, l3] (.inl (0) :: S) σ Q := pKst f_194_2 (by decide)
theorem f_194_3 : oFet 194 3 = some (.istore_n 3, 1) := by decide +kernel
theorem s_194_3 {d : Nat} {l0 l1 l2 l3 : oV} {x : Int} {S : List oV} {σ : oSg} {Q : Option oV → (Nat → oC) → Prop} (c3 : oCat l3 = 1) (c2 : oCat l2 = 1)  : oE d 194 3 [l0, l1, l2, l3] (.inl x :: S) σ Q = oE d 194 4 [l0, l1, l2, .inl x] S σ Q := pSt (i := 3) f_194_3 rfl rfl (show (3 : Nat) < 4 by decide) (oC1n c2) (oC1n c3) rfl
theorem f_194_4 : oFet 194 4 = some (.iload_n 3, 1) := by decide +kernel
theorem s_194_4 {d : Nat} {l0 l1 l2 : oV} {x : Int} {S : List oV} {σ : oSg} {Q : Option oV → (Nat → oC) → Prop} : oE d 194 4 [l0, l1, l2, .inl x] S σ Q = oE d 194 5 [l0, l1, l2, .inl x] (.inl x :: S) σ Q := pLdN (k := 3) f_194_4 rfl rfl rfl
theorem f_194_5 : oFet 194 5 = some (.aload_n 0, 1) := by decide +kernel
theorem s_194_5 {d : Nat} {l1 l2 l3 : oV} {a : Nat} {S : List oV} {σ : oSg} {Q : Option oV → (Nat → oC) → Prop} : oE d 194 5 [.inr (.inr (.inl a)), l1, l2, l3] S σ Q = oE d 194 6 [.inr (.inr (.inl a)), l1, l2, l3] (.inr (.inr (.inl a)) :: S) σ Q := pLdN (k := 0) f_194_5 rfl rfl rfl
theorem f_194_6 : oFet 194 6 = some (.getfield 11, 3) := by decide +kernel
theorem s_194_6 {d : Nat} {l0 l1 l2 l3 : oV} {a : Nat} {S : List oV} {σ : oSg} {Q : Option oV → (Nat → oC) → Prop} (hk : oKd a = some 11) : oE d 194 6 [l0, l1, l2, l3] (.inr (.inr (.inl a)) :: S) σ Q = oE d 194 9 [l0, l1, l2, l3] (.inr (.inr (.inl (oRf a 0))) :: S) σ Q := pGfR f_194_6 ow_194 fl_11_11 rfl (by decide) hk
theorem f_194_9 : oFet 194 9 = some (.iconst 0, 1) := by decide +kernel
theorem s_194_9 {d : Nat} {l0 l1 l2 l3 : oV} {S : List oV} {σ : oSg} {Q : Option oV → (Nat → oC) → Prop} : oE d 194 9 [l0, l1, l2, l3] S σ Q = oE d 194 10 [l0, l1, l2, l3] (.inl (0) :: S) σ Q := pKst f_194_9 (by decide)
theorem f_194_10 : oFet 194 10 = some (.iaload, 1) := by decide +kernel
theorem s_194_10 {d : Nat} {l0 l1 l2 l3 : oV} {a : Nat} {i : Int} {S : List oV} {σ : oSg} {Q : Option oV → (Nat → oC) → Prop} (hk : oAk a = some 0) (h0 : 0 ≤ i) (h1 : i < (oLn a : Int)) : oE d 194 10 [l0, l1, l2, l3] (.inl i :: .inr (.inr (.inl a)) :: S) σ Q = oE d 194 11 [l0, l1, l2, l3] (.inl (σ.2 a i.toNat) :: S) σ Q := oIal f_194_10 hk h0 h1
theorem f_194_11 : oFet 194 11 = some (.if_icmp .ge 34, 3) := by decide +kernel
theorem s_194_11 {d : Nat} {l0 l1 l2 l3 : oV} {x y : Int} {S : List oV} {σ : oSg} {Q : Option oV → (Nat → oC) → Prop} : oE d 194 11 [l0, l1, l2, l3] (.inl y :: .inl x :: S) σ Q = if y ≤ x then oE d 194 45 [l0, l1, l2, l3] S σ Q else oE d 194 14 [l0, l1, l2, l3] S σ Q := oCmpGe f_194_11 (by decide)
theorem f_194_14 : oFet 194 14 = some (.iload_n 1, 1) := by decide +kernel
theorem s_194_14 {d : Nat} {l0 l2 l3 : oV} {x : Int} {S : List oV} {σ : oSg} {Q : Option oV → (Nat → oC) → Prop} : oE d 194 14 [l0, .inl x, l2, l3] S σ Q = oE d 194 15 [l0, .inl x, l2, l3] (.inl x :: S) σ Q := pLdN (k := 1) f_194_14 rfl rfl rfl
theorem f_194_15 : oFet 194 15 = some (.iload_n 3, 1) := by decide +kernel
theorem s_194_15 {d : Nat} {l0 l1 l2 : oV} {x : Int} {S : List oV} {σ : oSg} {Q : Option oV → (Nat → oC) → Prop} : oE d 194 15 [l0, l1, l2, .inl x] S σ Q = oE d 194 16 [l0, l1, l2, .inl x] (.inl x :: S) σ Q := pLdN (k := 3) f_194_15 rfl rfl rfl
theorem f_194_16 : oFet 194 16 = some (.ishr, 1) := by decide +kernel
theorem s_194_16 {d : Nat} {l0 l1 l2 l3 : oV} {x y : Int} {S : List oV} {σ : oSg} {Q : Option oV → (Nat → oC) → Prop} : oE d 194 16 [l0, l1, l2, l3] (.inl y :: .inl x :: S) σ Q = oE d 194 17 [l0, l1, l2, l3] (.inl (oShr x y) :: S) σ Q := oS3 f_194_16 rfl rfl rfl
theorem f_194_17 : oFet 194 17 = some (.iconst 1, 1) := by decide +kernel
theorem s_194_17 {d : Nat} {l0 l1 l2 l3 : oV} {S : List oV} {σ : oSg} {Q : Option oV → (Nat → oC) → Prop} : oE d 194 17 [l0, l1, l2, l3] S σ Q = oE d 194 18 [l0, l1, l2, l3] (.inl (1) :: S) σ Q := pKst f_194_17 (by decide)
theorem f_194_18 : oFet 194 18 = some (.iand, 1) := by decide +kernel
theorem s_194_18 {d : Nat} {l0 l1 l2 l3 : oV} {x y : Int} {S : List oV} {σ : oSg} {Q : Option oV → (Nat → oC) → Prop} : oE d 194 18 [l0, l1, l2, l3] (.inl y :: .inl x :: S) σ Q = oE d 194 19 [l0, l1, l2, l3] (.inl (oAnd x y) :: S) σ Q := oS3 f_194_18 rfl rfl rfl
theorem f_194_19 : oFet 194 19 = some (.ifCond .ne 20, 3) := by decide +kernel
theorem s_194_19 {d : Nat} {l0 l1 l2 l3 : oV} {x : Int} {S : List oV} {σ : oSg} {Q : Option oV → (Nat → oC) → Prop} : oE d 194 19 [l0, l1, l2, l3] (.inl x :: S) σ Q = if ¬ x = 0 then oE d 194 39 [l0, l1, l2, l3] S σ Q else oE d 194 22 [l0, l1, l2, l3] S σ Q := oIfNe f_194_19 (by decide)
theorem f_194_22 : oFet 194 22 = some (.aload_n 0, 1) := by decide +kernel
theorem s_194_22 {d : Nat} {l1 l2 l3 : oV} {a : Nat} {S : List oV} {σ : oSg} {Q : Option oV → (Nat → oC) → Prop} : oE d 194 22 [.inr (.inr (.inl a)), l1, l2, l3] S σ Q = oE d 194 23 [.inr (.inr (.inl a)), l1, l2, l3] (.inr (.inr (.inl a)) :: S) σ Q := pLdN (k := 0) f_194_22 rfl rfl rfl
theorem f_194_23 : oFet 194 23 = some (.getfield 36, 3) := by decide +kernel
theorem s_194_23 {d : Nat} {l0 l1 l2 l3 : oV} {a : Nat} {S : List oV} {σ : oSg} {Q : Option oV → (Nat → oC) → Prop} (hk : oKd a = some 11) : oE d 194 23 [l0, l1, l2, l3] (.inr (.inr (.inl a)) :: S) σ Q = oE d 194 26 [l0, l1, l2, l3] (.inr (.inr (.inl (oRf a 18))) :: S) σ Q := pGfR f_194_23 ow_194 fl_11_36 rfl (by decide) hk
theorem f_194_26 : oFet 194 26 = some (.iload_n 3, 1) := by decide +kernel
theorem s_194_26 {d : Nat} {l0 l1 l2 : oV} {x : Int} {S : List oV} {σ : oSg} {Q : Option oV → (Nat → oC) → Prop} : oE d 194 26 [l0, l1, l2, .inl x] S σ Q = oE d 194 27 [l0, l1, l2, .inl x] (.inl x :: S) σ Q := pLdN (k := 3) f_194_26 rfl rfl rfl
theorem f_194_27 : oFet 194 27 = some (.iaload, 1) := by decide +kernel
theorem s_194_27 {d : Nat} {l0 l1 l2 l3 : oV} {a : Nat} {i : Int} {S : List oV} {σ : oSg} {Q : Option oV → (Nat → oC) → Prop} (hk : oAk a = some 0) (h0 : 0 ≤ i) (h1 : i < (oLn a : Int)) : oE d 194 27 [l0, l1, l2, l3] (.inl i :: .inr (.inr (.inl a)) :: S) σ Q = oE d 194 28 [l0, l1, l2, l3] (.inl (σ.2 a i.toNat) :: S) σ Q := oIal f_194_27 hk h0 h1
theorem f_194_28 : oFet 194 28 = some (.iload_n 1, 1) := by decide +kernel
theorem s_194_28 {d : Nat} {l0 l2 l3 : oV} {x : Int} {S : List oV} {σ : oSg} {Q : Option oV → (Nat → oC) → Prop} : oE d 194 28 [l0, .inl x, l2, l3] S σ Q = oE d 194 29 [l0, .inl x, l2, l3] (.inl x :: S) σ Q := pLdN (k := 1) f_194_28 rfl rfl rfl
theorem f_194_29 : oFet 194 29 = some (.iand, 1) := by decide +kernel
theorem s_194_29 {d : Nat} {l0 l1 l2 l3 : oV} {x y : Int} {S : List oV} {σ : oSg} {Q : Option oV → (Nat → oC) → Prop} : oE d 194 29 [l0, l1, l2, l3] (.inl y :: .inl x :: S) σ Q = oE d 194 30 [l0, l1, l2, l3] (.inl (oAnd x y) :: S) σ Q := oS3 f_194_29 rfl rfl rfl
theorem f_194_30 : oFet 194 30 = some (.ifCond .eq 9, 3) := by decide +kernel
theorem s_194_30 {d : Nat} {l0 l1 l2 l3 : oV} {x : Int} {S : List oV} {σ : oSg} {Q : Option oV → (Nat → oC) → Prop} : oE d 194 30 [l0, l1, l2, l3] (.inl x :: S) σ Q = if x = 0 then oE d 194 39 [l0, l1, l2, l3] S σ Q else oE d 194 33 [l0, l1, l2, l3] S σ Q := oIfEq f_194_30 (by decide)
theorem f_194_33 : oFet 194 33 = some (.iload_n 2, 1) := by decide +kernel
theorem s_194_33 {d : Nat} {l0 l1 l3 : oV} {x : Int} {S : List oV} {σ : oSg} {Q : Option oV → (Nat → oC) → Prop} : oE d 194 33 [l0, l1, .inl x, l3] S σ Q = oE d 194 34 [l0, l1, .inl x, l3] (.inl x :: S) σ Q := pLdN (k := 2) f_194_33 rfl rfl rfl
theorem f_194_34 : oFet 194 34 = some (.iconst 1, 1) := by decide +kernel
theorem s_194_34 {d : Nat} {l0 l1 l2 l3 : oV} {S : List oV} {σ : oSg} {Q : Option oV → (Nat → oC) → Prop} : oE d 194 34 [l0, l1, l2, l3] S σ Q = oE d 194 35 [l0, l1, l2, l3] (.inl (1) :: S) σ Q := pKst f_194_34 (by decide)
theorem f_194_35 : oFet 194 35 = some (.iload_n 3, 1) := by decide +kernel
theorem s_194_35 {d : Nat} {l0 l1 l2 : oV} {x : Int} {S : List oV} {σ : oSg} {Q : Option oV → (Nat → oC) → Prop} : oE d 194 35 [l0, l1, l2, .inl x] S σ Q = oE d 194 36 [l0, l1, l2, .inl x] (.inl x :: S) σ Q := pLdN (k := 3) f_194_35 rfl rfl rfl
theorem f_194_36 : oFet 194 36 = some (.ishl, 1) := by decide +kernel
theorem s_194_36 {d : Nat} {l0 l1 l2 l3 : oV} {x y : Int} {S : List oV} {σ : oSg} {Q : Option oV → (Nat → oC) → Prop} : oE d 194 36 [l0, l1, l2, l3] (.inl y :: .inl x :: S) σ Q = oE d 194 37 [l0, l1, l2, l3] (.inl (oShl x y) :: S) σ Q := oS3 f_194_36 rfl rfl rfl
theorem f_194_37 : oFet 194 37 = some (.ior, 1) := by decide +kernel
theorem s_194_37 {d : Nat} {l0 l1 l2 l3 : oV} {x y : Int} {S : List oV} {σ : oSg} {Q : Option oV → (Nat → oC) → Prop} : oE d 194 37 [l0, l1, l2, l3] (.inl y :: .inl x :: S) σ Q = oE d 194 38 [l0, l1, l2, l3] (.inl (oOr x y) :: S) σ Q := oS3 f_194_37 rfl rfl rfl
theorem f_194_38 : oFet 194 38 = some (.istore_n 2, 1) := by decide +kernel
theorem s_194_38 {d : Nat} {l0 l1 l2 l3 : oV} {x : Int} {S : List oV} {σ : oSg} {Q : Option oV → (Nat → oC) → Prop} (c2 : oCat l2 = 1) (c1 : oCat l1 = 1)  : oE d 194 38 [l0, l1, l2, l3] (.inl x :: S) σ Q = oE d 194 39 [l0, l1, .inl x, l3] S σ Q := pSt (i := 2) f_194_38 rfl rfl (show (2 : Nat) < 4 by decide) (oC1n c1) (oC1n c2) rfl
theorem f_194_39 : oFet 194 39 = some (.iinc 3 1, 3) := by decide +kernel
theorem s_194_39 {d : Nat} {l0 l1 l2 : oV} {x : Int} {S : List oV} {σ : oSg} {Q : Option oV → (Nat → oC) → Prop} (c2 : oCat l2 = 1)  : oE d 194 39 [l0, l1, l2, .inl x] S σ Q = oE d 194 42 [l0, l1, l2, .inl (oAdd x (1))] S σ Q := pInc f_194_39 rfl (show (3 : Nat) < 4 by decide) (oC1n c2) (oC1n (v := .inl x) rfl) rfl
theorem f_194_42 : oFet 194 42 = some (.goto (-38), 3) := by decide +kernel
theorem s_194_42 {d : Nat} {l0 l1 l2 l3 : oV} {S : List oV} {σ : oSg} {Q : Option oV → (Nat → oC) → Prop} : oE d 194 42 [l0, l1, l2, l3] S σ Q = oE d 194 4 [l0, l1, l2, l3] S σ Q := pGoto f_194_42 (by decide)
theorem f_194_45 : oFet 194 45 = some (.iload_n 2, 1) := by decide +kernel
theorem s_194_45 {d : Nat} {l0 l1 l3 : oV} {x : Int} {S : List oV} {σ : oSg} {Q : Option oV → (Nat → oC) → Prop} : oE d 194 45 [l0, l1, .inl x, l3] S σ Q = oE d 194 46 [l0, l1, .inl x, l3] (.inl x :: S) σ Q := pLdN (k := 2) f_194_45 rfl rfl rfl
theorem f_194_46 : oFet 194 46 = some (.ireturn, 1) := by decide +kernel
theorem s_194_46 {d : Nat} {l0 l1 l2 l3 : oV} {x : Int} {σ : oSg} {Q : Option oV → (Nat → oC) → Prop} : oE d 194 46 [l0, l1, l2, l3] [.inl x] σ Q = Q (some (.inl x)) (oBld σ) := oIret f_194_46 rt_194
theorem ow_195 : (oMt 195).2.2.2.2.1 = 11 := by decide +kernel
theorem rt_195 : (oMt 195).2.2.2.1 = some .int := by decide +kernel
theorem nl_195 : (oMt 195).2.2.1 = 2 := by decide +kernel
theorem f_195_0 : oFet 195 0 = some (.aload_n 0, 1) := by decide +kernel
theorem s_195_0 {d : Nat} {l1 : oV} {a : Nat} {S : List oV} {σ : oSg} {Q : Option oV → (Nat → oC) → Prop} : oE d 195 0 [.inr (.inr (.inl a)), l1] S σ Q = oE d 195 1 [.inr (.inr (.inl a)), l1] (.inr (.inr (.inl a)) :: S) σ Q := pLdN (k := 0) f_195_0 rfl rfl rfl
theorem f_195_1 : oFet 195 1 = some (.iload_n 1, 1) := by decide +kernel
theorem s_195_1 {d : Nat} {l0 : oV} {x : Int} {S : List oV} {σ : oSg} {Q : Option oV → (Nat → oC) → Prop} : oE d 195 1 [l0, .inl x] S σ Q = oE d 195 2 [l0, .inl x] (.inl x :: S) σ Q := pLdN (k := 1) f_195_1 rfl rfl rfl
theorem f_195_2 : oFet 195 2 = some (.invokevirtual 61, 3) := by decide +kernel
theorem c_195_2 {d : Nat} {l0 l1 : oV} {x0 : oV} {a : Nat} {v : Option oV} {τ : oSg} {S : List oV} {σ : oSg} {Q : Option oV → (Nat → oC) → Prop} (hm : oMi d 145 [.inr (.inr (.inl a)), x0] σ v τ) (hk : oKd a = some 11) (hs : oSmall S = true) : oE d 195 2 [l0, l1] (x0 :: .inr (.inr (.inl a)) :: S) σ Q = oE d 195 5 [l0, l1] (v.toList ++ S) τ Q := pCallV f_195_2 ow_195 lk_11_61 mt_145 rfl rfl rfl hk hs hm
theorem f_195_5 : oFet 195 5 = some (.ifCond .eq 17, 3) := by decide +kernel
theorem s_195_5 {d : Nat} {l0 l1 : oV} {x : Int} {S : List oV} {σ : oSg} {Q : Option oV → (Nat → oC) → Prop} : oE d 195 5 [l0, l1] (.inl x :: S) σ Q = if x = 0 then oE d 195 22 [l0, l1] S σ Q else oE d 195 8 [l0, l1] S σ Q := oIfEq f_195_5 (by decide)
theorem f_195_8 : oFet 195 8 = some (.aload_n 0, 1) := by decide +kernel
theorem s_195_8 {d : Nat} {l1 : oV} {a : Nat} {S : List oV} {σ : oSg} {Q : Option oV → (Nat → oC) → Prop} : oE d 195 8 [.inr (.inr (.inl a)), l1] S σ Q = oE d 195 9 [.inr (.inr (.inl a)), l1] (.inr (.inr (.inl a)) :: S) σ Q := pLdN (k := 0) f_195_8 rfl rfl rfl
theorem f_195_9 : oFet 195 9 = some (.iconst (-1), 1) := by decide +kernel
theorem s_195_9 {d : Nat} {l0 l1 : oV} {S : List oV} {σ : oSg} {Q : Option oV → (Nat → oC) → Prop} : oE d 195 9 [l0, l1] S σ Q = oE d 195 10 [l0, l1] (.inl (-1) :: S) σ Q := pKst f_195_9 (by decide)
theorem f_195_10 : oFet 195 10 = some (.invokevirtual 229, 3) := by decide +kernel
theorem c_195_10 {d : Nat} {l0 l1 : oV} {x0 : oV} {a : Nat} {v : Option oV} {τ : oSg} {S : List oV} {σ : oSg} {Q : Option oV → (Nat → oC) → Prop} (hm : oMi d 196 [.inr (.inr (.inl a)), x0] σ v τ) (hk : oKd a = some 11) (hs : oSmall S = true) : oE d 195 10 [l0, l1] (x0 :: .inr (.inr (.inl a)) :: S) σ Q = oE d 195 13 [l0, l1] (v.toList ++ S) τ Q := pCallV f_195_10 ow_195 lk_11_229 mt_196 rfl rfl rfl hk hs hm
theorem f_195_13 : oFet 195 13 = some (.aload_n 0, 1) := by decide +kernel
theorem s_195_13 {d : Nat} {l1 : oV} {a : Nat} {S : List oV} {σ : oSg} {Q : Option oV → (Nat → oC) → Prop} : oE d 195 13 [.inr (.inr (.inl a)), l1] S σ Q = oE d 195 14 [.inr (.inr (.inl a)), l1] (.inr (.inr (.inl a)) :: S) σ Q := pLdN (k := 0) f_195_13 rfl rfl rfl
theorem f_195_14 : oFet 195 14 = some (.iload_n 1, 1) := by decide +kernel
theorem s_195_14 {d : Nat} {l0 : oV} {x : Int} {S : List oV} {σ : oSg} {Q : Option oV → (Nat → oC) → Prop} : oE d 195 14 [l0, .inl x] S σ Q = oE d 195 15 [l0, .inl x] (.inl x :: S) σ Q := pLdN (k := 1) f_195_14 rfl rfl rfl
theorem f_195_15 : oFet 195 15 = some (.invokevirtual 229, 3) := by decide +kernel
theorem c_195_15 {d : Nat} {l0 l1 : oV} {x0 : oV} {a : Nat} {v : Option oV} {τ : oSg} {S : List oV} {σ : oSg} {Q : Option oV → (Nat → oC) → Prop} (hm : oMi d 196 [.inr (.inr (.inl a)), x0] σ v τ) (hk : oKd a = some 11) (hs : oSmall S = true) : oE d 195 15 [l0, l1] (x0 :: .inr (.inr (.inl a)) :: S) σ Q = oE d 195 18 [l0, l1] (v.toList ++ S) τ Q := pCallV f_195_15 ow_195 lk_11_229 mt_196 rfl rfl rfl hk hs hm
theorem f_195_18 : oFet 195 18 = some (.isub, 1) := by decide +kernel
theorem s_195_18 {d : Nat} {l0 l1 : oV} {x y : Int} {S : List oV} {σ : oSg} {Q : Option oV → (Nat → oC) → Prop} : oE d 195 18 [l0, l1] (.inl y :: .inl x :: S) σ Q = oE d 195 19 [l0, l1] (.inl (oSub x y) :: S) σ Q := oS3 f_195_18 rfl rfl rfl
theorem f_195_19 : oFet 195 19 = some (.goto 4, 3) := by decide +kernel
theorem s_195_19 {d : Nat} {l0 l1 : oV} {S : List oV} {σ : oSg} {Q : Option oV → (Nat → oC) → Prop} : oE d 195 19 [l0, l1] S σ Q = oE d 195 23 [l0, l1] S σ Q := pGoto f_195_19 (by decide)
theorem f_195_22 : oFet 195 22 = some (.iconst (-1), 1) := by decide +kernel
theorem s_195_22 {d : Nat} {l0 l1 : oV} {S : List oV} {σ : oSg} {Q : Option oV → (Nat → oC) → Prop} : oE d 195 22 [l0, l1] S σ Q = oE d 195 23 [l0, l1] (.inl (-1) :: S) σ Q := pKst f_195_22 (by decide)
theorem f_195_23 : oFet 195 23 = some (.ireturn, 1) := by decide +kernel
theorem s_195_23 {d : Nat} {l0 l1 : oV} {x : Int} {σ : oSg} {Q : Option oV → (Nat → oC) → Prop} : oE d 195 23 [l0, l1] [.inl x] σ Q = Q (some (.inl x)) (oBld σ) := oIret f_195_23 rt_195
theorem ow_196 : (oMt 196).2.2.2.2.1 = 11 := by decide +kernel
theorem rt_196 : (oMt 196).2.2.2.1 = some .int := by decide +kernel
theorem nl_196 : (oMt 196).2.2.1 = 2 := by decide +kernel
theorem f_196_0 : oFet 196 0 = some (.aload_n 0, 1) := by decide +kernel
theorem s_196_0 {d : Nat} {l1 : oV} {a : Nat} {S : List oV} {σ : oSg} {Q : Option oV → (Nat → oC) → Prop} : oE d 196 0 [.inr (.inr (.inl a)), l1] S σ Q = oE d 196 1 [.inr (.inr (.inl a)), l1] (.inr (.inr (.inl a)) :: S) σ Q := pLdN (k := 0) f_196_0 rfl rfl rfl
theorem f_196_1 : oFet 196 1 = some (.iconst 0, 1) := by decide +kernel
theorem s_196_1 {d : Nat} {l0 l1 : oV} {S : List oV} {σ : oSg} {Q : Option oV → (Nat → oC) → Prop} : oE d 196 1 [l0, l1] S σ Q = oE d 196 2 [l0, l1] (.inl (0) :: S) σ Q := pKst f_196_1 (by decide)
theorem f_196_2 : oFet 196 2 = some (.iload_n 1, 1) := by decide +kernel
theorem s_196_2 {d : Nat} {l0 : oV} {x : Int} {S : List oV} {σ : oSg} {Q : Option oV → (Nat → oC) → Prop} : oE d 196 2 [l0, .inl x] S σ Q = oE d 196 3 [l0, .inl x] (.inl x :: S) σ Q := pLdN (k := 1) f_196_2 rfl rfl rfl
theorem f_196_3 : oFet 196 3 = some (.invokevirtual 105, 3) := by decide +kernel
theorem c_196_3 {d : Nat} {l0 l1 : oV} {x0 x1 : oV} {a : Nat} {v : Option oV} {τ : oSg} {S : List oV} {σ : oSg} {Q : Option oV → (Nat → oC) → Prop} (hm : oMi d 159 [.inr (.inr (.inl a)), x0, x1] σ v τ) (hk : oKd a = some 11) (hs : oSmall S = true) : oE d 196 3 [l0, l1] (x1 :: x0 :: .inr (.inr (.inl a)) :: S) σ Q = oE d 196 6 [l0, l1] (v.toList ++ S) τ Q := pCallV f_196_3 ow_196 lk_11_105 mt_159 rfl rfl rfl hk hs hm
theorem f_196_6 : oFet 196 6 = some (.aload_n 0, 1) := by decide +kernel
theorem s_196_6 {d : Nat} {l1 : oV} {a : Nat} {S : List oV} {σ : oSg} {Q : Option oV → (Nat → oC) → Prop} : oE d 196 6 [.inr (.inr (.inl a)), l1] S σ Q = oE d 196 7 [.inr (.inr (.inl a)), l1] (.inr (.inr (.inl a)) :: S) σ Q := pLdN (k := 0) f_196_6 rfl rfl rfl
theorem f_196_7 : oFet 196 7 = some (.getfield 180, 3) := by decide +kernel
theorem s_196_7 {d : Nat} {l0 l1 : oV} {a : Nat} {S : List oV} {σ : oSg} {Q : Option oV → (Nat → oC) → Prop} (hk : oKd a = some 11) : oE d 196 7 [l0, l1] (.inr (.inr (.inl a)) :: S) σ Q = oE d 196 10 [l0, l1] (.inl (σ.1 a 15) :: S) σ Q := pGfI f_196_7 ow_196 fl_11_180 rfl (by decide) hk
theorem f_196_10 : oFet 196 10 = some (.ireturn, 1) := by decide +kernel
theorem s_196_10 {d : Nat} {l0 l1 : oV} {x : Int} {σ : oSg} {Q : Option oV → (Nat → oC) → Prop} : oE d 196 10 [l0, l1] [.inl x] σ Q = Q (some (.inl x)) (oBld σ) := oIret f_196_10 rt_196
theorem ow_197 : (oMt 197).2.2.2.2.1 = 11 := by decide +kernel
theorem rt_197 : (oMt 197).2.2.2.1 = some .int := by decide +kernel
theorem nl_197 : (oMt 197).2.2.1 = 3 := by decide +kernel
theorem f_197_0 : oFet 197 0 = some (.iload_n 1, 1) := by decide +kernel
theorem s_197_0 {d : Nat} {l0 l2 : oV} {x : Int} {S : List oV} {σ : oSg} {Q : Option oV → (Nat → oC) → Prop} : oE d 197 0 [l0, .inl x, l2] S σ Q = oE d 197 1 [l0, .inl x, l2] (.inl x :: S) σ Q := pLdN (k := 1) f_197_0 rfl rfl rfl
theorem f_197_1 : oFet 197 1 = some (.iconst (-1), 1) := by decide +kernel
theorem s_197_1 {d : Nat} {l0 l1 l2 : oV} {S : List oV} {σ : oSg} {Q : Option oV → (Nat → oC) → Prop} : oE d 197 1 [l0, l1, l2] S σ Q = oE d 197 2 [l0, l1, l2] (.inl (-1) :: S) σ Q := pKst f_197_1 (by decide)
theorem f_197_2 : oFet 197 2 = some (.if_icmp .ne 13, 3) := by decide +kernel
theorem s_197_2 {d : Nat} {l0 l1 l2 : oV} {x y : Int} {S : List oV} {σ : oSg} {Q : Option oV → (Nat → oC) → Prop} : oE d 197 2 [l0, l1, l2] (.inl y :: .inl x :: S) σ Q = if ¬ x = y then oE d 197 15 [l0, l1, l2] S σ Q else oE d 197 5 [l0, l1, l2] S σ Q := oCmpNe f_197_2 (by decide)
theorem f_197_5 : oFet 197 5 = some (.aload_n 0, 1) := by decide +kernel
theorem s_197_5 {d : Nat} {l1 l2 : oV} {a : Nat} {S : List oV} {σ : oSg} {Q : Option oV → (Nat → oC) → Prop} : oE d 197 5 [.inr (.inr (.inl a)), l1, l2] S σ Q = oE d 197 6 [.inr (.inr (.inl a)), l1, l2] (.inr (.inr (.inl a)) :: S) σ Q := pLdN (k := 0) f_197_5 rfl rfl rfl
theorem f_197_6 : oFet 197 6 = some (.getfield 11, 3) := by decide +kernel
theorem s_197_6 {d : Nat} {l0 l1 l2 : oV} {a : Nat} {S : List oV} {σ : oSg} {Q : Option oV → (Nat → oC) → Prop} (hk : oKd a = some 11) : oE d 197 6 [l0, l1, l2] (.inr (.inr (.inl a)) :: S) σ Q = oE d 197 9 [l0, l1, l2] (.inr (.inr (.inl (oRf a 0))) :: S) σ Q := pGfR f_197_6 ow_197 fl_11_11 rfl (by decide) hk
theorem f_197_9 : oFet 197 9 = some (.bipush 64, 2) := by decide +kernel
theorem s_197_9 {d : Nat} {l0 l1 l2 : oV} {S : List oV} {σ : oSg} {Q : Option oV → (Nat → oC) → Prop} : oE d 197 9 [l0, l1, l2] S σ Q = oE d 197 11 [l0, l1, l2] (.inl (64) :: S) σ Q := pBip f_197_9 (by decide)
theorem f_197_11 : oFet 197 11 = some (.iconst 0, 1) := by decide +kernel
theorem s_197_11 {d : Nat} {l0 l1 l2 : oV} {S : List oV} {σ : oSg} {Q : Option oV → (Nat → oC) → Prop} : oE d 197 11 [l0, l1, l2] S σ Q = oE d 197 12 [l0, l1, l2] (.inl (0) :: S) σ Q := pKst f_197_11 (by decide)
theorem f_197_12 : oFet 197 12 = some (.iastore, 1) := by decide +kernel
theorem s_197_12 {d : Nat} {l0 l1 l2 : oV} {a : Nat} {i v : Int} {S : List oV} {σ : oSg} {Q : Option oV → (Nat → oC) → Prop} (hk : oAk a = some 0) (h0 : 0 ≤ i) (h1 : i < (oLn a : Int)) : oE d 197 12 [l0, l1, l2] (.inl v :: .inl i :: .inr (.inr (.inl a)) :: S) σ Q = oE d 197 13 [l0, l1, l2] S (oSA σ a i.toNat v) Q := oIas f_197_12 hk h0 h1
theorem f_197_13 : oFet 197 13 = some (.iconst 0, 1) := by decide +kernel
theorem s_197_13 {d : Nat} {l0 l1 l2 : oV} {S : List oV} {σ : oSg} {Q : Option oV → (Nat → oC) → Prop} : oE d 197 13 [l0, l1, l2] S σ Q = oE d 197 14 [l0, l1, l2] (.inl (0) :: S) σ Q := pKst f_197_13 (by decide)
theorem f_197_14 : oFet 197 14 = some (.ireturn, 1) := by decide +kernel
theorem s_197_14 {d : Nat} {l0 l1 l2 : oV} {x : Int} {σ : oSg} {Q : Option oV → (Nat → oC) → Prop} : oE d 197 14 [l0, l1, l2] [.inl x] σ Q = Q (some (.inl x)) (oBld σ) := oIret f_197_14 rt_197
theorem f_197_15 : oFet 197 15 = some (.iload_n 1, 1) := by decide +kernel
theorem s_197_15 {d : Nat} {l0 l2 : oV} {x : Int} {S : List oV} {σ : oSg} {Q : Option oV → (Nat → oC) → Prop} : oE d 197 15 [l0, .inl x, l2] S σ Q = oE d 197 16 [l0, .inl x, l2] (.inl x :: S) σ Q := pLdN (k := 1) f_197_15 rfl rfl rfl
theorem f_197_16 : oFet 197 16 = some (.iconst 0, 1) := by decide +kernel
theorem s_197_16 {d : Nat} {l0 l1 l2 : oV} {S : List oV} {σ : oSg} {Q : Option oV → (Nat → oC) → Prop} : oE d 197 16 [l0, l1, l2] S σ Q = oE d 197 17 [l0, l1, l2] (.inl (0) :: S) σ Q := pKst f_197_16 (by decide)
theorem f_197_17 : oFet 197 17 = some (.iconst 1, 1) := by decide +kernel
theorem s_197_17 {d : Nat} {l0 l1 l2 : oV} {S : List oV} {σ : oSg} {Q : Option oV → (Nat → oC) → Prop} : oE d 197 17 [l0, l1, l2] S σ Q = oE d 197 18 [l0, l1, l2] (.inl (1) :: S) σ Q := pKst f_197_17 (by decide)
theorem f_197_18 : oFet 197 18 = some (.aload_n 0, 1) := by decide +kernel
theorem s_197_18 {d : Nat} {l1 l2 : oV} {a : Nat} {S : List oV} {σ : oSg} {Q : Option oV → (Nat → oC) → Prop} : oE d 197 18 [.inr (.inr (.inl a)), l1, l2] S σ Q = oE d 197 19 [.inr (.inr (.inl a)), l1, l2] (.inr (.inr (.inl a)) :: S) σ Q := pLdN (k := 0) f_197_18 rfl rfl rfl
theorem f_197_19 : oFet 197 19 = some (.getfield 11, 3) := by decide +kernel
theorem s_197_19 {d : Nat} {l0 l1 l2 : oV} {a : Nat} {S : List oV} {σ : oSg} {Q : Option oV → (Nat → oC) → Prop} (hk : oKd a = some 11) : oE d 197 19 [l0, l1, l2] (.inr (.inr (.inl a)) :: S) σ Q = oE d 197 22 [l0, l1, l2] (.inr (.inr (.inl (oRf a 0))) :: S) σ Q := pGfR f_197_19 ow_197 fl_11_11 rfl (by decide) hk
theorem f_197_22 : oFet 197 22 = some (.iconst 0, 1) := by decide +kernel
theorem s_197_22 {d : Nat} {l0 l1 l2 : oV} {S : List oV} {σ : oSg} {Q : Option oV → (Nat → oC) → Prop} : oE d 197 22 [l0, l1, l2] S σ Q = oE d 197 23 [l0, l1, l2] (.inl (0) :: S) σ Q := pKst f_197_22 (by decide)
theorem f_197_23 : oFet 197 23 = some (.iaload, 1) := by decide +kernel
theorem s_197_23 {d : Nat} {l0 l1 l2 : oV} {a : Nat} {i : Int} {S : List oV} {σ : oSg} {Q : Option oV → (Nat → oC) → Prop} (hk : oAk a = some 0) (h0 : 0 ≤ i) (h1 : i < (oLn a : Int)) : oE d 197 23 [l0, l1, l2] (.inl i :: .inr (.inr (.inl a)) :: S) σ Q = oE d 197 24 [l0, l1, l2] (.inl (σ.2 a i.toNat) :: S) σ Q := oIal f_197_23 hk h0 h1
theorem f_197_24 : oFet 197 24 = some (.ishl, 1) := by decide +kernel
theorem s_197_24 {d : Nat} {l0 l1 l2 : oV} {x y : Int} {S : List oV} {σ : oSg} {Q : Option oV → (Nat → oC) → Prop} : oE d 197 24 [l0, l1, l2] (.inl y :: .inl x :: S) σ Q = oE d 197 25 [l0, l1, l2] (.inl (oShl x y) :: S) σ Q := oS3 f_197_24 rfl rfl rfl
theorem f_197_25 : oFet 197 25 = some (.iconst 1, 1) := by decide +kernel
theorem s_197_25 {d : Nat} {l0 l1 l2 : oV} {S : List oV} {σ : oSg} {Q : Option oV → (Nat → oC) → Prop} : oE d 197 25 [l0, l1, l2] S σ Q = oE d 197 26 [l0, l1, l2] (.inl (1) :: S) σ Q := pKst f_197_25 (by decide)
theorem f_197_26 : oFet 197 26 = some (.isub, 1) := by decide +kernel
theorem s_197_26 {d : Nat} {l0 l1 l2 : oV} {x y : Int} {S : List oV} {σ : oSg} {Q : Option oV → (Nat → oC) → Prop} : oE d 197 26 [l0, l1, l2] (.inl y :: .inl x :: S) σ Q = oE d 197 27 [l0, l1, l2] (.inl (oSub x y) :: S) σ Q := oS3 f_197_26 rfl rfl rfl
theorem f_197_27 : oFet 197 27 = some (.invokestatic 57, 3) := by decide +kernel
theorem c_197_27 {d : Nat} {l0 l1 l2 : oV} {x0 x1 x2 : oV} {v : Option oV} {τ : oSg} {S : List oV} {σ : oSg} {Q : Option oV → (Nat → oC) → Prop} (hm : oMi d 146 [x0, x1, x2] σ v τ) (hs : oSmall S = true) : oE d 197 27 [l0, l1, l2] (x2 :: x1 :: x0 :: S) σ Q = oE d 197 30 [l0, l1, l2] (v.toList ++ S) τ Q := pCallS f_197_27 ow_197 lk_11_57 mt_146 rfl rfl rfl hs hm
theorem f_197_30 : oFet 197 30 = some (.ifCond .eq 30, 3) := by decide +kernel
theorem s_197_30 {d : Nat} {l0 l1 l2 : oV} {x : Int} {S : List oV} {σ : oSg} {Q : Option oV → (Nat → oC) → Prop} : oE d 197 30 [l0, l1, l2] (.inl x :: S) σ Q = if x = 0 then oE d 197 60 [l0, l1, l2] S σ Q else oE d 197 33 [l0, l1, l2] S σ Q := oIfEq f_197_30 (by decide)
theorem f_197_33 : oFet 197 33 = some (.iload_n 1, 1) := by decide +kernel
theorem s_197_33 {d : Nat} {l0 l2 : oV} {x : Int} {S : List oV} {σ : oSg} {Q : Option oV → (Nat → oC) → Prop} : oE d 197 33 [l0, .inl x, l2] S σ Q = oE d 197 34 [l0, .inl x, l2] (.inl x :: S) σ Q := pLdN (k := 1) f_197_33 rfl rfl rfl
theorem f_197_34 : oFet 197 34 = some (.invokestatic 211, 3) := by decide +kernel
theorem c_197_34 {d : Nat} {l0 l1 l2 : oV} {x0 : oV} {v : Option oV} {τ : oSg} {S : List oV} {σ : oSg} {Q : Option oV → (Nat → oC) → Prop} (hm : oMi d 188 [x0] σ v τ) (hs : oSmall S = true) : oE d 197 34 [l0, l1, l2] (x0 :: S) σ Q = oE d 197 37 [l0, l1, l2] (v.toList ++ S) τ Q := pCallS f_197_34 ow_197 lk_11_211 mt_188 rfl rfl rfl hs hm
theorem f_197_37 : oFet 197 37 = some (.iconst 3, 1) := by decide +kernel
theorem s_197_37 {d : Nat} {l0 l1 l2 : oV} {S : List oV} {σ : oSg} {Q : Option oV → (Nat → oC) → Prop} : oE d 197 37 [l0, l1, l2] S σ Q = oE d 197 38 [l0, l1, l2] (.inl (3) :: S) σ Q := pKst f_197_37 (by decide)
theorem f_197_38 : oFet 197 38 = some (.if_icmp .lt 22, 3) := by decide +kernel
theorem s_197_38 {d : Nat} {l0 l1 l2 : oV} {x y : Int} {S : List oV} {σ : oSg} {Q : Option oV → (Nat → oC) → Prop} : oE d 197 38 [l0, l1, l2] (.inl y :: .inl x :: S) σ Q = if x < y then oE d 197 60 [l0, l1, l2] S σ Q else oE d 197 41 [l0, l1, l2] S σ Q := oCmpLt f_197_38 (by decide)
theorem f_197_41 : oFet 197 41 = some (.iload_n 1, 1) := by decide +kernel
theorem s_197_41 {d : Nat} {l0 l2 : oV} {x : Int} {S : List oV} {σ : oSg} {Q : Option oV → (Nat → oC) → Prop} : oE d 197 41 [l0, .inl x, l2] S σ Q = oE d 197 42 [l0, .inl x, l2] (.inl x :: S) σ Q := pLdN (k := 1) f_197_41 rfl rfl rfl
theorem f_197_42 : oFet 197 42 = some (.invokestatic 211, 3) := by decide +kernel
theorem c_197_42 {d : Nat} {l0 l1 l2 : oV} {x0 : oV} {v : Option oV} {τ : oSg} {S : List oV} {σ : oSg} {Q : Option oV → (Nat → oC) → Prop} (hm : oMi d 188 [x0] σ v τ) (hs : oSmall S = true) : oE d 197 42 [l0, l1, l2] (x0 :: S) σ Q = oE d 197 45 [l0, l1, l2] (v.toList ++ S) τ Q := pCallS f_197_42 ow_197 lk_11_211 mt_188 rfl rfl rfl hs hm
theorem f_197_45 : oFet 197 45 = some (.iconst 2, 1) := by decide +kernel
theorem s_197_45 {d : Nat} {l0 l1 l2 : oV} {S : List oV} {σ : oSg} {Q : Option oV → (Nat → oC) → Prop} : oE d 197 45 [l0, l1, l2] S σ Q = oE d 197 46 [l0, l1, l2] (.inl (2) :: S) σ Q := pKst f_197_45 (by decide)
theorem f_197_46 : oFet 197 46 = some (.irem, 1) := by decide +kernel
theorem s_197_46 {d : Nat} {l0 l1 l2 : oV} {x y : Int} {S : List oV} {σ : oSg} {Q : Option oV → (Nat → oC) → Prop} (hy : y ≠ 0) : oE d 197 46 [l0, l1, l2] (.inl y :: .inl x :: S) σ Q = oE d 197 47 [l0, l1, l2] (.inl (oRem x y) :: S) σ Q := pRem f_197_46 hy
theorem f_197_47 : oFet 197 47 = some (.ifCond .eq 13, 3) := by decide +kernel
theorem s_197_47 {d : Nat} {l0 l1 l2 : oV} {x : Int} {S : List oV} {σ : oSg} {Q : Option oV → (Nat → oC) → Prop} : oE d 197 47 [l0, l1, l2] (.inl x :: S) σ Q = if x = 0 then oE d 197 60 [l0, l1, l2] S σ Q else oE d 197 50 [l0, l1, l2] S σ Q := oIfEq f_197_47 (by decide)
theorem f_197_50 : oFet 197 50 = some (.iload_n 2, 1) := by decide +kernel
theorem s_197_50 {d : Nat} {l0 l1 : oV} {x : Int} {S : List oV} {σ : oSg} {Q : Option oV → (Nat → oC) → Prop} : oE d 197 50 [l0, l1, .inl x] S σ Q = oE d 197 51 [l0, l1, .inl x] (.inl x :: S) σ Q := pLdN (k := 2) f_197_50 rfl rfl rfl
theorem f_197_51 : oFet 197 51 = some (.iconst 1, 1) := by decide +kernel
theorem s_197_51 {d : Nat} {l0 l1 l2 : oV} {S : List oV} {σ : oSg} {Q : Option oV → (Nat → oC) → Prop} : oE d 197 51 [l0, l1, l2] S σ Q = oE d 197 52 [l0, l1, l2] (.inl (1) :: S) σ Q := pKst f_197_51 (by decide)
theorem f_197_52 : oFet 197 52 = some (.bipush 40, 2) := by decide +kernel
theorem s_197_52 {d : Nat} {l0 l1 l2 : oV} {S : List oV} {σ : oSg} {Q : Option oV → (Nat → oC) → Prop} : oE d 197 52 [l0, l1, l2] S σ Q = oE d 197 54 [l0, l1, l2] (.inl (40) :: S) σ Q := pBip f_197_52 (by decide)
theorem f_197_54 : oFet 197 54 = some (.invokestatic 57, 3) := by decide +kernel
theorem c_197_54 {d : Nat} {l0 l1 l2 : oV} {x0 x1 x2 : oV} {v : Option oV} {τ : oSg} {S : List oV} {σ : oSg} {Q : Option oV → (Nat → oC) → Prop} (hm : oMi d 146 [x0, x1, x2] σ v τ) (hs : oSmall S = true) : oE d 197 54 [l0, l1, l2] (x2 :: x1 :: x0 :: S) σ Q = oE d 197 57 [l0, l1, l2] (v.toList ++ S) τ Q := pCallS f_197_54 ow_197 lk_11_57 mt_146 rfl rfl rfl hs hm
theorem f_197_57 : oFet 197 57 = some (.ifCond .ne 6, 3) := by decide +kernel
theorem s_197_57 {d : Nat} {l0 l1 l2 : oV} {x : Int} {S : List oV} {σ : oSg} {Q : Option oV → (Nat → oC) → Prop} : oE d 197 57 [l0, l1, l2] (.inl x :: S) σ Q = if ¬ x = 0 then oE d 197 63 [l0, l1, l2] S σ Q else oE d 197 60 [l0, l1, l2] S σ Q := oIfNe f_197_57 (by decide)
theorem f_197_60 : oFet 197 60 = some (.bipush (-2), 2) := by decide +kernel
theorem s_197_60 {d : Nat} {l0 l1 l2 : oV} {S : List oV} {σ : oSg} {Q : Option oV → (Nat → oC) → Prop} : oE d 197 60 [l0, l1, l2] S σ Q = oE d 197 62 [l0, l1, l2] (.inl (-2) :: S) σ Q := pBip f_197_60 (by decide)
theorem f_197_62 : oFet 197 62 = some (.ireturn, 1) := by decide +kernel
theorem s_197_62 {d : Nat} {l0 l1 l2 : oV} {x : Int} {σ : oSg} {Q : Option oV → (Nat → oC) → Prop} : oE d 197 62 [l0, l1, l2] [.inl x] σ Q = Q (some (.inl x)) (oBld σ) := oIret f_197_62 rt_197
theorem f_197_63 : oFet 197 63 = some (.aload_n 0, 1) := by decide +kernel
theorem s_197_63 {d : Nat} {l1 l2 : oV} {a : Nat} {S : List oV} {σ : oSg} {Q : Option oV → (Nat → oC) → Prop} : oE d 197 63 [.inr (.inr (.inl a)), l1, l2] S σ Q = oE d 197 64 [.inr (.inr (.inl a)), l1, l2] (.inr (.inr (.inl a)) :: S) σ Q := pLdN (k := 0) f_197_63 rfl rfl rfl
theorem f_197_64 : oFet 197 64 = some (.getfield 11, 3) := by decide +kernel
theorem s_197_64 {d : Nat} {l0 l1 l2 : oV} {a : Nat} {S : List oV} {σ : oSg} {Q : Option oV → (Nat → oC) → Prop} (hk : oKd a = some 11) : oE d 197 64 [l0, l1, l2] (.inr (.inr (.inl a)) :: S) σ Q = oE d 197 67 [l0, l1, l2] (.inr (.inr (.inl (oRf a 0))) :: S) σ Q := pGfR f_197_64 ow_197 fl_11_11 rfl (by decide) hk
theorem f_197_67 : oFet 197 67 = some (.bipush 64, 2) := by decide +kernel
theorem s_197_67 {d : Nat} {l0 l1 l2 : oV} {S : List oV} {σ : oSg} {Q : Option oV → (Nat → oC) → Prop} : oE d 197 67 [l0, l1, l2] S σ Q = oE d 197 69 [l0, l1, l2] (.inl (64) :: S) σ Q := pBip f_197_67 (by decide)
theorem f_197_69 : oFet 197 69 = some (.iaload, 1) := by decide +kernel
theorem s_197_69 {d : Nat} {l0 l1 l2 : oV} {a : Nat} {i : Int} {S : List oV} {σ : oSg} {Q : Option oV → (Nat → oC) → Prop} (hk : oAk a = some 0) (h0 : 0 ≤ i) (h1 : i < (oLn a : Int)) : oE d 197 69 [l0, l1, l2] (.inl i :: .inr (.inr (.inl a)) :: S) σ Q = oE d 197 70 [l0, l1, l2] (.inl (σ.2 a i.toNat) :: S) σ Q := oIal f_197_69 hk h0 h1
theorem f_197_70 : oFet 197 70 = some (.iconst 3, 1) := by decide +kernel
theorem s_197_70 {d : Nat} {l0 l1 l2 : oV} {S : List oV} {σ : oSg} {Q : Option oV → (Nat → oC) → Prop} : oE d 197 70 [l0, l1, l2] S σ Q = oE d 197 71 [l0, l1, l2] (.inl (3) :: S) σ Q := pKst f_197_70 (by decide)
theorem f_197_71 : oFet 197 71 = some (.if_icmp .ne 6, 3) := by decide +kernel
theorem s_197_71 {d : Nat} {l0 l1 l2 : oV} {x y : Int} {S : List oV} {σ : oSg} {Q : Option oV → (Nat → oC) → Prop} : oE d 197 71 [l0, l1, l2] (.inl y :: .inl x :: S) σ Q = if ¬ x = y then oE d 197 77 [l0, l1, l2] S σ Q else oE d 197 74 [l0, l1, l2] S σ Q := oCmpNe f_197_71 (by decide)
theorem f_197_74 : oFet 197 74 = some (.bipush (-4), 2) := by decide +kernel
theorem s_197_74 {d : Nat} {l0 l1 l2 : oV} {S : List oV} {σ : oSg} {Q : Option oV → (Nat → oC) → Prop} : oE d 197 74 [l0, l1, l2] S σ Q = oE d 197 76 [l0, l1, l2] (.inl (-4) :: S) σ Q := pBip f_197_74 (by decide)
theorem f_197_76 : oFet 197 76 = some (.ireturn, 1) := by decide +kernel
theorem s_197_76 {d : Nat} {l0 l1 l2 : oV} {x : Int} {σ : oSg} {Q : Option oV → (Nat → oC) → Prop} : oE d 197 76 [l0, l1, l2] [.inl x] σ Q = Q (some (.inl x)) (oBld σ) := oIret f_197_76 rt_197
theorem f_197_77 : oFet 197 77 = some (.aload_n 0, 1) := by decide +kernel
theorem s_197_77 {d : Nat} {l1 l2 : oV} {a : Nat} {S : List oV} {σ : oSg} {Q : Option oV → (Nat → oC) → Prop} : oE d 197 77 [.inr (.inr (.inl a)), l1, l2] S σ Q = oE d 197 78 [.inr (.inr (.inl a)), l1, l2] (.inr (.inr (.inl a)) :: S) σ Q := pLdN (k := 0) f_197_77 rfl rfl rfl
theorem f_197_78 : oFet 197 78 = some (.getfield 11, 3) := by decide +kernel
theorem s_197_78 {d : Nat} {l0 l1 l2 : oV} {a : Nat} {S : List oV} {σ : oSg} {Q : Option oV → (Nat → oC) → Prop} (hk : oKd a = some 11) : oE d 197 78 [l0, l1, l2] (.inr (.inr (.inl a)) :: S) σ Q = oE d 197 81 [l0, l1, l2] (.inr (.inr (.inl (oRf a 0))) :: S) σ Q := pGfR f_197_78 ow_197 fl_11_11 rfl (by decide) hk
theorem f_197_81 : oFet 197 81 = some (.bipush 65, 2) := by decide +kernel
theorem s_197_81 {d : Nat} {l0 l1 l2 : oV} {S : List oV} {σ : oSg} {Q : Option oV → (Nat → oC) → Prop} : oE d 197 81 [l0, l1, l2] S σ Q = oE d 197 83 [l0, l1, l2] (.inl (65) :: S) σ Q := pBip f_197_81 (by decide)
theorem f_197_83 : oFet 197 83 = some (.aload_n 0, 1) := by decide +kernel
theorem s_197_83 {d : Nat} {l1 l2 : oV} {a : Nat} {S : List oV} {σ : oSg} {Q : Option oV → (Nat → oC) → Prop} : oE d 197 83 [.inr (.inr (.inl a)), l1, l2] S σ Q = oE d 197 84 [.inr (.inr (.inl a)), l1, l2] (.inr (.inr (.inl a)) :: S) σ Q := pLdN (k := 0) f_197_83 rfl rfl rfl
theorem f_197_84 : oFet 197 84 = some (.getfield 11, 3) := by decide +kernel
theorem s_197_84 {d : Nat} {l0 l1 l2 : oV} {a : Nat} {S : List oV} {σ : oSg} {Q : Option oV → (Nat → oC) → Prop} (hk : oKd a = some 11) : oE d 197 84 [l0, l1, l2] (.inr (.inr (.inl a)) :: S) σ Q = oE d 197 87 [l0, l1, l2] (.inr (.inr (.inl (oRf a 0))) :: S) σ Q := pGfR f_197_84 ow_197 fl_11_11 rfl (by decide) hk
theorem f_197_87 : oFet 197 87 = some (.bipush 64, 2) := by decide +kernel
theorem s_197_87 {d : Nat} {l0 l1 l2 : oV} {S : List oV} {σ : oSg} {Q : Option oV → (Nat → oC) → Prop} : oE d 197 87 [l0, l1, l2] S σ Q = oE d 197 89 [l0, l1, l2] (.inl (64) :: S) σ Q := pBip f_197_87 (by decide)
theorem f_197_89 : oFet 197 89 = some (.iaload, 1) := by decide +kernel
theorem s_197_89 {d : Nat} {l0 l1 l2 : oV} {a : Nat} {i : Int} {S : List oV} {σ : oSg} {Q : Option oV → (Nat → oC) → Prop} (hk : oAk a = some 0) (h0 : 0 ≤ i) (h1 : i < (oLn a : Int)) : oE d 197 89 [l0, l1, l2] (.inl i :: .inr (.inr (.inl a)) :: S) σ Q = oE d 197 90 [l0, l1, l2] (.inl (σ.2 a i.toNat) :: S) σ Q := oIal f_197_89 hk h0 h1
theorem f_197_90 : oFet 197 90 = some (.iadd, 1) := by decide +kernel
theorem s_197_90 {d : Nat} {l0 l1 l2 : oV} {x y : Int} {S : List oV} {σ : oSg} {Q : Option oV → (Nat → oC) → Prop} : oE d 197 90 [l0, l1, l2] (.inl y :: .inl x :: S) σ Q = oE d 197 91 [l0, l1, l2] (.inl (oAdd x y) :: S) σ Q := oS3 f_197_90 rfl rfl rfl
theorem f_197_91 : oFet 197 91 = some (.iload_n 1, 1) := by decide +kernel
theorem s_197_91 {d : Nat} {l0 l2 : oV} {x : Int} {S : List oV} {σ : oSg} {Q : Option oV → (Nat → oC) → Prop} : oE d 197 91 [l0, .inl x, l2] S σ Q = oE d 197 92 [l0, .inl x, l2] (.inl x :: S) σ Q := pLdN (k := 1) f_197_91 rfl rfl rfl
theorem f_197_92 : oFet 197 92 = some (.iastore, 1) := by decide +kernel
theorem s_197_92 {d : Nat} {l0 l1 l2 : oV} {a : Nat} {i v : Int} {S : List oV} {σ : oSg} {Q : Option oV → (Nat → oC) → Prop} (hk : oAk a = some 0) (h0 : 0 ≤ i) (h1 : i < (oLn a : Int)) : oE d 197 92 [l0, l1, l2] (.inl v :: .inl i :: .inr (.inr (.inl a)) :: S) σ Q = oE d 197 93 [l0, l1, l2] S (oSA σ a i.toNat v) Q := oIas f_197_92 hk h0 h1
theorem f_197_93 : oFet 197 93 = some (.aload_n 0, 1) := by decide +kernel
theorem s_197_93 {d : Nat} {l1 l2 : oV} {a : Nat} {S : List oV} {σ : oSg} {Q : Option oV → (Nat → oC) → Prop} : oE d 197 93 [.inr (.inr (.inl a)), l1, l2] S σ Q = oE d 197 94 [.inr (.inr (.inl a)), l1, l2] (.inr (.inr (.inl a)) :: S) σ Q := pLdN (k := 0) f_197_93 rfl rfl rfl
theorem f_197_94 : oFet 197 94 = some (.getfield 11, 3) := by decide +kernel
theorem s_197_94 {d : Nat} {l0 l1 l2 : oV} {a : Nat} {S : List oV} {σ : oSg} {Q : Option oV → (Nat → oC) → Prop} (hk : oKd a = some 11) : oE d 197 94 [l0, l1, l2] (.inr (.inr (.inl a)) :: S) σ Q = oE d 197 97 [l0, l1, l2] (.inr (.inr (.inl (oRf a 0))) :: S) σ Q := pGfR f_197_94 ow_197 fl_11_11 rfl (by decide) hk
theorem f_197_97 : oFet 197 97 = some (.bipush 68, 2) := by decide +kernel
theorem s_197_97 {d : Nat} {l0 l1 l2 : oV} {S : List oV} {σ : oSg} {Q : Option oV → (Nat → oC) → Prop} : oE d 197 97 [l0, l1, l2] S σ Q = oE d 197 99 [l0, l1, l2] (.inl (68) :: S) σ Q := pBip f_197_97 (by decide)
theorem f_197_99 : oFet 197 99 = some (.aload_n 0, 1) := by decide +kernel
theorem s_197_99 {d : Nat} {l1 l2 : oV} {a : Nat} {S : List oV} {σ : oSg} {Q : Option oV → (Nat → oC) → Prop} : oE d 197 99 [.inr (.inr (.inl a)), l1, l2] S σ Q = oE d 197 100 [.inr (.inr (.inl a)), l1, l2] (.inr (.inr (.inl a)) :: S) σ Q := pLdN (k := 0) f_197_99 rfl rfl rfl
theorem f_197_100 : oFet 197 100 = some (.getfield 11, 3) := by decide +kernel
theorem s_197_100 {d : Nat} {l0 l1 l2 : oV} {a : Nat} {S : List oV} {σ : oSg} {Q : Option oV → (Nat → oC) → Prop} (hk : oKd a = some 11) : oE d 197 100 [l0, l1, l2] (.inr (.inr (.inl a)) :: S) σ Q = oE d 197 103 [l0, l1, l2] (.inr (.inr (.inl (oRf a 0))) :: S) σ Q := pGfR f_197_100 ow_197 fl_11_11 rfl (by decide) hk
theorem f_197_103 : oFet 197 103 = some (.bipush 64, 2) := by decide +kernel
theorem s_197_103 {d : Nat} {l0 l1 l2 : oV} {S : List oV} {σ : oSg} {Q : Option oV → (Nat → oC) → Prop} : oE d 197 103 [l0, l1, l2] S σ Q = oE d 197 105 [l0, l1, l2] (.inl (64) :: S) σ Q := pBip f_197_103 (by decide)
theorem f_197_105 : oFet 197 105 = some (.iaload, 1) := by decide +kernel
theorem s_197_105 {d : Nat} {l0 l1 l2 : oV} {a : Nat} {i : Int} {S : List oV} {σ : oSg} {Q : Option oV → (Nat → oC) → Prop} (hk : oAk a = some 0) (h0 : 0 ≤ i) (h1 : i < (oLn a : Int)) : oE d 197 105 [l0, l1, l2] (.inl i :: .inr (.inr (.inl a)) :: S) σ Q = oE d 197 106 [l0, l1, l2] (.inl (σ.2 a i.toNat) :: S) σ Q := oIal f_197_105 hk h0 h1
theorem f_197_106 : oFet 197 106 = some (.iadd, 1) := by decide +kernel
theorem s_197_106 {d : Nat} {l0 l1 l2 : oV} {x y : Int} {S : List oV} {σ : oSg} {Q : Option oV → (Nat → oC) → Prop} : oE d 197 106 [l0, l1, l2] (.inl y :: .inl x :: S) σ Q = oE d 197 107 [l0, l1, l2] (.inl (oAdd x y) :: S) σ Q := oS3 f_197_106 rfl rfl rfl
theorem f_197_107 : oFet 197 107 = some (.iload_n 2, 1) := by decide +kernel
theorem s_197_107 {d : Nat} {l0 l1 : oV} {x : Int} {S : List oV} {σ : oSg} {Q : Option oV → (Nat → oC) → Prop} : oE d 197 107 [l0, l1, .inl x] S σ Q = oE d 197 108 [l0, l1, .inl x] (.inl x :: S) σ Q := pLdN (k := 2) f_197_107 rfl rfl rfl
theorem f_197_108 : oFet 197 108 = some (.iastore, 1) := by decide +kernel
theorem s_197_108 {d : Nat} {l0 l1 l2 : oV} {a : Nat} {i v : Int} {S : List oV} {σ : oSg} {Q : Option oV → (Nat → oC) → Prop} (hk : oAk a = some 0) (h0 : 0 ≤ i) (h1 : i < (oLn a : Int)) : oE d 197 108 [l0, l1, l2] (.inl v :: .inl i :: .inr (.inr (.inl a)) :: S) σ Q = oE d 197 109 [l0, l1, l2] S (oSA σ a i.toNat v) Q := oIas f_197_108 hk h0 h1
theorem f_197_109 : oFet 197 109 = some (.aload_n 0, 1) := by decide +kernel
theorem s_197_109 {d : Nat} {l1 l2 : oV} {a : Nat} {S : List oV} {σ : oSg} {Q : Option oV → (Nat → oC) → Prop} : oE d 197 109 [.inr (.inr (.inl a)), l1, l2] S σ Q = oE d 197 110 [.inr (.inr (.inl a)), l1, l2] (.inr (.inr (.inl a)) :: S) σ Q := pLdN (k := 0) f_197_109 rfl rfl rfl
theorem f_197_110 : oFet 197 110 = some (.getfield 11, 3) := by decide +kernel
theorem s_197_110 {d : Nat} {l0 l1 l2 : oV} {a : Nat} {S : List oV} {σ : oSg} {Q : Option oV → (Nat → oC) → Prop} (hk : oKd a = some 11) : oE d 197 110 [l0, l1, l2] (.inr (.inr (.inl a)) :: S) σ Q = oE d 197 113 [l0, l1, l2] (.inr (.inr (.inl (oRf a 0))) :: S) σ Q := pGfR f_197_110 ow_197 fl_11_11 rfl (by decide) hk
theorem f_197_113 : oFet 197 113 = some (.bipush 64, 2) := by decide +kernel
theorem s_197_113 {d : Nat} {l0 l1 l2 : oV} {S : List oV} {σ : oSg} {Q : Option oV → (Nat → oC) → Prop} : oE d 197 113 [l0, l1, l2] S σ Q = oE d 197 115 [l0, l1, l2] (.inl (64) :: S) σ Q := pBip f_197_113 (by decide)
theorem f_197_115 : oFet 197 115 = some (.dup2, 1) := by decide +kernel
theorem s_197_115 {d : Nat} {l0 l1 l2 : oV} {x : Int} {a : Nat} {S : List oV} {σ : oSg} {Q : Option oV → (Nat → oC) → Prop} : oE d 197 115 [l0, l1, l2] (.inl x :: .inr (.inr (.inl a)) :: S) σ Q = oE d 197 116 [l0, l1, l2] (.inl x :: .inr (.inr (.inl a)) :: .inl x :: .inr (.inr (.inl a)) :: S) σ Q := pDup2 f_197_115 rfl rfl
theorem f_197_116 : oFet 197 116 = some (.iaload, 1) := by decide +kernel
theorem s_197_116 {d : Nat} {l0 l1 l2 : oV} {a : Nat} {i : Int} {S : List oV} {σ : oSg} {Q : Option oV → (Nat → oC) → Prop} (hk : oAk a = some 0) (h0 : 0 ≤ i) (h1 : i < (oLn a : Int)) : oE d 197 116 [l0, l1, l2] (.inl i :: .inr (.inr (.inl a)) :: S) σ Q = oE d 197 117 [l0, l1, l2] (.inl (σ.2 a i.toNat) :: S) σ Q := oIal f_197_116 hk h0 h1
theorem f_197_117 : oFet 197 117 = some (.iconst 1, 1) := by decide +kernel
theorem s_197_117 {d : Nat} {l0 l1 l2 : oV} {S : List oV} {σ : oSg} {Q : Option oV → (Nat → oC) → Prop} : oE d 197 117 [l0, l1, l2] S σ Q = oE d 197 118 [l0, l1, l2] (.inl (1) :: S) σ Q := pKst f_197_117 (by decide)
theorem f_197_118 : oFet 197 118 = some (.iadd, 1) := by decide +kernel
theorem s_197_118 {d : Nat} {l0 l1 l2 : oV} {x y : Int} {S : List oV} {σ : oSg} {Q : Option oV → (Nat → oC) → Prop} : oE d 197 118 [l0, l1, l2] (.inl y :: .inl x :: S) σ Q = oE d 197 119 [l0, l1, l2] (.inl (oAdd x y) :: S) σ Q := oS3 f_197_118 rfl rfl rfl
theorem f_197_119 : oFet 197 119 = some (.iastore, 1) := by decide +kernel
theorem s_197_119 {d : Nat} {l0 l1 l2 : oV} {a : Nat} {i v : Int} {S : List oV} {σ : oSg} {Q : Option oV → (Nat → oC) → Prop} (hk : oAk a = some 0) (h0 : 0 ≤ i) (h1 : i < (oLn a : Int)) : oE d 197 119 [l0, l1, l2] (.inl v :: .inl i :: .inr (.inr (.inl a)) :: S) σ Q = oE d 197 120 [l0, l1, l2] S (oSA σ a i.toNat v) Q := oIas f_197_119 hk h0 h1
theorem f_197_120 : oFet 197 120 = some (.aload_n 0, 1) := by decide +kernel
theorem s_197_120 {d : Nat} {l1 l2 : oV} {a : Nat} {S : List oV} {σ : oSg} {Q : Option oV → (Nat → oC) → Prop} : oE d 197 120 [.inr (.inr (.inl a)), l1, l2] S σ Q = oE d 197 121 [.inr (.inr (.inl a)), l1, l2] (.inr (.inr (.inl a)) :: S) σ Q := pLdN (k := 0) f_197_120 rfl rfl rfl
theorem f_197_121 : oFet 197 121 = some (.getfield 11, 3) := by decide +kernel
theorem s_197_121 {d : Nat} {l0 l1 l2 : oV} {a : Nat} {S : List oV} {σ : oSg} {Q : Option oV → (Nat → oC) → Prop} (hk : oKd a = some 11) : oE d 197 121 [l0, l1, l2] (.inr (.inr (.inl a)) :: S) σ Q = oE d 197 124 [l0, l1, l2] (.inr (.inr (.inl (oRf a 0))) :: S) σ Q := pGfR f_197_121 ow_197 fl_11_11 rfl (by decide) hk
theorem f_197_124 : oFet 197 124 = some (.bipush 64, 2) := by decide +kernel
theorem s_197_124 {d : Nat} {l0 l1 l2 : oV} {S : List oV} {σ : oSg} {Q : Option oV → (Nat → oC) → Prop} : oE d 197 124 [l0, l1, l2] S σ Q = oE d 197 126 [l0, l1, l2] (.inl (64) :: S) σ Q := pBip f_197_124 (by decide)
theorem f_197_126 : oFet 197 126 = some (.iaload, 1) := by decide +kernel
theorem s_197_126 {d : Nat} {l0 l1 l2 : oV} {a : Nat} {i : Int} {S : List oV} {σ : oSg} {Q : Option oV → (Nat → oC) → Prop} (hk : oAk a = some 0) (h0 : 0 ≤ i) (h1 : i < (oLn a : Int)) : oE d 197 126 [l0, l1, l2] (.inl i :: .inr (.inr (.inl a)) :: S) σ Q = oE d 197 127 [l0, l1, l2] (.inl (σ.2 a i.toNat) :: S) σ Q := oIal f_197_126 hk h0 h1
theorem f_197_127 : oFet 197 127 = some (.ireturn, 1) := by decide +kernel
theorem s_197_127 {d : Nat} {l0 l1 l2 : oV} {x : Int} {σ : oSg} {Q : Option oV → (Nat → oC) → Prop} : oE d 197 127 [l0, l1, l2] [.inl x] σ Q = Q (some (.inl x)) (oBld σ) := oIret f_197_127 rt_197
theorem ow_198 : (oMt 198).2.2.2.2.1 = 11 := by decide +kernel
theorem rt_198 : (oMt 198).2.2.2.1 = some .int := by decide +kernel
theorem nl_198 : (oMt 198).2.2.1 = 4 := by decide +kernel
theorem f_198_0 : oFet 198 0 = some (.iconst 0, 1) := by decide +kernel
theorem s_198_0 {d : Nat} {l0 l1 l2 l3 : oV} {S : List oV} {σ : oSg} {Q : Option oV → (Nat → oC) → Prop} : oE d 198 0 [l0, l1, l2, l3] S σ Q = oE d 198 1 [l0, l1, l2, l3] (.inl (0) :: S) σ Q := pKst f_198_0 (by decide)
theorem f_198_1 : oFet 198 1 = some (.istore_n 1, 1) := by decide +kernel
theorem s_198_1 {d : Nat} {l0 l1 l2 l3 : oV} {x : Int} {S : List oV} {σ : oSg} {Q : Option oV → (Nat → oC) → Prop} (c1 : oCat l1 = 1) (c0 : oCat l0 = 1)  : oE d 198 1 [l0, l1, l2, l3] (.inl x :: S) σ Q = oE d 198 2 [l0, .inl x, l2, l3] S σ Q := pSt (i := 1) f_198_1 rfl rfl (show (1 : Nat) < 4 by decide) (oC1n c0) (oC1n c1) rfl
theorem f_198_2 : oFet 198 2 = some (.iload_n 1, 1) := by decide +kernel
theorem s_198_2 {d : Nat} {l0 l2 l3 : oV} {x : Int} {S : List oV} {σ : oSg} {Q : Option oV → (Nat → oC) → Prop} : oE d 198 2 [l0, .inl x, l2, l3] S σ Q = oE d 198 3 [l0, .inl x, l2, l3] (.inl x :: S) σ Q := pLdN (k := 1) f_198_2 rfl rfl rfl
theorem f_198_3 : oFet 198 3 = some (.aload_n 0, 1) := by decide +kernel
theorem s_198_3 {d : Nat} {l1 l2 l3 : oV} {a : Nat} {S : List oV} {σ : oSg} {Q : Option oV → (Nat → oC) → Prop} : oE d 198 3 [.inr (.inr (.inl a)), l1, l2, l3] S σ Q = oE d 198 4 [.inr (.inr (.inl a)), l1, l2, l3] (.inr (.inr (.inl a)) :: S) σ Q := pLdN (k := 0) f_198_3 rfl rfl rfl
theorem f_198_4 : oFet 198 4 = some (.getfield 11, 3) := by decide +kernel
theorem s_198_4 {d : Nat} {l0 l1 l2 l3 : oV} {a : Nat} {S : List oV} {σ : oSg} {Q : Option oV → (Nat → oC) → Prop} (hk : oKd a = some 11) : oE d 198 4 [l0, l1, l2, l3] (.inr (.inr (.inl a)) :: S) σ Q = oE d 198 7 [l0, l1, l2, l3] (.inr (.inr (.inl (oRf a 0))) :: S) σ Q := pGfR f_198_4 ow_198 fl_11_11 rfl (by decide) hk
theorem f_198_7 : oFet 198 7 = some (.iconst 0, 1) := by decide +kernel
theorem s_198_7 {d : Nat} {l0 l1 l2 l3 : oV} {S : List oV} {σ : oSg} {Q : Option oV → (Nat → oC) → Prop} : oE d 198 7 [l0, l1, l2, l3] S σ Q = oE d 198 8 [l0, l1, l2, l3] (.inl (0) :: S) σ Q := pKst f_198_7 (by decide)
theorem f_198_8 : oFet 198 8 = some (.iaload, 1) := by decide +kernel
theorem s_198_8 {d : Nat} {l0 l1 l2 l3 : oV} {a : Nat} {i : Int} {S : List oV} {σ : oSg} {Q : Option oV → (Nat → oC) → Prop} (hk : oAk a = some 0) (h0 : 0 ≤ i) (h1 : i < (oLn a : Int)) : oE d 198 8 [l0, l1, l2, l3] (.inl i :: .inr (.inr (.inl a)) :: S) σ Q = oE d 198 9 [l0, l1, l2, l3] (.inl (σ.2 a i.toNat) :: S) σ Q := oIal f_198_8 hk h0 h1
theorem f_198_9 : oFet 198 9 = some (.if_icmp .ge 55, 3) := by decide +kernel
theorem s_198_9 {d : Nat} {l0 l1 l2 l3 : oV} {x y : Int} {S : List oV} {σ : oSg} {Q : Option oV → (Nat → oC) → Prop} : oE d 198 9 [l0, l1, l2, l3] (.inl y :: .inl x :: S) σ Q = if y ≤ x then oE d 198 64 [l0, l1, l2, l3] S σ Q else oE d 198 12 [l0, l1, l2, l3] S σ Q := oCmpGe f_198_9 (by decide)
theorem f_198_12 : oFet 198 12 = some (.iconst 0, 1) := by decide +kernel
theorem s_198_12 {d : Nat} {l0 l1 l2 l3 : oV} {S : List oV} {σ : oSg} {Q : Option oV → (Nat → oC) → Prop} : oE d 198 12 [l0, l1, l2, l3] S σ Q = oE d 198 13 [l0, l1, l2, l3] (.inl (0) :: S) σ Q := pKst f_198_12 (by decide)
theorem f_198_13 : oFet 198 13 = some (.istore_n 2, 1) := by decide +kernel
theorem s_198_13 {d : Nat} {l0 l1 l2 l3 : oV} {x : Int} {S : List oV} {σ : oSg} {Q : Option oV → (Nat → oC) → Prop} (c2 : oCat l2 = 1) (c1 : oCat l1 = 1)  : oE d 198 13 [l0, l1, l2, l3] (.inl x :: S) σ Q = oE d 198 14 [l0, l1, .inl x, l3] S σ Q := pSt (i := 2) f_198_13 rfl rfl (show (2 : Nat) < 4 by decide) (oC1n c1) (oC1n c2) rfl
theorem f_198_14 : oFet 198 14 = some (.iconst 0, 1) := by decide +kernel
theorem s_198_14 {d : Nat} {l0 l1 l2 l3 : oV} {S : List oV} {σ : oSg} {Q : Option oV → (Nat → oC) → Prop} : oE d 198 14 [l0, l1, l2, l3] S σ Q = oE d 198 15 [l0, l1, l2, l3] (.inl (0) :: S) σ Q := pKst f_198_14 (by decide)
theorem f_198_15 : oFet 198 15 = some (.istore_n 3, 1) := by decide +kernel
theorem s_198_15 {d : Nat} {l0 l1 l2 l3 : oV} {x : Int} {S : List oV} {σ : oSg} {Q : Option oV → (Nat → oC) → Prop} (c3 : oCat l3 = 1) (c2 : oCat l2 = 1)  : oE d 198 15 [l0, l1, l2, l3] (.inl x :: S) σ Q = oE d 198 16 [l0, l1, l2, .inl x] S σ Q := pSt (i := 3) f_198_15 rfl rfl (show (3 : Nat) < 4 by decide) (oC1n c2) (oC1n c3) rfl
theorem f_198_16 : oFet 198 16 = some (.iload_n 3, 1) := by decide +kernel
theorem s_198_16 {d : Nat} {l0 l1 l2 : oV} {x : Int} {S : List oV} {σ : oSg} {Q : Option oV → (Nat → oC) → Prop} : oE d 198 16 [l0, l1, l2, .inl x] S σ Q = oE d 198 17 [l0, l1, l2, .inl x] (.inl x :: S) σ Q := pLdN (k := 3) f_198_16 rfl rfl rfl
theorem f_198_17 : oFet 198 17 = some (.aload_n 0, 1) := by decide +kernel
theorem s_198_17 {d : Nat} {l1 l2 l3 : oV} {a : Nat} {S : List oV} {σ : oSg} {Q : Option oV → (Nat → oC) → Prop} : oE d 198 17 [.inr (.inr (.inl a)), l1, l2, l3] S σ Q = oE d 198 18 [.inr (.inr (.inl a)), l1, l2, l3] (.inr (.inr (.inl a)) :: S) σ Q := pLdN (k := 0) f_198_17 rfl rfl rfl
theorem f_198_18 : oFet 198 18 = some (.getfield 11, 3) := by decide +kernel
theorem s_198_18 {d : Nat} {l0 l1 l2 l3 : oV} {a : Nat} {S : List oV} {σ : oSg} {Q : Option oV → (Nat → oC) → Prop} (hk : oKd a = some 11) : oE d 198 18 [l0, l1, l2, l3] (.inr (.inr (.inl a)) :: S) σ Q = oE d 198 21 [l0, l1, l2, l3] (.inr (.inr (.inl (oRf a 0))) :: S) σ Q := pGfR f_198_18 ow_198 fl_11_11 rfl (by decide) hk
theorem f_198_21 : oFet 198 21 = some (.iconst 0, 1) := by decide +kernel
theorem s_198_21 {d : Nat} {l0 l1 l2 l3 : oV} {S : List oV} {σ : oSg} {Q : Option oV → (Nat → oC) → Prop} : oE d 198 21 [l0, l1, l2, l3] S σ Q = oE d 198 22 [l0, l1, l2, l3] (.inl (0) :: S) σ Q := pKst f_198_21 (by decide)
theorem f_198_22 : oFet 198 22 = some (.iaload, 1) := by decide +kernel
theorem s_198_22 {d : Nat} {l0 l1 l2 l3 : oV} {a : Nat} {i : Int} {S : List oV} {σ : oSg} {Q : Option oV → (Nat → oC) → Prop} (hk : oAk a = some 0) (h0 : 0 ≤ i) (h1 : i < (oLn a : Int)) : oE d 198 22 [l0, l1, l2, l3] (.inl i :: .inr (.inr (.inl a)) :: S) σ Q = oE d 198 23 [l0, l1, l2, l3] (.inl (σ.2 a i.toNat) :: S) σ Q := oIal f_198_22 hk h0 h1
theorem f_198_23 : oFet 198 23 = some (.if_icmp .ge 25, 3) := by decide +kernel
theorem s_198_23 {d : Nat} {l0 l1 l2 l3 : oV} {x y : Int} {S : List oV} {σ : oSg} {Q : Option oV → (Nat → oC) → Prop} : oE d 198 23 [l0, l1, l2, l3] (.inl y :: .inl x :: S) σ Q = if y ≤ x then oE d 198 48 [l0, l1, l2, l3] S σ Q else oE d 198 26 [l0, l1, l2, l3] S σ Q := oCmpGe f_198_23 (by decide)
theorem f_198_26 : oFet 198 26 = some (.iload_n 1, 1) := by decide +kernel
theorem s_198_26 {d : Nat} {l0 l2 l3 : oV} {x : Int} {S : List oV} {σ : oSg} {Q : Option oV → (Nat → oC) → Prop} : oE d 198 26 [l0, .inl x, l2, l3] S σ Q = oE d 198 27 [l0, .inl x, l2, l3] (.inl x :: S) σ Q := pLdN (k := 1) f_198_26 rfl rfl rfl
theorem f_198_27 : oFet 198 27 = some (.iload_n 3, 1) := by decide +kernel
theorem s_198_27 {d : Nat} {l0 l1 l2 : oV} {x : Int} {S : List oV} {σ : oSg} {Q : Option oV → (Nat → oC) → Prop} : oE d 198 27 [l0, l1, l2, .inl x] S σ Q = oE d 198 28 [l0, l1, l2, .inl x] (.inl x :: S) σ Q := pLdN (k := 3) f_198_27 rfl rfl rfl
theorem f_198_28 : oFet 198 28 = some (.if_icmp .eq 14, 3) := by decide +kernel
theorem s_198_28 {d : Nat} {l0 l1 l2 l3 : oV} {x y : Int} {S : List oV} {σ : oSg} {Q : Option oV → (Nat → oC) → Prop} : oE d 198 28 [l0, l1, l2, l3] (.inl y :: .inl x :: S) σ Q = if x = y then oE d 198 42 [l0, l1, l2, l3] S σ Q else oE d 198 31 [l0, l1, l2, l3] S σ Q := oCmpEq f_198_28 (by decide)
theorem f_198_31 : oFet 198 31 = some (.iload_n 2, 1) := by decide +kernel
theorem s_198_31 {d : Nat} {l0 l1 l3 : oV} {x : Int} {S : List oV} {σ : oSg} {Q : Option oV → (Nat → oC) → Prop} : oE d 198 31 [l0, l1, .inl x, l3] S σ Q = oE d 198 32 [l0, l1, .inl x, l3] (.inl x :: S) σ Q := pLdN (k := 2) f_198_31 rfl rfl rfl
theorem f_198_32 : oFet 198 32 = some (.aload_n 0, 1) := by decide +kernel
theorem s_198_32 {d : Nat} {l1 l2 l3 : oV} {a : Nat} {S : List oV} {σ : oSg} {Q : Option oV → (Nat → oC) → Prop} : oE d 198 32 [.inr (.inr (.inl a)), l1, l2, l3] S σ Q = oE d 198 33 [.inr (.inr (.inl a)), l1, l2, l3] (.inr (.inr (.inl a)) :: S) σ Q := pLdN (k := 0) f_198_32 rfl rfl rfl
theorem f_198_33 : oFet 198 33 = some (.iload_n 1, 1) := by decide +kernel
theorem s_198_33 {d : Nat} {l0 l2 l3 : oV} {x : Int} {S : List oV} {σ : oSg} {Q : Option oV → (Nat → oC) → Prop} : oE d 198 33 [l0, .inl x, l2, l3] S σ Q = oE d 198 34 [l0, .inl x, l2, l3] (.inl x :: S) σ Q := pLdN (k := 1) f_198_33 rfl rfl rfl
theorem f_198_34 : oFet 198 34 = some (.iload_n 3, 1) := by decide +kernel
theorem s_198_34 {d : Nat} {l0 l1 l2 : oV} {x : Int} {S : List oV} {σ : oSg} {Q : Option oV → (Nat → oC) → Prop} : oE d 198 34 [l0, l1, l2, .inl x] S σ Q = oE d 198 35 [l0, l1, l2, .inl x] (.inl x :: S) σ Q := pLdN (k := 3) f_198_34 rfl rfl rfl
theorem f_198_35 : oFet 198 35 = some (.invokevirtual 65, 3) := by decide +kernel
theorem c_198_35 {d : Nat} {l0 l1 l2 l3 : oV} {x0 x1 : oV} {a : Nat} {v : Option oV} {τ : oSg} {S : List oV} {σ : oSg} {Q : Option oV → (Nat → oC) → Prop} (hm : oMi d 147 [.inr (.inr (.inl a)), x0, x1] σ v τ) (hk : oKd a = some 11) (hs : oSmall S = true) : oE d 198 35 [l0, l1, l2, l3] (x1 :: x0 :: .inr (.inr (.inl a)) :: S) σ Q = oE d 198 38 [l0, l1, l2, l3] (v.toList ++ S) τ Q := pCallV f_198_35 ow_198 lk_11_65 mt_147 rfl rfl rfl hk hs hm
theorem f_198_38 : oFet 198 38 = some (.invokestatic 190, 3) := by decide +kernel
theorem s_198_38 {d : Nat} {l0 l1 l2 l3 : oV} {x y : Int} {S : List oV} {σ : oSg} {Q : Option oV → (Nat → oC) → Prop} (hs : oSmall S = true) : oE d 198 38 [l0, l1, l2, l3] (.inl y :: .inl x :: S) σ Q = oE d 198 41 [l0, l1, l2, l3] (.inl (if x < y then y else x) :: S) σ Q := pMax f_198_38 ow_198 lk_11_190 hs
theorem f_198_41 : oFet 198 41 = some (.istore_n 2, 1) := by decide +kernel
theorem s_198_41 {d : Nat} {l0 l1 l2 l3 : oV} {x : Int} {S : List oV} {σ : oSg} {Q : Option oV → (Nat → oC) → Prop} (c2 : oCat l2 = 1) (c1 : oCat l1 = 1)  : oE d 198 41 [l0, l1, l2, l3] (.inl x :: S) σ Q = oE d 198 42 [l0, l1, .inl x, l3] S σ Q := pSt (i := 2) f_198_41 rfl rfl (show (2 : Nat) < 4 by decide) (oC1n c1) (oC1n c2) rfl
theorem f_198_42 : oFet 198 42 = some (.iinc 3 1, 3) := by decide +kernel
theorem s_198_42 {d : Nat} {l0 l1 l2 : oV} {x : Int} {S : List oV} {σ : oSg} {Q : Option oV → (Nat → oC) → Prop} (c2 : oCat l2 = 1)  : oE d 198 42 [l0, l1, l2, .inl x] S σ Q = oE d 198 45 [l0, l1, l2, .inl (oAdd x (1))] S σ Q := pInc f_198_42 rfl (show (3 : Nat) < 4 by decide) (oC1n c2) (oC1n (v := .inl x) rfl) rfl
theorem f_198_45 : oFet 198 45 = some (.goto (-29), 3) := by decide +kernel
theorem s_198_45 {d : Nat} {l0 l1 l2 l3 : oV} {S : List oV} {σ : oSg} {Q : Option oV → (Nat → oC) → Prop} : oE d 198 45 [l0, l1, l2, l3] S σ Q = oE d 198 16 [l0, l1, l2, l3] S σ Q := pGoto f_198_45 (by decide)
theorem f_198_48 : oFet 198 48 = some (.aload_n 0, 1) := by decide +kernel
theorem s_198_48 {d : Nat} {l1 l2 l3 : oV} {a : Nat} {S : List oV} {σ : oSg} {Q : Option oV → (Nat → oC) → Prop} : oE d 198 48 [.inr (.inr (.inl a)), l1, l2, l3] S σ Q = oE d 198 49 [.inr (.inr (.inl a)), l1, l2, l3] (.inr (.inr (.inl a)) :: S) σ Q := pLdN (k := 0) f_198_48 rfl rfl rfl
theorem f_198_49 : oFet 198 49 = some (.getfield 11, 3) := by decide +kernel
theorem s_198_49 {d : Nat} {l0 l1 l2 l3 : oV} {a : Nat} {S : List oV} {σ : oSg} {Q : Option oV → (Nat → oC) → Prop} (hk : oKd a = some 11) : oE d 198 49 [l0, l1, l2, l3] (.inr (.inr (.inl a)) :: S) σ Q = oE d 198 52 [l0, l1, l2, l3] (.inr (.inr (.inl (oRf a 0))) :: S) σ Q := pGfR f_198_49 ow_198 fl_11_11 rfl (by decide) hk
theorem f_198_52 : oFet 198 52 = some (.bipush 57, 2) := by decide +kernel
theorem s_198_52 {d : Nat} {l0 l1 l2 l3 : oV} {S : List oV} {σ : oSg} {Q : Option oV → (Nat → oC) → Prop} : oE d 198 52 [l0, l1, l2, l3] S σ Q = oE d 198 54 [l0, l1, l2, l3] (.inl (57) :: S) σ Q := pBip f_198_52 (by decide)
theorem f_198_54 : oFet 198 54 = some (.iload_n 1, 1) := by decide +kernel
theorem s_198_54 {d : Nat} {l0 l2 l3 : oV} {x : Int} {S : List oV} {σ : oSg} {Q : Option oV → (Nat → oC) → Prop} : oE d 198 54 [l0, .inl x, l2, l3] S σ Q = oE d 198 55 [l0, .inl x, l2, l3] (.inl x :: S) σ Q := pLdN (k := 1) f_198_54 rfl rfl rfl
theorem f_198_55 : oFet 198 55 = some (.iadd, 1) := by decide +kernel
theorem s_198_55 {d : Nat} {l0 l1 l2 l3 : oV} {x y : Int} {S : List oV} {σ : oSg} {Q : Option oV → (Nat → oC) → Prop} : oE d 198 55 [l0, l1, l2, l3] (.inl y :: .inl x :: S) σ Q = oE d 198 56 [l0, l1, l2, l3] (.inl (oAdd x y) :: S) σ Q := oS3 f_198_55 rfl rfl rfl
theorem f_198_56 : oFet 198 56 = some (.iload_n 2, 1) := by decide +kernel
theorem s_198_56 {d : Nat} {l0 l1 l3 : oV} {x : Int} {S : List oV} {σ : oSg} {Q : Option oV → (Nat → oC) → Prop} : oE d 198 56 [l0, l1, .inl x, l3] S σ Q = oE d 198 57 [l0, l1, .inl x, l3] (.inl x :: S) σ Q := pLdN (k := 2) f_198_56 rfl rfl rfl
theorem f_198_57 : oFet 198 57 = some (.iastore, 1) := by decide +kernel
theorem s_198_57 {d : Nat} {l0 l1 l2 l3 : oV} {a : Nat} {i v : Int} {S : List oV} {σ : oSg} {Q : Option oV → (Nat → oC) → Prop} (hk : oAk a = some 0) (h0 : 0 ≤ i) (h1 : i < (oLn a : Int)) : oE d 198 57 [l0, l1, l2, l3] (.inl v :: .inl i :: .inr (.inr (.inl a)) :: S) σ Q = oE d 198 58 [l0, l1, l2, l3] S (oSA σ a i.toNat v) Q := oIas f_198_57 hk h0 h1
theorem f_198_58 : oFet 198 58 = some (.iinc 1 1, 3) := by decide +kernel
theorem s_198_58 {d : Nat} {l0 l2 l3 : oV} {x : Int} {S : List oV} {σ : oSg} {Q : Option oV → (Nat → oC) → Prop} (c0 : oCat l0 = 1)  : oE d 198 58 [l0, .inl x, l2, l3] S σ Q = oE d 198 61 [l0, .inl (oAdd x (1)), l2, l3] S σ Q := pInc f_198_58 rfl (show (1 : Nat) < 4 by decide) (oC1n c0) (oC1n (v := .inl x) rfl) rfl
theorem f_198_61 : oFet 198 61 = some (.goto (-59), 3) := by decide +kernel
theorem s_198_61 {d : Nat} {l0 l1 l2 l3 : oV} {S : List oV} {σ : oSg} {Q : Option oV → (Nat → oC) → Prop} : oE d 198 61 [l0, l1, l2, l3] S σ Q = oE d 198 2 [l0, l1, l2, l3] S σ Q := pGoto f_198_61 (by decide)
theorem f_198_64 : oFet 198 64 = some (.aload_n 0, 1) := by decide +kernel
theorem s_198_64 {d : Nat} {l1 l2 l3 : oV} {a : Nat} {S : List oV} {σ : oSg} {Q : Option oV → (Nat → oC) → Prop} : oE d 198 64 [.inr (.inr (.inl a)), l1, l2, l3] S σ Q = oE d 198 65 [.inr (.inr (.inl a)), l1, l2, l3] (.inr (.inr (.inl a)) :: S) σ Q := pLdN (k := 0) f_198_64 rfl rfl rfl
theorem f_198_65 : oFet 198 65 = some (.getfield 11, 3) := by decide +kernel
theorem s_198_65 {d : Nat} {l0 l1 l2 l3 : oV} {a : Nat} {S : List oV} {σ : oSg} {Q : Option oV → (Nat → oC) → Prop} (hk : oKd a = some 11) : oE d 198 65 [l0, l1, l2, l3] (.inr (.inr (.inl a)) :: S) σ Q = oE d 198 68 [l0, l1, l2, l3] (.inr (.inr (.inl (oRf a 0))) :: S) σ Q := pGfR f_198_65 ow_198 fl_11_11 rfl (by decide) hk
theorem f_198_68 : oFet 198 68 = some (.bipush 64, 2) := by decide +kernel
theorem s_198_68 {d : Nat} {l0 l1 l2 l3 : oV} {S : List oV} {σ : oSg} {Q : Option oV → (Nat → oC) → Prop} : oE d 198 68 [l0, l1, l2, l3] S σ Q = oE d 198 70 [l0, l1, l2, l3] (.inl (64) :: S) σ Q := pBip f_198_68 (by decide)
theorem f_198_70 : oFet 198 70 = some (.iconst 0, 1) := by decide +kernel
theorem s_198_70 {d : Nat} {l0 l1 l2 l3 : oV} {S : List oV} {σ : oSg} {Q : Option oV → (Nat → oC) → Prop} : oE d 198 70 [l0, l1, l2, l3] S σ Q = oE d 198 71 [l0, l1, l2, l3] (.inl (0) :: S) σ Q := pKst f_198_70 (by decide)
theorem f_198_71 : oFet 198 71 = some (.iastore, 1) := by decide +kernel
theorem s_198_71 {d : Nat} {l0 l1 l2 l3 : oV} {a : Nat} {i v : Int} {S : List oV} {σ : oSg} {Q : Option oV → (Nat → oC) → Prop} (hk : oAk a = some 0) (h0 : 0 ≤ i) (h1 : i < (oLn a : Int)) : oE d 198 71 [l0, l1, l2, l3] (.inl v :: .inl i :: .inr (.inr (.inl a)) :: S) σ Q = oE d 198 72 [l0, l1, l2, l3] S (oSA σ a i.toNat v) Q := oIas f_198_71 hk h0 h1
theorem f_198_72 : oFet 198 72 = some (.aload_n 0, 1) := by decide +kernel
theorem s_198_72 {d : Nat} {l1 l2 l3 : oV} {a : Nat} {S : List oV} {σ : oSg} {Q : Option oV → (Nat → oC) → Prop} : oE d 198 72 [.inr (.inr (.inl a)), l1, l2, l3] S σ Q = oE d 198 73 [.inr (.inr (.inl a)), l1, l2, l3] (.inr (.inr (.inl a)) :: S) σ Q := pLdN (k := 0) f_198_72 rfl rfl rfl
theorem f_198_73 : oFet 198 73 = some (.invokevirtual 208, 3) := by decide +kernel
theorem c_198_73 {d : Nat} {l0 l1 l2 l3 : oV} {a : Nat} {v : Option oV} {τ : oSg} {S : List oV} {σ : oSg} {Q : Option oV → (Nat → oC) → Prop} (hm : oMi d 187 [.inr (.inr (.inl a))] σ v τ) (hk : oKd a = some 11) (hs : oSmall S = true) : oE d 198 73 [l0, l1, l2, l3] (.inr (.inr (.inl a)) :: S) σ Q = oE d 198 76 [l0, l1, l2, l3] (v.toList ++ S) τ Q := pCallV f_198_73 ow_198 lk_11_208 mt_187 rfl rfl rfl hk hs hm
theorem f_198_76 : oFet 198 76 = some (.ireturn, 1) := by decide +kernel
theorem s_198_76 {d : Nat} {l0 l1 l2 l3 : oV} {x : Int} {σ : oSg} {Q : Option oV → (Nat → oC) → Prop} : oE d 198 76 [l0, l1, l2, l3] [.inl x] σ Q = Q (some (.inl x)) (oBld σ) := oIret f_198_76 rt_198
theorem ow_199 : (oMt 199).2.2.2.2.1 = 11 := by decide +kernel
theorem rt_199 : (oMt 199).2.2.2.1 = some .int := by decide +kernel
theorem nl_199 : (oMt 199).2.2.1 = 4 := by decide +kernel
theorem f_199_0 : oFet 199 0 = some (.iload_n 1, 1) := by decide +kernel
theorem s_199_0 {d : Nat} {l0 l2 l3 : oV} {x : Int} {S : List oV} {σ : oSg} {Q : Option oV → (Nat → oC) → Prop} : oE d 199 0 [l0, .inl x, l2, l3] S σ Q = oE d 199 1 [l0, .inl x, l2, l3] (.inl x :: S) σ Q := pLdN (k := 1) f_199_0 rfl rfl rfl
theorem f_199_1 : oFet 199 1 = some (.ifCond .ge 5, 3) := by decide +kernel
theorem s_199_1 {d : Nat} {l0 l1 l2 l3 : oV} {x : Int} {S : List oV} {σ : oSg} {Q : Option oV → (Nat → oC) → Prop} : oE d 199 1 [l0, l1, l2, l3] (.inl x :: S) σ Q = if 0 ≤ x then oE d 199 6 [l0, l1, l2, l3] S σ Q else oE d 199 4 [l0, l1, l2, l3] S σ Q := oIfGe f_199_1 (by decide)
theorem f_199_4 : oFet 199 4 = some (.iconst (-1), 1) := by decide +kernel
theorem s_199_4 {d : Nat} {l0 l1 l2 l3 : oV} {S : List oV} {σ : oSg} {Q : Option oV → (Nat → oC) → Prop} : oE d 199 4 [l0, l1, l2, l3] S σ Q = oE d 199 5 [l0, l1, l2, l3] (.inl (-1) :: S) σ Q := pKst f_199_4 (by decide)
theorem f_199_5 : oFet 199 5 = some (.ireturn, 1) := by decide +kernel
theorem s_199_5 {d : Nat} {l0 l1 l2 l3 : oV} {x : Int} {σ : oSg} {Q : Option oV → (Nat → oC) → Prop} : oE d 199 5 [l0, l1, l2, l3] [.inl x] σ Q = Q (some (.inl x)) (oBld σ) := oIret f_199_5 rt_199
theorem f_199_6 : oFet 199 6 = some (.iload_n 1, 1) := by decide +kernel
theorem s_199_6 {d : Nat} {l0 l2 l3 : oV} {x : Int} {S : List oV} {σ : oSg} {Q : Option oV → (Nat → oC) → Prop} : oE d 199 6 [l0, .inl x, l2, l3] S σ Q = oE d 199 7 [l0, .inl x, l2, l3] (.inl x :: S) σ Q := pLdN (k := 1) f_199_6 rfl rfl rfl
theorem f_199_7 : oFet 199 7 = some (.iconst 2, 1) := by decide +kernel
theorem s_199_7 {d : Nat} {l0 l1 l2 l3 : oV} {S : List oV} {σ : oSg} {Q : Option oV → (Nat → oC) → Prop} : oE d 199 7 [l0, l1, l2, l3] S σ Q = oE d 199 8 [l0, l1, l2, l3] (.inl (2) :: S) σ Q := pKst f_199_7 (by decide)
theorem f_199_8 : oFet 199 8 = some (.if_icmp .le 6, 3) := by decide +kernel
theorem s_199_8 {d : Nat} {l0 l1 l2 l3 : oV} {x y : Int} {S : List oV} {σ : oSg} {Q : Option oV → (Nat → oC) → Prop} : oE d 199 8 [l0, l1, l2, l3] (.inl y :: .inl x :: S) σ Q = if x ≤ y then oE d 199 14 [l0, l1, l2, l3] S σ Q else oE d 199 11 [l0, l1, l2, l3] S σ Q := oCmpLe f_199_8 (by decide)
theorem f_199_11 : oFet 199 11 = some (.bipush (-5), 2) := by decide +kernel
theorem s_199_11 {d : Nat} {l0 l1 l2 l3 : oV} {S : List oV} {σ : oSg} {Q : Option oV → (Nat → oC) → Prop} : oE d 199 11 [l0, l1, l2, l3] S σ Q = oE d 199 13 [l0, l1, l2, l3] (.inl (-5) :: S) σ Q := pBip f_199_11 (by decide)
theorem f_199_13 : oFet 199 13 = some (.ireturn, 1) := by decide +kernel
theorem s_199_13 {d : Nat} {l0 l1 l2 l3 : oV} {x : Int} {σ : oSg} {Q : Option oV → (Nat → oC) → Prop} : oE d 199 13 [l0, l1, l2, l3] [.inl x] σ Q = Q (some (.inl x)) (oBld σ) := oIret f_199_13 rt_199
theorem f_199_14 : oFet 199 14 = some (.iconst 0, 1) := by decide +kernel
theorem s_199_14 {d : Nat} {l0 l1 l2 l3 : oV} {S : List oV} {σ : oSg} {Q : Option oV → (Nat → oC) → Prop} : oE d 199 14 [l0, l1, l2, l3] S σ Q = oE d 199 15 [l0, l1, l2, l3] (.inl (0) :: S) σ Q := pKst f_199_14 (by decide)
theorem f_199_15 : oFet 199 15 = some (.istore_n 2, 1) := by decide +kernel
theorem s_199_15 {d : Nat} {l0 l1 l2 l3 : oV} {x : Int} {S : List oV} {σ : oSg} {Q : Option oV → (Nat → oC) → Prop} (c2 : oCat l2 = 1) (c1 : oCat l1 = 1)  : oE d 199 15 [l0, l1, l2, l3] (.inl x :: S) σ Q = oE d 199 16 [l0, l1, .inl x, l3] S σ Q := pSt (i := 2) f_199_15 rfl rfl (show (2 : Nat) < 4 by decide) (oC1n c1) (oC1n c2) rfl
theorem f_199_16 : oFet 199 16 = some (.iload_n 2, 1) := by decide +kernel
theorem s_199_16 {d : Nat} {l0 l1 l3 : oV} {x : Int} {S : List oV} {σ : oSg} {Q : Option oV → (Nat → oC) → Prop} : oE d 199 16 [l0, l1, .inl x, l3] S σ Q = oE d 199 17 [l0, l1, .inl x, l3] (.inl x :: S) σ Q := pLdN (k := 2) f_199_16 rfl rfl rfl
theorem f_199_17 : oFet 199 17 = some (.aload_n 0, 1) := by decide +kernel
theorem s_199_17 {d : Nat} {l1 l2 l3 : oV} {a : Nat} {S : List oV} {σ : oSg} {Q : Option oV → (Nat → oC) → Prop} : oE d 199 17 [.inr (.inr (.inl a)), l1, l2, l3] S σ Q = oE d 199 18 [.inr (.inr (.inl a)), l1, l2, l3] (.inr (.inr (.inl a)) :: S) σ Q := pLdN (k := 0) f_199_17 rfl rfl rfl
theorem f_199_18 : oFet 199 18 = some (.getfield 11, 3) := by decide +kernel
theorem s_199_18 {d : Nat} {l0 l1 l2 l3 : oV} {a : Nat} {S : List oV} {σ : oSg} {Q : Option oV → (Nat → oC) → Prop} (hk : oKd a = some 11) : oE d 199 18 [l0, l1, l2, l3] (.inr (.inr (.inl a)) :: S) σ Q = oE d 199 21 [l0, l1, l2, l3] (.inr (.inr (.inl (oRf a 0))) :: S) σ Q := pGfR f_199_18 ow_199 fl_11_11 rfl (by decide) hk
theorem f_199_21 : oFet 199 21 = some (.iconst 0, 1) := by decide +kernel
theorem s_199_21 {d : Nat} {l0 l1 l2 l3 : oV} {S : List oV} {σ : oSg} {Q : Option oV → (Nat → oC) → Prop} : oE d 199 21 [l0, l1, l2, l3] S σ Q = oE d 199 22 [l0, l1, l2, l3] (.inl (0) :: S) σ Q := pKst f_199_21 (by decide)
theorem f_199_22 : oFet 199 22 = some (.iaload, 1) := by decide +kernel
theorem s_199_22 {d : Nat} {l0 l1 l2 l3 : oV} {a : Nat} {i : Int} {S : List oV} {σ : oSg} {Q : Option oV → (Nat → oC) → Prop} (hk : oAk a = some 0) (h0 : 0 ≤ i) (h1 : i < (oLn a : Int)) : oE d 199 22 [l0, l1, l2, l3] (.inl i :: .inr (.inr (.inl a)) :: S) σ Q = oE d 199 23 [l0, l1, l2, l3] (.inl (σ.2 a i.toNat) :: S) σ Q := oIal f_199_22 hk h0 h1
theorem f_199_23 : oFet 199 23 = some (.if_icmp .ge 93, 3) := by decide +kernel
theorem s_199_23 {d : Nat} {l0 l1 l2 l3 : oV} {x y : Int} {S : List oV} {σ : oSg} {Q : Option oV → (Nat → oC) → Prop} : oE d 199 23 [l0, l1, l2, l3] (.inl y :: .inl x :: S) σ Q = if y ≤ x then oE d 199 116 [l0, l1, l2, l3] S σ Q else oE d 199 26 [l0, l1, l2, l3] S σ Q := oCmpGe f_199_23 (by decide)
theorem f_199_26 : oFet 199 26 = some (.iload_n 2, 1) := by decide +kernel
theorem s_199_26 {d : Nat} {l0 l1 l3 : oV} {x : Int} {S : List oV} {σ : oSg} {Q : Option oV → (Nat → oC) → Prop} : oE d 199 26 [l0, l1, .inl x, l3] S σ Q = oE d 199 27 [l0, l1, .inl x, l3] (.inl x :: S) σ Q := pLdN (k := 2) f_199_26 rfl rfl rfl
theorem f_199_27 : oFet 199 27 = some (.iconst 1, 1) := by decide +kernel
theorem s_199_27 {d : Nat} {l0 l1 l2 l3 : oV} {S : List oV} {σ : oSg} {Q : Option oV → (Nat → oC) → Prop} : oE d 199 27 [l0, l1, l2, l3] S σ Q = oE d 199 28 [l0, l1, l2, l3] (.inl (1) :: S) σ Q := pKst f_199_27 (by decide)
theorem f_199_28 : oFet 199 28 = some (.iadd, 1) := by decide +kernel
theorem s_199_28 {d : Nat} {l0 l1 l2 l3 : oV} {x y : Int} {S : List oV} {σ : oSg} {Q : Option oV → (Nat → oC) → Prop} : oE d 199 28 [l0, l1, l2, l3] (.inl y :: .inl x :: S) σ Q = oE d 199 29 [l0, l1, l2, l3] (.inl (oAdd x y) :: S) σ Q := oS3 f_199_28 rfl rfl rfl
theorem f_199_29 : oFet 199 29 = some (.istore_n 3, 1) := by decide +kernel
theorem s_199_29 {d : Nat} {l0 l1 l2 l3 : oV} {x : Int} {S : List oV} {σ : oSg} {Q : Option oV → (Nat → oC) → Prop} (c3 : oCat l3 = 1) (c2 : oCat l2 = 1)  : oE d 199 29 [l0, l1, l2, l3] (.inl x :: S) σ Q = oE d 199 30 [l0, l1, l2, .inl x] S σ Q := pSt (i := 3) f_199_29 rfl rfl (show (3 : Nat) < 4 by decide) (oC1n c2) (oC1n c3) rfl
theorem f_199_30 : oFet 199 30 = some (.iload_n 3, 1) := by decide +kernel
theorem s_199_30 {d : Nat} {l0 l1 l2 : oV} {x : Int} {S : List oV} {σ : oSg} {Q : Option oV → (Nat → oC) → Prop} : oE d 199 30 [l0, l1, l2, .inl x] S σ Q = oE d 199 31 [l0, l1, l2, .inl x] (.inl x :: S) σ Q := pLdN (k := 3) f_199_30 rfl rfl rfl
theorem f_199_31 : oFet 199 31 = some (.aload_n 0, 1) := by decide +kernel
theorem s_199_31 {d : Nat} {l1 l2 l3 : oV} {a : Nat} {S : List oV} {σ : oSg} {Q : Option oV → (Nat → oC) → Prop} : oE d 199 31 [.inr (.inr (.inl a)), l1, l2, l3] S σ Q = oE d 199 32 [.inr (.inr (.inl a)), l1, l2, l3] (.inr (.inr (.inl a)) :: S) σ Q := pLdN (k := 0) f_199_31 rfl rfl rfl
theorem f_199_32 : oFet 199 32 = some (.getfield 11, 3) := by decide +kernel
theorem s_199_32 {d : Nat} {l0 l1 l2 l3 : oV} {a : Nat} {S : List oV} {σ : oSg} {Q : Option oV → (Nat → oC) → Prop} (hk : oKd a = some 11) : oE d 199 32 [l0, l1, l2, l3] (.inr (.inr (.inl a)) :: S) σ Q = oE d 199 35 [l0, l1, l2, l3] (.inr (.inr (.inl (oRf a 0))) :: S) σ Q := pGfR f_199_32 ow_199 fl_11_11 rfl (by decide) hk
theorem f_199_35 : oFet 199 35 = some (.iconst 0, 1) := by decide +kernel
theorem s_199_35 {d : Nat} {l0 l1 l2 l3 : oV} {S : List oV} {σ : oSg} {Q : Option oV → (Nat → oC) → Prop} : oE d 199 35 [l0, l1, l2, l3] S σ Q = oE d 199 36 [l0, l1, l2, l3] (.inl (0) :: S) σ Q := pKst f_199_35 (by decide)
theorem f_199_36 : oFet 199 36 = some (.iaload, 1) := by decide +kernel
theorem s_199_36 {d : Nat} {l0 l1 l2 l3 : oV} {a : Nat} {i : Int} {S : List oV} {σ : oSg} {Q : Option oV → (Nat → oC) → Prop} (hk : oAk a = some 0) (h0 : 0 ≤ i) (h1 : i < (oLn a : Int)) : oE d 199 36 [l0, l1, l2, l3] (.inl i :: .inr (.inr (.inl a)) :: S) σ Q = oE d 199 37 [l0, l1, l2, l3] (.inl (σ.2 a i.toNat) :: S) σ Q := oIal f_199_36 hk h0 h1
theorem f_199_37 : oFet 199 37 = some (.if_icmp .ge 73, 3) := by decide +kernel
theorem s_199_37 {d : Nat} {l0 l1 l2 l3 : oV} {x y : Int} {S : List oV} {σ : oSg} {Q : Option oV → (Nat → oC) → Prop} : oE d 199 37 [l0, l1, l2, l3] (.inl y :: .inl x :: S) σ Q = if y ≤ x then oE d 199 110 [l0, l1, l2, l3] S σ Q else oE d 199 40 [l0, l1, l2, l3] S σ Q := oCmpGe f_199_37 (by decide)
theorem f_199_40 : oFet 199 40 = some (.aload_n 0, 1) := by decide +kernel
theorem s_199_40 {d : Nat} {l1 l2 l3 : oV} {a : Nat} {S : List oV} {σ : oSg} {Q : Option oV → (Nat → oC) → Prop} : oE d 199 40 [.inr (.inr (.inl a)), l1, l2, l3] S σ Q = oE d 199 41 [.inr (.inr (.inl a)), l1, l2, l3] (.inr (.inr (.inl a)) :: S) σ Q := pLdN (k := 0) f_199_40 rfl rfl rfl
theorem f_199_41 : oFet 199 41 = some (.iload_n 2, 1) := by decide +kernel
theorem s_199_41 {d : Nat} {l0 l1 l3 : oV} {x : Int} {S : List oV} {σ : oSg} {Q : Option oV → (Nat → oC) → Prop} : oE d 199 41 [l0, l1, .inl x, l3] S σ Q = oE d 199 42 [l0, l1, .inl x, l3] (.inl x :: S) σ Q := pLdN (k := 2) f_199_41 rfl rfl rfl
theorem f_199_42 : oFet 199 42 = some (.iload_n 3, 1) := by decide +kernel
theorem s_199_42 {d : Nat} {l0 l1 l2 : oV} {x : Int} {S : List oV} {σ : oSg} {Q : Option oV → (Nat → oC) → Prop} : oE d 199 42 [l0, l1, l2, .inl x] S σ Q = oE d 199 43 [l0, l1, l2, .inl x] (.inl x :: S) σ Q := pLdN (k := 3) f_199_42 rfl rfl rfl
theorem f_199_43 : oFet 199 43 = some (.invokevirtual 91, 3) := by decide +kernel
theorem c_199_43 {d : Nat} {l0 l1 l2 l3 : oV} {x0 x1 : oV} {a : Nat} {v : Option oV} {τ : oSg} {S : List oV} {σ : oSg} {Q : Option oV → (Nat → oC) → Prop} (hm : oMi d 153 [.inr (.inr (.inl a)), x0, x1] σ v τ) (hk : oKd a = some 11) (hs : oSmall S = true) : oE d 199 43 [l0, l1, l2, l3] (x1 :: x0 :: .inr (.inr (.inl a)) :: S) σ Q = oE d 199 46 [l0, l1, l2, l3] (v.toList ++ S) τ Q := pCallV f_199_43 ow_199 lk_11_91 mt_153 rfl rfl rfl hk hs hm
theorem f_199_46 : oFet 199 46 = some (.ifCond .eq 58, 3) := by decide +kernel
theorem s_199_46 {d : Nat} {l0 l1 l2 l3 : oV} {x : Int} {S : List oV} {σ : oSg} {Q : Option oV → (Nat → oC) → Prop} : oE d 199 46 [l0, l1, l2, l3] (.inl x :: S) σ Q = if x = 0 then oE d 199 104 [l0, l1, l2, l3] S σ Q else oE d 199 49 [l0, l1, l2, l3] S σ Q := oIfEq f_199_46 (by decide)
theorem f_199_49 : oFet 199 49 = some (.aload_n 0, 1) := by decide +kernel
theorem s_199_49 {d : Nat} {l1 l2 l3 : oV} {a : Nat} {S : List oV} {σ : oSg} {Q : Option oV → (Nat → oC) → Prop} : oE d 199 49 [.inr (.inr (.inl a)), l1, l2, l3] S σ Q = oE d 199 50 [.inr (.inr (.inl a)), l1, l2, l3] (.inr (.inr (.inl a)) :: S) σ Q := pLdN (k := 0) f_199_49 rfl rfl rfl
theorem f_199_50 : oFet 199 50 = some (.iload_n 2, 1) := by decide +kernel
theorem s_199_50 {d : Nat} {l0 l1 l3 : oV} {x : Int} {S : List oV} {σ : oSg} {Q : Option oV → (Nat → oC) → Prop} : oE d 199 50 [l0, l1, .inl x, l3] S σ Q = oE d 199 51 [l0, l1, .inl x, l3] (.inl x :: S) σ Q := pLdN (k := 2) f_199_50 rfl rfl rfl
theorem f_199_51 : oFet 199 51 = some (.iload_n 3, 1) := by decide +kernel
theorem s_199_51 {d : Nat} {l0 l1 l2 : oV} {x : Int} {S : List oV} {σ : oSg} {Q : Option oV → (Nat → oC) → Prop} : oE d 199 51 [l0, l1, l2, .inl x] S σ Q = oE d 199 52 [l0, l1, l2, .inl x] (.inl x :: S) σ Q := pLdN (k := 3) f_199_51 rfl rfl rfl
theorem f_199_52 : oFet 199 52 = some (.invokevirtual 198, 3) := by decide +kernel
theorem c_199_52 {d : Nat} {l0 l1 l2 l3 : oV} {x0 x1 : oV} {a : Nat} {v : Option oV} {τ : oSg} {S : List oV} {σ : oSg} {Q : Option oV → (Nat → oC) → Prop} (hm : oMi d 185 [.inr (.inr (.inl a)), x0, x1] σ v τ) (hk : oKd a = some 11) (hs : oSmall S = true) : oE d 199 52 [l0, l1, l2, l3] (x1 :: x0 :: .inr (.inr (.inl a)) :: S) σ Q = oE d 199 55 [l0, l1, l2, l3] (v.toList ++ S) τ Q := pCallV f_199_52 ow_199 lk_11_198 mt_185 rfl rfl rfl hk hs hm
theorem f_199_55 : oFet 199 55 = some (.iconst 2, 1) := by decide +kernel
theorem s_199_55 {d : Nat} {l0 l1 l2 l3 : oV} {S : List oV} {σ : oSg} {Q : Option oV → (Nat → oC) → Prop} : oE d 199 55 [l0, l1, l2, l3] S σ Q = oE d 199 56 [l0, l1, l2, l3] (.inl (2) :: S) σ Q := pKst f_199_55 (by decide)
theorem f_199_56 : oFet 199 56 = some (.aload_n 0, 1) := by decide +kernel
theorem s_199_56 {d : Nat} {l1 l2 l3 : oV} {a : Nat} {S : List oV} {σ : oSg} {Q : Option oV → (Nat → oC) → Prop} : oE d 199 56 [.inr (.inr (.inl a)), l1, l2, l3] S σ Q = oE d 199 57 [.inr (.inr (.inl a)), l1, l2, l3] (.inr (.inr (.inl a)) :: S) σ Q := pLdN (k := 0) f_199_56 rfl rfl rfl
theorem f_199_57 : oFet 199 57 = some (.iload_n 2, 1) := by decide +kernel
theorem s_199_57 {d : Nat} {l0 l1 l3 : oV} {x : Int} {S : List oV} {σ : oSg} {Q : Option oV → (Nat → oC) → Prop} : oE d 199 57 [l0, l1, .inl x, l3] S σ Q = oE d 199 58 [l0, l1, .inl x, l3] (.inl x :: S) σ Q := pLdN (k := 2) f_199_57 rfl rfl rfl
theorem f_199_58 : oFet 199 58 = some (.iload_n 3, 1) := by decide +kernel
theorem s_199_58 {d : Nat} {l0 l1 l2 : oV} {x : Int} {S : List oV} {σ : oSg} {Q : Option oV → (Nat → oC) → Prop} : oE d 199 58 [l0, l1, l2, .inl x] S σ Q = oE d 199 59 [l0, l1, l2, .inl x] (.inl x :: S) σ Q := pLdN (k := 3) f_199_58 rfl rfl rfl
theorem f_199_59 : oFet 199 59 = some (.invokevirtual 65, 3) := by decide +kernel
theorem c_199_59 {d : Nat} {l0 l1 l2 l3 : oV} {x0 x1 : oV} {a : Nat} {v : Option oV} {τ : oSg} {S : List oV} {σ : oSg} {Q : Option oV → (Nat → oC) → Prop} (hm : oMi d 147 [.inr (.inr (.inl a)), x0, x1] σ v τ) (hk : oKd a = some 11) (hs : oSmall S = true) : oE d 199 59 [l0, l1, l2, l3] (x1 :: x0 :: .inr (.inr (.inl a)) :: S) σ Q = oE d 199 62 [l0, l1, l2, l3] (v.toList ++ S) τ Q := pCallV f_199_59 ow_199 lk_11_65 mt_147 rfl rfl rfl hk hs hm
theorem f_199_62 : oFet 199 62 = some (.imul, 1) := by decide +kernel
theorem s_199_62 {d : Nat} {l0 l1 l2 l3 : oV} {x y : Int} {S : List oV} {σ : oSg} {Q : Option oV → (Nat → oC) → Prop} : oE d 199 62 [l0, l1, l2, l3] (.inl y :: .inl x :: S) σ Q = oE d 199 63 [l0, l1, l2, l3] (.inl (oMul x y) :: S) σ Q := oS3 f_199_62 rfl rfl rfl
theorem f_199_63 : oFet 199 63 = some (.if_icmp .ge 41, 3) := by decide +kernel
theorem s_199_63 {d : Nat} {l0 l1 l2 l3 : oV} {x y : Int} {S : List oV} {σ : oSg} {Q : Option oV → (Nat → oC) → Prop} : oE d 199 63 [l0, l1, l2, l3] (.inl y :: .inl x :: S) σ Q = if y ≤ x then oE d 199 104 [l0, l1, l2, l3] S σ Q else oE d 199 66 [l0, l1, l2, l3] S σ Q := oCmpGe f_199_63 (by decide)
theorem f_199_66 : oFet 199 66 = some (.iload_n 1, 1) := by decide +kernel
theorem s_199_66 {d : Nat} {l0 l2 l3 : oV} {x : Int} {S : List oV} {σ : oSg} {Q : Option oV → (Nat → oC) → Prop} : oE d 199 66 [l0, .inl x, l2, l3] S σ Q = oE d 199 67 [l0, .inl x, l2, l3] (.inl x :: S) σ Q := pLdN (k := 1) f_199_66 rfl rfl rfl
theorem f_199_67 : oFet 199 67 = some (.ifCond .ne 7, 3) := by decide +kernel
theorem s_199_67 {d : Nat} {l0 l1 l2 l3 : oV} {x : Int} {S : List oV} {σ : oSg} {Q : Option oV → (Nat → oC) → Prop} : oE d 199 67 [l0, l1, l2, l3] (.inl x :: S) σ Q = if ¬ x = 0 then oE d 199 74 [l0, l1, l2, l3] S σ Q else oE d 199 70 [l0, l1, l2, l3] S σ Q := oIfNe f_199_67 (by decide)
theorem f_199_70 : oFet 199 70 = some (.iconst 1, 1) := by decide +kernel
theorem s_199_70 {d : Nat} {l0 l1 l2 l3 : oV} {S : List oV} {σ : oSg} {Q : Option oV → (Nat → oC) → Prop} : oE d 199 70 [l0, l1, l2, l3] S σ Q = oE d 199 71 [l0, l1, l2, l3] (.inl (1) :: S) σ Q := pKst f_199_70 (by decide)
theorem f_199_71 : oFet 199 71 = some (.goto 32, 3) := by decide +kernel
theorem s_199_71 {d : Nat} {l0 l1 l2 l3 : oV} {S : List oV} {σ : oSg} {Q : Option oV → (Nat → oC) → Prop} : oE d 199 71 [l0, l1, l2, l3] S σ Q = oE d 199 103 [l0, l1, l2, l3] S σ Q := pGoto f_199_71 (by decide)
theorem f_199_74 : oFet 199 74 = some (.iload_n 1, 1) := by decide +kernel
theorem s_199_74 {d : Nat} {l0 l2 l3 : oV} {x : Int} {S : List oV} {σ : oSg} {Q : Option oV → (Nat → oC) → Prop} : oE d 199 74 [l0, .inl x, l2, l3] S σ Q = oE d 199 75 [l0, .inl x, l2, l3] (.inl x :: S) σ Q := pLdN (k := 1) f_199_74 rfl rfl rfl
theorem f_199_75 : oFet 199 75 = some (.iconst 1, 1) := by decide +kernel
theorem s_199_75 {d : Nat} {l0 l1 l2 l3 : oV} {S : List oV} {σ : oSg} {Q : Option oV → (Nat → oC) → Prop} : oE d 199 75 [l0, l1, l2, l3] S σ Q = oE d 199 76 [l0, l1, l2, l3] (.inl (1) :: S) σ Q := pKst f_199_75 (by decide)
theorem f_199_76 : oFet 199 76 = some (.if_icmp .ne 12, 3) := by decide +kernel
theorem s_199_76 {d : Nat} {l0 l1 l2 l3 : oV} {x y : Int} {S : List oV} {σ : oSg} {Q : Option oV → (Nat → oC) → Prop} : oE d 199 76 [l0, l1, l2, l3] (.inl y :: .inl x :: S) σ Q = if ¬ x = y then oE d 199 88 [l0, l1, l2, l3] S σ Q else oE d 199 79 [l0, l1, l2, l3] S σ Q := oCmpNe f_199_76 (by decide)
theorem f_199_79 : oFet 199 79 = some (.bipush 10, 2) := by decide +kernel
theorem s_199_79 {d : Nat} {l0 l1 l2 l3 : oV} {S : List oV} {σ : oSg} {Q : Option oV → (Nat → oC) → Prop} : oE d 199 79 [l0, l1, l2, l3] S σ Q = oE d 199 81 [l0, l1, l2, l3] (.inl (10) :: S) σ Q := pBip f_199_79 (by decide)
theorem f_199_81 : oFet 199 81 = some (.iload_n 2, 1) := by decide +kernel
theorem s_199_81 {d : Nat} {l0 l1 l3 : oV} {x : Int} {S : List oV} {σ : oSg} {Q : Option oV → (Nat → oC) → Prop} : oE d 199 81 [l0, l1, .inl x, l3] S σ Q = oE d 199 82 [l0, l1, .inl x, l3] (.inl x :: S) σ Q := pLdN (k := 2) f_199_81 rfl rfl rfl
theorem f_199_82 : oFet 199 82 = some (.imul, 1) := by decide +kernel
theorem s_199_82 {d : Nat} {l0 l1 l2 l3 : oV} {x y : Int} {S : List oV} {σ : oSg} {Q : Option oV → (Nat → oC) → Prop} : oE d 199 82 [l0, l1, l2, l3] (.inl y :: .inl x :: S) σ Q = oE d 199 83 [l0, l1, l2, l3] (.inl (oMul x y) :: S) σ Q := oS3 f_199_82 rfl rfl rfl
theorem f_199_83 : oFet 199 83 = some (.iload_n 3, 1) := by decide +kernel
theorem s_199_83 {d : Nat} {l0 l1 l2 : oV} {x : Int} {S : List oV} {σ : oSg} {Q : Option oV → (Nat → oC) → Prop} : oE d 199 83 [l0, l1, l2, .inl x] S σ Q = oE d 199 84 [l0, l1, l2, .inl x] (.inl x :: S) σ Q := pLdN (k := 3) f_199_83 rfl rfl rfl
theorem f_199_84 : oFet 199 84 = some (.iadd, 1) := by decide +kernel
theorem s_199_84 {d : Nat} {l0 l1 l2 l3 : oV} {x y : Int} {S : List oV} {σ : oSg} {Q : Option oV → (Nat → oC) → Prop} : oE d 199 84 [l0, l1, l2, l3] (.inl y :: .inl x :: S) σ Q = oE d 199 85 [l0, l1, l2, l3] (.inl (oAdd x y) :: S) σ Q := oS3 f_199_84 rfl rfl rfl
theorem f_199_85 : oFet 199 85 = some (.goto 18, 3) := by decide +kernel
theorem s_199_85 {d : Nat} {l0 l1 l2 l3 : oV} {S : List oV} {σ : oSg} {Q : Option oV → (Nat → oC) → Prop} : oE d 199 85 [l0, l1, l2, l3] S σ Q = oE d 199 103 [l0, l1, l2, l3] S σ Q := pGoto f_199_85 (by decide)
theorem f_199_88 : oFet 199 88 = some (.iconst 2, 1) := by decide +kernel
theorem s_199_88 {d : Nat} {l0 l1 l2 l3 : oV} {S : List oV} {σ : oSg} {Q : Option oV → (Nat → oC) → Prop} : oE d 199 88 [l0, l1, l2, l3] S σ Q = oE d 199 89 [l0, l1, l2, l3] (.inl (2) :: S) σ Q := pKst f_199_88 (by decide)
theorem f_199_89 : oFet 199 89 = some (.aload_n 0, 1) := by decide +kernel
theorem s_199_89 {d : Nat} {l1 l2 l3 : oV} {a : Nat} {S : List oV} {σ : oSg} {Q : Option oV → (Nat → oC) → Prop} : oE d 199 89 [.inr (.inr (.inl a)), l1, l2, l3] S σ Q = oE d 199 90 [.inr (.inr (.inl a)), l1, l2, l3] (.inr (.inr (.inl a)) :: S) σ Q := pLdN (k := 0) f_199_89 rfl rfl rfl
theorem f_199_90 : oFet 199 90 = some (.iload_n 2, 1) := by decide +kernel
theorem s_199_90 {d : Nat} {l0 l1 l3 : oV} {x : Int} {S : List oV} {σ : oSg} {Q : Option oV → (Nat → oC) → Prop} : oE d 199 90 [l0, l1, .inl x, l3] S σ Q = oE d 199 91 [l0, l1, .inl x, l3] (.inl x :: S) σ Q := pLdN (k := 2) f_199_90 rfl rfl rfl
theorem f_199_91 : oFet 199 91 = some (.iload_n 3, 1) := by decide +kernel
theorem s_199_91 {d : Nat} {l0 l1 l2 : oV} {x : Int} {S : List oV} {σ : oSg} {Q : Option oV → (Nat → oC) → Prop} : oE d 199 91 [l0, l1, l2, .inl x] S σ Q = oE d 199 92 [l0, l1, l2, .inl x] (.inl x :: S) σ Q := pLdN (k := 3) f_199_91 rfl rfl rfl
theorem f_199_92 : oFet 199 92 = some (.invokevirtual 65, 3) := by decide +kernel
theorem c_199_92 {d : Nat} {l0 l1 l2 l3 : oV} {x0 x1 : oV} {a : Nat} {v : Option oV} {τ : oSg} {S : List oV} {σ : oSg} {Q : Option oV → (Nat → oC) → Prop} (hm : oMi d 147 [.inr (.inr (.inl a)), x0, x1] σ v τ) (hk : oKd a = some 11) (hs : oSmall S = true) : oE d 199 92 [l0, l1, l2, l3] (x1 :: x0 :: .inr (.inr (.inl a)) :: S) σ Q = oE d 199 95 [l0, l1, l2, l3] (v.toList ++ S) τ Q := pCallV f_199_92 ow_199 lk_11_65 mt_147 rfl rfl rfl hk hs hm
theorem f_199_95 : oFet 199 95 = some (.imul, 1) := by decide +kernel
theorem s_199_95 {d : Nat} {l0 l1 l2 l3 : oV} {x y : Int} {S : List oV} {σ : oSg} {Q : Option oV → (Nat → oC) → Prop} : oE d 199 95 [l0, l1, l2, l3] (.inl y :: .inl x :: S) σ Q = oE d 199 96 [l0, l1, l2, l3] (.inl (oMul x y) :: S) σ Q := oS3 f_199_95 rfl rfl rfl
theorem f_199_96 : oFet 199 96 = some (.aload_n 0, 1) := by decide +kernel
theorem s_199_96 {d : Nat} {l1 l2 l3 : oV} {a : Nat} {S : List oV} {σ : oSg} {Q : Option oV → (Nat → oC) → Prop} : oE d 199 96 [.inr (.inr (.inl a)), l1, l2, l3] S σ Q = oE d 199 97 [.inr (.inr (.inl a)), l1, l2, l3] (.inr (.inr (.inl a)) :: S) σ Q := pLdN (k := 0) f_199_96 rfl rfl rfl
theorem f_199_97 : oFet 199 97 = some (.iload_n 2, 1) := by decide +kernel
theorem s_199_97 {d : Nat} {l0 l1 l3 : oV} {x : Int} {S : List oV} {σ : oSg} {Q : Option oV → (Nat → oC) → Prop} : oE d 199 97 [l0, l1, .inl x, l3] S σ Q = oE d 199 98 [l0, l1, .inl x, l3] (.inl x :: S) σ Q := pLdN (k := 2) f_199_97 rfl rfl rfl
theorem f_199_98 : oFet 199 98 = some (.iload_n 3, 1) := by decide +kernel
theorem s_199_98 {d : Nat} {l0 l1 l2 : oV} {x : Int} {S : List oV} {σ : oSg} {Q : Option oV → (Nat → oC) → Prop} : oE d 199 98 [l0, l1, l2, .inl x] S σ Q = oE d 199 99 [l0, l1, l2, .inl x] (.inl x :: S) σ Q := pLdN (k := 3) f_199_98 rfl rfl rfl
theorem f_199_99 : oFet 199 99 = some (.invokevirtual 198, 3) := by decide +kernel
theorem c_199_99 {d : Nat} {l0 l1 l2 l3 : oV} {x0 x1 : oV} {a : Nat} {v : Option oV} {τ : oSg} {S : List oV} {σ : oSg} {Q : Option oV → (Nat → oC) → Prop} (hm : oMi d 185 [.inr (.inr (.inl a)), x0, x1] σ v τ) (hk : oKd a = some 11) (hs : oSmall S = true) : oE d 199 99 [l0, l1, l2, l3] (x1 :: x0 :: .inr (.inr (.inl a)) :: S) σ Q = oE d 199 102 [l0, l1, l2, l3] (v.toList ++ S) τ Q := pCallV f_199_99 ow_199 lk_11_198 mt_185 rfl rfl rfl hk hs hm
theorem f_199_102 : oFet 199 102 = some (.isub, 1) := by decide +kernel
theorem s_199_102 {d : Nat} {l0 l1 l2 l3 : oV} {x y : Int} {S : List oV} {σ : oSg} {Q : Option oV → (Nat → oC) → Prop} : oE d 199 102 [l0, l1, l2, l3] (.inl y :: .inl x :: S) σ Q = oE d 199 103 [l0, l1, l2, l3] (.inl (oSub x y) :: S) σ Q := oS3 f_199_102 rfl rfl rfl
theorem f_199_103 : oFet 199 103 = some (.ireturn, 1) := by decide +kernel
theorem s_199_103 {d : Nat} {l0 l1 l2 l3 : oV} {x : Int} {σ : oSg} {Q : Option oV → (Nat → oC) → Prop} : oE d 199 103 [l0, l1, l2, l3] [.inl x] σ Q = Q (some (.inl x)) (oBld σ) := oIret f_199_103 rt_199
theorem f_199_104 : oFet 199 104 = some (.iinc 3 1, 3) := by decide +kernel
theorem s_199_104 {d : Nat} {l0 l1 l2 : oV} {x : Int} {S : List oV} {σ : oSg} {Q : Option oV → (Nat → oC) → Prop} (c2 : oCat l2 = 1)  : oE d 199 104 [l0, l1, l2, .inl x] S σ Q = oE d 199 107 [l0, l1, l2, .inl (oAdd x (1))] S σ Q := pInc f_199_104 rfl (show (3 : Nat) < 4 by decide) (oC1n c2) (oC1n (v := .inl x) rfl) rfl
theorem f_199_107 : oFet 199 107 = some (.goto (-77), 3) := by decide +kernel
theorem s_199_107 {d : Nat} {l0 l1 l2 l3 : oV} {S : List oV} {σ : oSg} {Q : Option oV → (Nat → oC) → Prop} : oE d 199 107 [l0, l1, l2, l3] S σ Q = oE d 199 30 [l0, l1, l2, l3] S σ Q := pGoto f_199_107 (by decide)
theorem f_199_110 : oFet 199 110 = some (.iinc 2 1, 3) := by decide +kernel
theorem s_199_110 {d : Nat} {l0 l1 l3 : oV} {x : Int} {S : List oV} {σ : oSg} {Q : Option oV → (Nat → oC) → Prop} (c1 : oCat l1 = 1)  : oE d 199 110 [l0, l1, .inl x, l3] S σ Q = oE d 199 113 [l0, l1, .inl (oAdd x (1)), l3] S σ Q := pInc f_199_110 rfl (show (2 : Nat) < 4 by decide) (oC1n c1) (oC1n (v := .inl x) rfl) rfl
theorem f_199_113 : oFet 199 113 = some (.goto (-97), 3) := by decide +kernel
theorem s_199_113 {d : Nat} {l0 l1 l2 l3 : oV} {S : List oV} {σ : oSg} {Q : Option oV → (Nat → oC) → Prop} : oE d 199 113 [l0, l1, l2, l3] S σ Q = oE d 199 16 [l0, l1, l2, l3] S σ Q := pGoto f_199_113 (by decide)
theorem f_199_116 : oFet 199 116 = some (.iconst 0, 1) := by decide +kernel
theorem s_199_116 {d : Nat} {l0 l1 l2 l3 : oV} {S : List oV} {σ : oSg} {Q : Option oV → (Nat → oC) → Prop} : oE d 199 116 [l0, l1, l2, l3] S σ Q = oE d 199 117 [l0, l1, l2, l3] (.inl (0) :: S) σ Q := pKst f_199_116 (by decide)
theorem f_199_117 : oFet 199 117 = some (.istore_n 2, 1) := by decide +kernel
theorem s_199_117 {d : Nat} {l0 l1 l2 l3 : oV} {x : Int} {S : List oV} {σ : oSg} {Q : Option oV → (Nat → oC) → Prop} (c2 : oCat l2 = 1) (c1 : oCat l1 = 1)  : oE d 199 117 [l0, l1, l2, l3] (.inl x :: S) σ Q = oE d 199 118 [l0, l1, .inl x, l3] S σ Q := pSt (i := 2) f_199_117 rfl rfl (show (2 : Nat) < 4 by decide) (oC1n c1) (oC1n c2) rfl
theorem f_199_118 : oFet 199 118 = some (.iload_n 2, 1) := by decide +kernel
theorem s_199_118 {d : Nat} {l0 l1 l3 : oV} {x : Int} {S : List oV} {σ : oSg} {Q : Option oV → (Nat → oC) → Prop} : oE d 199 118 [l0, l1, .inl x, l3] S σ Q = oE d 199 119 [l0, l1, .inl x, l3] (.inl x :: S) σ Q := pLdN (k := 2) f_199_118 rfl rfl rfl
theorem f_199_119 : oFet 199 119 = some (.aload_n 0, 1) := by decide +kernel
theorem s_199_119 {d : Nat} {l1 l2 l3 : oV} {a : Nat} {S : List oV} {σ : oSg} {Q : Option oV → (Nat → oC) → Prop} : oE d 199 119 [.inr (.inr (.inl a)), l1, l2, l3] S σ Q = oE d 199 120 [.inr (.inr (.inl a)), l1, l2, l3] (.inr (.inr (.inl a)) :: S) σ Q := pLdN (k := 0) f_199_119 rfl rfl rfl
theorem f_199_120 : oFet 199 120 = some (.getfield 11, 3) := by decide +kernel
theorem s_199_120 {d : Nat} {l0 l1 l2 l3 : oV} {a : Nat} {S : List oV} {σ : oSg} {Q : Option oV → (Nat → oC) → Prop} (hk : oKd a = some 11) : oE d 199 120 [l0, l1, l2, l3] (.inr (.inr (.inl a)) :: S) σ Q = oE d 199 123 [l0, l1, l2, l3] (.inr (.inr (.inl (oRf a 0))) :: S) σ Q := pGfR f_199_120 ow_199 fl_11_11 rfl (by decide) hk
theorem f_199_123 : oFet 199 123 = some (.bipush 64, 2) := by decide +kernel
theorem s_199_123 {d : Nat} {l0 l1 l2 l3 : oV} {S : List oV} {σ : oSg} {Q : Option oV → (Nat → oC) → Prop} : oE d 199 123 [l0, l1, l2, l3] S σ Q = oE d 199 125 [l0, l1, l2, l3] (.inl (64) :: S) σ Q := pBip f_199_123 (by decide)
theorem f_199_125 : oFet 199 125 = some (.iaload, 1) := by decide +kernel
theorem s_199_125 {d : Nat} {l0 l1 l2 l3 : oV} {a : Nat} {i : Int} {S : List oV} {σ : oSg} {Q : Option oV → (Nat → oC) → Prop} (hk : oAk a = some 0) (h0 : 0 ≤ i) (h1 : i < (oLn a : Int)) : oE d 199 125 [l0, l1, l2, l3] (.inl i :: .inr (.inr (.inl a)) :: S) σ Q = oE d 199 126 [l0, l1, l2, l3] (.inl (σ.2 a i.toNat) :: S) σ Q := oIal f_199_125 hk h0 h1
theorem f_199_126 : oFet 199 126 = some (.if_icmp .ge 56, 3) := by decide +kernel
theorem s_199_126 {d : Nat} {l0 l1 l2 l3 : oV} {x y : Int} {S : List oV} {σ : oSg} {Q : Option oV → (Nat → oC) → Prop} : oE d 199 126 [l0, l1, l2, l3] (.inl y :: .inl x :: S) σ Q = if y ≤ x then oE d 199 182 [l0, l1, l2, l3] S σ Q else oE d 199 129 [l0, l1, l2, l3] S σ Q := oCmpGe f_199_126 (by decide)
theorem f_199_129 : oFet 199 129 = some (.aload_n 0, 1) := by decide +kernel
theorem s_199_129 {d : Nat} {l1 l2 l3 : oV} {a : Nat} {S : List oV} {σ : oSg} {Q : Option oV → (Nat → oC) → Prop} : oE d 199 129 [.inr (.inr (.inl a)), l1, l2, l3] S σ Q = oE d 199 130 [.inr (.inr (.inl a)), l1, l2, l3] (.inr (.inr (.inl a)) :: S) σ Q := pLdN (k := 0) f_199_129 rfl rfl rfl
theorem f_199_130 : oFet 199 130 = some (.getfield 11, 3) := by decide +kernel
theorem s_199_130 {d : Nat} {l0 l1 l2 l3 : oV} {a : Nat} {S : List oV} {σ : oSg} {Q : Option oV → (Nat → oC) → Prop} (hk : oKd a = some 11) : oE d 199 130 [l0, l1, l2, l3] (.inr (.inr (.inl a)) :: S) σ Q = oE d 199 133 [l0, l1, l2, l3] (.inr (.inr (.inl (oRf a 0))) :: S) σ Q := pGfR f_199_130 ow_199 fl_11_11 rfl (by decide) hk
theorem f_199_133 : oFet 199 133 = some (.bipush 65, 2) := by decide +kernel
theorem s_199_133 {d : Nat} {l0 l1 l2 l3 : oV} {S : List oV} {σ : oSg} {Q : Option oV → (Nat → oC) → Prop} : oE d 199 133 [l0, l1, l2, l3] S σ Q = oE d 199 135 [l0, l1, l2, l3] (.inl (65) :: S) σ Q := pBip f_199_133 (by decide)
theorem f_199_135 : oFet 199 135 = some (.iload_n 2, 1) := by decide +kernel
theorem s_199_135 {d : Nat} {l0 l1 l3 : oV} {x : Int} {S : List oV} {σ : oSg} {Q : Option oV → (Nat → oC) → Prop} : oE d 199 135 [l0, l1, .inl x, l3] S σ Q = oE d 199 136 [l0, l1, .inl x, l3] (.inl x :: S) σ Q := pLdN (k := 2) f_199_135 rfl rfl rfl
theorem f_199_136 : oFet 199 136 = some (.iadd, 1) := by decide +kernel
theorem s_199_136 {d : Nat} {l0 l1 l2 l3 : oV} {x y : Int} {S : List oV} {σ : oSg} {Q : Option oV → (Nat → oC) → Prop} : oE d 199 136 [l0, l1, l2, l3] (.inl y :: .inl x :: S) σ Q = oE d 199 137 [l0, l1, l2, l3] (.inl (oAdd x y) :: S) σ Q := oS3 f_199_136 rfl rfl rfl
theorem f_199_137 : oFet 199 137 = some (.iaload, 1) := by decide +kernel
theorem s_199_137 {d : Nat} {l0 l1 l2 l3 : oV} {a : Nat} {i : Int} {S : List oV} {σ : oSg} {Q : Option oV → (Nat → oC) → Prop} (hk : oAk a = some 0) (h0 : 0 ≤ i) (h1 : i < (oLn a : Int)) : oE d 199 137 [l0, l1, l2, l3] (.inl i :: .inr (.inr (.inl a)) :: S) σ Q = oE d 199 138 [l0, l1, l2, l3] (.inl (σ.2 a i.toNat) :: S) σ Q := oIal f_199_137 hk h0 h1
theorem f_199_138 : oFet 199 138 = some (.istore_n 3, 1) := by decide +kernel
theorem s_199_138 {d : Nat} {l0 l1 l2 l3 : oV} {x : Int} {S : List oV} {σ : oSg} {Q : Option oV → (Nat → oC) → Prop} (c3 : oCat l3 = 1) (c2 : oCat l2 = 1)  : oE d 199 138 [l0, l1, l2, l3] (.inl x :: S) σ Q = oE d 199 139 [l0, l1, l2, .inl x] S σ Q := pSt (i := 3) f_199_138 rfl rfl (show (3 : Nat) < 4 by decide) (oC1n c2) (oC1n c3) rfl
theorem f_199_139 : oFet 199 139 = some (.aload_n 0, 1) := by decide +kernel
theorem s_199_139 {d : Nat} {l1 l2 l3 : oV} {a : Nat} {S : List oV} {σ : oSg} {Q : Option oV → (Nat → oC) → Prop} : oE d 199 139 [.inr (.inr (.inl a)), l1, l2, l3] S σ Q = oE d 199 140 [.inr (.inr (.inl a)), l1, l2, l3] (.inr (.inr (.inl a)) :: S) σ Q := pLdN (k := 0) f_199_139 rfl rfl rfl
theorem f_199_140 : oFet 199 140 = some (.iload_n 3, 1) := by decide +kernel
theorem s_199_140 {d : Nat} {l0 l1 l2 : oV} {x : Int} {S : List oV} {σ : oSg} {Q : Option oV → (Nat → oC) → Prop} : oE d 199 140 [l0, l1, l2, .inl x] S σ Q = oE d 199 141 [l0, l1, l2, .inl x] (.inl x :: S) σ Q := pLdN (k := 3) f_199_140 rfl rfl rfl
theorem f_199_141 : oFet 199 141 = some (.invokevirtual 232, 3) := by decide +kernel
theorem c_199_141 {d : Nat} {l0 l1 l2 l3 : oV} {x0 : oV} {a : Nat} {v : Option oV} {τ : oSg} {S : List oV} {σ : oSg} {Q : Option oV → (Nat → oC) → Prop} (hm : oMi d 200 [.inr (.inr (.inl a)), x0] σ v τ) (hk : oKd a = some 11) (hs : oSmall S = true) : oE d 199 141 [l0, l1, l2, l3] (x0 :: .inr (.inr (.inl a)) :: S) σ Q = oE d 199 144 [l0, l1, l2, l3] (v.toList ++ S) τ Q := pCallV f_199_141 ow_199 lk_11_232 mt_200 rfl rfl rfl hk hs hm
theorem f_199_144 : oFet 199 144 = some (.iload_n 3, 1) := by decide +kernel
theorem s_199_144 {d : Nat} {l0 l1 l2 : oV} {x : Int} {S : List oV} {σ : oSg} {Q : Option oV → (Nat → oC) → Prop} : oE d 199 144 [l0, l1, l2, .inl x] S σ Q = oE d 199 145 [l0, l1, l2, .inl x] (.inl x :: S) σ Q := pLdN (k := 3) f_199_144 rfl rfl rfl
theorem f_199_145 : oFet 199 145 = some (.invokestatic 211, 3) := by decide +kernel
theorem c_199_145 {d : Nat} {l0 l1 l2 l3 : oV} {x0 : oV} {v : Option oV} {τ : oSg} {S : List oV} {σ : oSg} {Q : Option oV → (Nat → oC) → Prop} (hm : oMi d 188 [x0] σ v τ) (hs : oSmall S = true) : oE d 199 145 [l0, l1, l2, l3] (x0 :: S) σ Q = oE d 199 148 [l0, l1, l2, l3] (v.toList ++ S) τ Q := pCallS f_199_145 ow_199 lk_11_211 mt_188 rfl rfl rfl hs hm
theorem f_199_148 : oFet 199 148 = some (.iconst 2, 1) := by decide +kernel
theorem s_199_148 {d : Nat} {l0 l1 l2 l3 : oV} {S : List oV} {σ : oSg} {Q : Option oV → (Nat → oC) → Prop} : oE d 199 148 [l0, l1, l2, l3] S σ Q = oE d 199 149 [l0, l1, l2, l3] (.inl (2) :: S) σ Q := pKst f_199_148 (by decide)
theorem f_199_149 : oFet 199 149 = some (.idiv, 1) := by decide +kernel
theorem s_199_149 {d : Nat} {l0 l1 l2 l3 : oV} {x y : Int} {S : List oV} {σ : oSg} {Q : Option oV → (Nat → oC) → Prop} (hy : y ≠ 0) : oE d 199 149 [l0, l1, l2, l3] (.inl y :: .inl x :: S) σ Q = oE d 199 150 [l0, l1, l2, l3] (.inl (oDiv x y) :: S) σ Q := pDiv f_199_149 hy
theorem f_199_150 : oFet 199 150 = some (.if_icmp .ge 26, 3) := by decide +kernel
theorem s_199_150 {d : Nat} {l0 l1 l2 l3 : oV} {x y : Int} {S : List oV} {σ : oSg} {Q : Option oV → (Nat → oC) → Prop} : oE d 199 150 [l0, l1, l2, l3] (.inl y :: .inl x :: S) σ Q = if y ≤ x then oE d 199 176 [l0, l1, l2, l3] S σ Q else oE d 199 153 [l0, l1, l2, l3] S σ Q := oCmpGe f_199_150 (by decide)
theorem f_199_153 : oFet 199 153 = some (.iload_n 1, 1) := by decide +kernel
theorem s_199_153 {d : Nat} {l0 l2 l3 : oV} {x : Int} {S : List oV} {σ : oSg} {Q : Option oV → (Nat → oC) → Prop} : oE d 199 153 [l0, .inl x, l2, l3] S σ Q = oE d 199 154 [l0, .inl x, l2, l3] (.inl x :: S) σ Q := pLdN (k := 1) f_199_153 rfl rfl rfl
theorem f_199_154 : oFet 199 154 = some (.ifCond .ne 7, 3) := by decide +kernel
theorem s_199_154 {d : Nat} {l0 l1 l2 l3 : oV} {x : Int} {S : List oV} {σ : oSg} {Q : Option oV → (Nat → oC) → Prop} : oE d 199 154 [l0, l1, l2, l3] (.inl x :: S) σ Q = if ¬ x = 0 then oE d 199 161 [l0, l1, l2, l3] S σ Q else oE d 199 157 [l0, l1, l2, l3] S σ Q := oIfNe f_199_154 (by decide)
theorem f_199_157 : oFet 199 157 = some (.iconst 2, 1) := by decide +kernel
theorem s_199_157 {d : Nat} {l0 l1 l2 l3 : oV} {S : List oV} {σ : oSg} {Q : Option oV → (Nat → oC) → Prop} : oE d 199 157 [l0, l1, l2, l3] S σ Q = oE d 199 158 [l0, l1, l2, l3] (.inl (2) :: S) σ Q := pKst f_199_157 (by decide)
theorem f_199_158 : oFet 199 158 = some (.goto 17, 3) := by decide +kernel
theorem s_199_158 {d : Nat} {l0 l1 l2 l3 : oV} {S : List oV} {σ : oSg} {Q : Option oV → (Nat → oC) → Prop} : oE d 199 158 [l0, l1, l2, l3] S σ Q = oE d 199 175 [l0, l1, l2, l3] S σ Q := pGoto f_199_158 (by decide)
theorem f_199_161 : oFet 199 161 = some (.iload_n 1, 1) := by decide +kernel
theorem s_199_161 {d : Nat} {l0 l2 l3 : oV} {x : Int} {S : List oV} {σ : oSg} {Q : Option oV → (Nat → oC) → Prop} : oE d 199 161 [l0, .inl x, l2, l3] S σ Q = oE d 199 162 [l0, .inl x, l2, l3] (.inl x :: S) σ Q := pLdN (k := 1) f_199_161 rfl rfl rfl
theorem f_199_162 : oFet 199 162 = some (.iconst 1, 1) := by decide +kernel
theorem s_199_162 {d : Nat} {l0 l1 l2 l3 : oV} {S : List oV} {σ : oSg} {Q : Option oV → (Nat → oC) → Prop} : oE d 199 162 [l0, l1, l2, l3] S σ Q = oE d 199 163 [l0, l1, l2, l3] (.inl (1) :: S) σ Q := pKst f_199_162 (by decide)
theorem f_199_163 : oFet 199 163 = some (.if_icmp .ne 7, 3) := by decide +kernel
theorem s_199_163 {d : Nat} {l0 l1 l2 l3 : oV} {x y : Int} {S : List oV} {σ : oSg} {Q : Option oV → (Nat → oC) → Prop} : oE d 199 163 [l0, l1, l2, l3] (.inl y :: .inl x :: S) σ Q = if ¬ x = y then oE d 199 170 [l0, l1, l2, l3] S σ Q else oE d 199 166 [l0, l1, l2, l3] S σ Q := oCmpNe f_199_163 (by decide)
theorem f_199_166 : oFet 199 166 = some (.iload_n 3, 1) := by decide +kernel
theorem s_199_166 {d : Nat} {l0 l1 l2 : oV} {x : Int} {S : List oV} {σ : oSg} {Q : Option oV → (Nat → oC) → Prop} : oE d 199 166 [l0, l1, l2, .inl x] S σ Q = oE d 199 167 [l0, l1, l2, .inl x] (.inl x :: S) σ Q := pLdN (k := 3) f_199_166 rfl rfl rfl
theorem f_199_167 : oFet 199 167 = some (.goto 8, 3) := by decide +kernel
theorem s_199_167 {d : Nat} {l0 l1 l2 l3 : oV} {S : List oV} {σ : oSg} {Q : Option oV → (Nat → oC) → Prop} : oE d 199 167 [l0, l1, l2, l3] S σ Q = oE d 199 175 [l0, l1, l2, l3] S σ Q := pGoto f_199_167 (by decide)
theorem f_199_170 : oFet 199 170 = some (.aload_n 0, 1) := by decide +kernel
theorem s_199_170 {d : Nat} {l1 l2 l3 : oV} {a : Nat} {S : List oV} {σ : oSg} {Q : Option oV → (Nat → oC) → Prop} : oE d 199 170 [.inr (.inr (.inl a)), l1, l2, l3] S σ Q = oE d 199 171 [.inr (.inr (.inl a)), l1, l2, l3] (.inr (.inr (.inl a)) :: S) σ Q := pLdN (k := 0) f_199_170 rfl rfl rfl
theorem f_199_171 : oFet 199 171 = some (.iload_n 3, 1) := by decide +kernel
theorem s_199_171 {d : Nat} {l0 l1 l2 : oV} {x : Int} {S : List oV} {σ : oSg} {Q : Option oV → (Nat → oC) → Prop} : oE d 199 171 [l0, l1, l2, .inl x] S σ Q = oE d 199 172 [l0, l1, l2, .inl x] (.inl x :: S) σ Q := pLdN (k := 3) f_199_171 rfl rfl rfl
theorem f_199_172 : oFet 199 172 = some (.invokevirtual 232, 3) := by decide +kernel
theorem c_199_172 {d : Nat} {l0 l1 l2 l3 : oV} {x0 : oV} {a : Nat} {v : Option oV} {τ : oSg} {S : List oV} {σ : oSg} {Q : Option oV → (Nat → oC) → Prop} (hm : oMi d 200 [.inr (.inr (.inl a)), x0] σ v τ) (hk : oKd a = some 11) (hs : oSmall S = true) : oE d 199 172 [l0, l1, l2, l3] (x0 :: .inr (.inr (.inl a)) :: S) σ Q = oE d 199 175 [l0, l1, l2, l3] (v.toList ++ S) τ Q := pCallV f_199_172 ow_199 lk_11_232 mt_200 rfl rfl rfl hk hs hm
theorem f_199_175 : oFet 199 175 = some (.ireturn, 1) := by decide +kernel
theorem s_199_175 {d : Nat} {l0 l1 l2 l3 : oV} {x : Int} {σ : oSg} {Q : Option oV → (Nat → oC) → Prop} : oE d 199 175 [l0, l1, l2, l3] [.inl x] σ Q = Q (some (.inl x)) (oBld σ) := oIret f_199_175 rt_199
theorem f_199_176 : oFet 199 176 = some (.iinc 2 1, 3) := by decide +kernel
theorem s_199_176 {d : Nat} {l0 l1 l3 : oV} {x : Int} {S : List oV} {σ : oSg} {Q : Option oV → (Nat → oC) → Prop} (c1 : oCat l1 = 1)  : oE d 199 176 [l0, l1, .inl x, l3] S σ Q = oE d 199 179 [l0, l1, .inl (oAdd x (1)), l3] S σ Q := pInc f_199_176 rfl (show (2 : Nat) < 4 by decide) (oC1n c1) (oC1n (v := .inl x) rfl) rfl
theorem f_199_179 : oFet 199 179 = some (.goto (-61), 3) := by decide +kernel
theorem s_199_179 {d : Nat} {l0 l1 l2 l3 : oV} {S : List oV} {σ : oSg} {Q : Option oV → (Nat → oC) → Prop} : oE d 199 179 [l0, l1, l2, l3] S σ Q = oE d 199 118 [l0, l1, l2, l3] S σ Q := pGoto f_199_179 (by decide)
theorem f_199_182 : oFet 199 182 = some (.iconst 0, 1) := by decide +kernel
theorem s_199_182 {d : Nat} {l0 l1 l2 l3 : oV} {S : List oV} {σ : oSg} {Q : Option oV → (Nat → oC) → Prop} : oE d 199 182 [l0, l1, l2, l3] S σ Q = oE d 199 183 [l0, l1, l2, l3] (.inl (0) :: S) σ Q := pKst f_199_182 (by decide)
theorem f_199_183 : oFet 199 183 = some (.istore_n 2, 1) := by decide +kernel
theorem s_199_183 {d : Nat} {l0 l1 l2 l3 : oV} {x : Int} {S : List oV} {σ : oSg} {Q : Option oV → (Nat → oC) → Prop} (c2 : oCat l2 = 1) (c1 : oCat l1 = 1)  : oE d 199 183 [l0, l1, l2, l3] (.inl x :: S) σ Q = oE d 199 184 [l0, l1, .inl x, l3] S σ Q := pSt (i := 2) f_199_183 rfl rfl (show (2 : Nat) < 4 by decide) (oC1n c1) (oC1n c2) rfl
theorem f_199_184 : oFet 199 184 = some (.iload_n 2, 1) := by decide +kernel
theorem s_199_184 {d : Nat} {l0 l1 l3 : oV} {x : Int} {S : List oV} {σ : oSg} {Q : Option oV → (Nat → oC) → Prop} : oE d 199 184 [l0, l1, .inl x, l3] S σ Q = oE d 199 185 [l0, l1, .inl x, l3] (.inl x :: S) σ Q := pLdN (k := 2) f_199_184 rfl rfl rfl
theorem f_199_185 : oFet 199 185 = some (.aload_n 0, 1) := by decide +kernel
theorem s_199_185 {d : Nat} {l1 l2 l3 : oV} {a : Nat} {S : List oV} {σ : oSg} {Q : Option oV → (Nat → oC) → Prop} : oE d 199 185 [.inr (.inr (.inl a)), l1, l2, l3] S σ Q = oE d 199 186 [.inr (.inr (.inl a)), l1, l2, l3] (.inr (.inr (.inl a)) :: S) σ Q := pLdN (k := 0) f_199_185 rfl rfl rfl
theorem f_199_186 : oFet 199 186 = some (.getfield 11, 3) := by decide +kernel
theorem s_199_186 {d : Nat} {l0 l1 l2 l3 : oV} {a : Nat} {S : List oV} {σ : oSg} {Q : Option oV → (Nat → oC) → Prop} (hk : oKd a = some 11) : oE d 199 186 [l0, l1, l2, l3] (.inr (.inr (.inl a)) :: S) σ Q = oE d 199 189 [l0, l1, l2, l3] (.inr (.inr (.inl (oRf a 0))) :: S) σ Q := pGfR f_199_186 ow_199 fl_11_11 rfl (by decide) hk
theorem f_199_189 : oFet 199 189 = some (.iconst 0, 1) := by decide +kernel
theorem s_199_189 {d : Nat} {l0 l1 l2 l3 : oV} {S : List oV} {σ : oSg} {Q : Option oV → (Nat → oC) → Prop} : oE d 199 189 [l0, l1, l2, l3] S σ Q = oE d 199 190 [l0, l1, l2, l3] (.inl (0) :: S) σ Q := pKst f_199_189 (by decide)
theorem f_199_190 : oFet 199 190 = some (.iaload, 1) := by decide +kernel
theorem s_199_190 {d : Nat} {l0 l1 l2 l3 : oV} {a : Nat} {i : Int} {S : List oV} {σ : oSg} {Q : Option oV → (Nat → oC) → Prop} (hk : oAk a = some 0) (h0 : 0 ≤ i) (h1 : i < (oLn a : Int)) : oE d 199 190 [l0, l1, l2, l3] (.inl i :: .inr (.inr (.inl a)) :: S) σ Q = oE d 199 191 [l0, l1, l2, l3] (.inl (σ.2 a i.toNat) :: S) σ Q := oIal f_199_190 hk h0 h1
theorem f_199_191 : oFet 199 191 = some (.if_icmp .ge 57, 3) := by decide +kernel
theorem s_199_191 {d : Nat} {l0 l1 l2 l3 : oV} {x y : Int} {S : List oV} {σ : oSg} {Q : Option oV → (Nat → oC) → Prop} : oE d 199 191 [l0, l1, l2, l3] (.inl y :: .inl x :: S) σ Q = if y ≤ x then oE d 199 248 [l0, l1, l2, l3] S σ Q else oE d 199 194 [l0, l1, l2, l3] S σ Q := oCmpGe f_199_191 (by decide)
theorem f_199_194 : oFet 199 194 = some (.aload_n 0, 1) := by decide +kernel
theorem s_199_194 {d : Nat} {l1 l2 l3 : oV} {a : Nat} {S : List oV} {σ : oSg} {Q : Option oV → (Nat → oC) → Prop} : oE d 199 194 [.inr (.inr (.inl a)), l1, l2, l3] S σ Q = oE d 199 195 [.inr (.inr (.inl a)), l1, l2, l3] (.inr (.inr (.inl a)) :: S) σ Q := pLdN (k := 0) f_199_194 rfl rfl rfl
theorem f_199_195 : oFet 199 195 = some (.iload_n 2, 1) := by decide +kernel
theorem s_199_195 {d : Nat} {l0 l1 l3 : oV} {x : Int} {S : List oV} {σ : oSg} {Q : Option oV → (Nat → oC) → Prop} : oE d 199 195 [l0, l1, .inl x, l3] S σ Q = oE d 199 196 [l0, l1, .inl x, l3] (.inl x :: S) σ Q := pLdN (k := 2) f_199_195 rfl rfl rfl
theorem f_199_196 : oFet 199 196 = some (.invokevirtual 75, 3) := by decide +kernel
theorem c_199_196 {d : Nat} {l0 l1 l2 l3 : oV} {x0 : oV} {a : Nat} {v : Option oV} {τ : oSg} {S : List oV} {σ : oSg} {Q : Option oV → (Nat → oC) → Prop} (hm : oMi d 149 [.inr (.inr (.inl a)), x0] σ v τ) (hk : oKd a = some 11) (hs : oSmall S = true) : oE d 199 196 [l0, l1, l2, l3] (x0 :: .inr (.inr (.inl a)) :: S) σ Q = oE d 199 199 [l0, l1, l2, l3] (v.toList ++ S) τ Q := pCallV f_199_196 ow_199 lk_11_75 mt_149 rfl rfl rfl hk hs hm
theorem f_199_199 : oFet 199 199 = some (.iconst (-1), 1) := by decide +kernel
theorem s_199_199 {d : Nat} {l0 l1 l2 l3 : oV} {S : List oV} {σ : oSg} {Q : Option oV → (Nat → oC) → Prop} : oE d 199 199 [l0, l1, l2, l3] S σ Q = oE d 199 200 [l0, l1, l2, l3] (.inl (-1) :: S) σ Q := pKst f_199_199 (by decide)
theorem f_199_200 : oFet 199 200 = some (.if_icmp .ne 42, 3) := by decide +kernel
theorem s_199_200 {d : Nat} {l0 l1 l2 l3 : oV} {x y : Int} {S : List oV} {σ : oSg} {Q : Option oV → (Nat → oC) → Prop} : oE d 199 200 [l0, l1, l2, l3] (.inl y :: .inl x :: S) σ Q = if ¬ x = y then oE d 199 242 [l0, l1, l2, l3] S σ Q else oE d 199 203 [l0, l1, l2, l3] S σ Q := oCmpNe f_199_200 (by decide)
theorem f_199_203 : oFet 199 203 = some (.aload_n 0, 1) := by decide +kernel
theorem s_199_203 {d : Nat} {l1 l2 l3 : oV} {a : Nat} {S : List oV} {σ : oSg} {Q : Option oV → (Nat → oC) → Prop} : oE d 199 203 [.inr (.inr (.inl a)), l1, l2, l3] S σ Q = oE d 199 204 [.inr (.inr (.inl a)), l1, l2, l3] (.inr (.inr (.inl a)) :: S) σ Q := pLdN (k := 0) f_199_203 rfl rfl rfl
theorem f_199_204 : oFet 199 204 = some (.getfield 11, 3) := by decide +kernel
theorem s_199_204 {d : Nat} {l0 l1 l2 l3 : oV} {a : Nat} {S : List oV} {σ : oSg} {Q : Option oV → (Nat → oC) → Prop} (hk : oKd a = some 11) : oE d 199 204 [l0, l1, l2, l3] (.inr (.inr (.inl a)) :: S) σ Q = oE d 199 207 [l0, l1, l2, l3] (.inr (.inr (.inl (oRf a 0))) :: S) σ Q := pGfR f_199_204 ow_199 fl_11_11 rfl (by decide) hk
theorem f_199_207 : oFet 199 207 = some (.bipush 57, 2) := by decide +kernel
theorem s_199_207 {d : Nat} {l0 l1 l2 l3 : oV} {S : List oV} {σ : oSg} {Q : Option oV → (Nat → oC) → Prop} : oE d 199 207 [l0, l1, l2, l3] S σ Q = oE d 199 209 [l0, l1, l2, l3] (.inl (57) :: S) σ Q := pBip f_199_207 (by decide)
theorem f_199_209 : oFet 199 209 = some (.iload_n 2, 1) := by decide +kernel
theorem s_199_209 {d : Nat} {l0 l1 l3 : oV} {x : Int} {S : List oV} {σ : oSg} {Q : Option oV → (Nat → oC) → Prop} : oE d 199 209 [l0, l1, .inl x, l3] S σ Q = oE d 199 210 [l0, l1, .inl x, l3] (.inl x :: S) σ Q := pLdN (k := 2) f_199_209 rfl rfl rfl
theorem f_199_210 : oFet 199 210 = some (.iadd, 1) := by decide +kernel
theorem s_199_210 {d : Nat} {l0 l1 l2 l3 : oV} {x y : Int} {S : List oV} {σ : oSg} {Q : Option oV → (Nat → oC) → Prop} : oE d 199 210 [l0, l1, l2, l3] (.inl y :: .inl x :: S) σ Q = oE d 199 211 [l0, l1, l2, l3] (.inl (oAdd x y) :: S) σ Q := oS3 f_199_210 rfl rfl rfl
theorem f_199_211 : oFet 199 211 = some (.iaload, 1) := by decide +kernel
theorem s_199_211 {d : Nat} {l0 l1 l2 l3 : oV} {a : Nat} {i : Int} {S : List oV} {σ : oSg} {Q : Option oV → (Nat → oC) → Prop} (hk : oAk a = some 0) (h0 : 0 ≤ i) (h1 : i < (oLn a : Int)) : oE d 199 211 [l0, l1, l2, l3] (.inl i :: .inr (.inr (.inl a)) :: S) σ Q = oE d 199 212 [l0, l1, l2, l3] (.inl (σ.2 a i.toNat) :: S) σ Q := oIal f_199_211 hk h0 h1
theorem f_199_212 : oFet 199 212 = some (.ifCond .le 30, 3) := by decide +kernel
theorem s_199_212 {d : Nat} {l0 l1 l2 l3 : oV} {x : Int} {S : List oV} {σ : oSg} {Q : Option oV → (Nat → oC) → Prop} : oE d 199 212 [l0, l1, l2, l3] (.inl x :: S) σ Q = if x ≤ 0 then oE d 199 242 [l0, l1, l2, l3] S σ Q else oE d 199 215 [l0, l1, l2, l3] S σ Q := oIfLe f_199_212 (by decide)
theorem f_199_215 : oFet 199 215 = some (.iload_n 1, 1) := by decide +kernel
theorem s_199_215 {d : Nat} {l0 l2 l3 : oV} {x : Int} {S : List oV} {σ : oSg} {Q : Option oV → (Nat → oC) → Prop} : oE d 199 215 [l0, .inl x, l2, l3] S σ Q = oE d 199 216 [l0, .inl x, l2, l3] (.inl x :: S) σ Q := pLdN (k := 1) f_199_215 rfl rfl rfl
theorem f_199_216 : oFet 199 216 = some (.ifCond .ne 7, 3) := by decide +kernel
theorem s_199_216 {d : Nat} {l0 l1 l2 l3 : oV} {x : Int} {S : List oV} {σ : oSg} {Q : Option oV → (Nat → oC) → Prop} : oE d 199 216 [l0, l1, l2, l3] (.inl x :: S) σ Q = if ¬ x = 0 then oE d 199 223 [l0, l1, l2, l3] S σ Q else oE d 199 219 [l0, l1, l2, l3] S σ Q := oIfNe f_199_216 (by decide)
theorem f_199_219 : oFet 199 219 = some (.iconst 3, 1) := by decide +kernel
theorem s_199_219 {d : Nat} {l0 l1 l2 l3 : oV} {S : List oV} {σ : oSg} {Q : Option oV → (Nat → oC) → Prop} : oE d 199 219 [l0, l1, l2, l3] S σ Q = oE d 199 220 [l0, l1, l2, l3] (.inl (3) :: S) σ Q := pKst f_199_219 (by decide)
theorem f_199_220 : oFet 199 220 = some (.goto 21, 3) := by decide +kernel
theorem s_199_220 {d : Nat} {l0 l1 l2 l3 : oV} {S : List oV} {σ : oSg} {Q : Option oV → (Nat → oC) → Prop} : oE d 199 220 [l0, l1, l2, l3] S σ Q = oE d 199 241 [l0, l1, l2, l3] S σ Q := pGoto f_199_220 (by decide)
theorem f_199_223 : oFet 199 223 = some (.iload_n 1, 1) := by decide +kernel
theorem s_199_223 {d : Nat} {l0 l2 l3 : oV} {x : Int} {S : List oV} {σ : oSg} {Q : Option oV → (Nat → oC) → Prop} : oE d 199 223 [l0, .inl x, l2, l3] S σ Q = oE d 199 224 [l0, .inl x, l2, l3] (.inl x :: S) σ Q := pLdN (k := 1) f_199_223 rfl rfl rfl
theorem f_199_224 : oFet 199 224 = some (.iconst 1, 1) := by decide +kernel
theorem s_199_224 {d : Nat} {l0 l1 l2 l3 : oV} {S : List oV} {σ : oSg} {Q : Option oV → (Nat → oC) → Prop} : oE d 199 224 [l0, l1, l2, l3] S σ Q = oE d 199 225 [l0, l1, l2, l3] (.inl (1) :: S) σ Q := pKst f_199_224 (by decide)
theorem f_199_225 : oFet 199 225 = some (.if_icmp .ne 7, 3) := by decide +kernel
theorem s_199_225 {d : Nat} {l0 l1 l2 l3 : oV} {x y : Int} {S : List oV} {σ : oSg} {Q : Option oV → (Nat → oC) → Prop} : oE d 199 225 [l0, l1, l2, l3] (.inl y :: .inl x :: S) σ Q = if ¬ x = y then oE d 199 232 [l0, l1, l2, l3] S σ Q else oE d 199 228 [l0, l1, l2, l3] S σ Q := oCmpNe f_199_225 (by decide)
theorem f_199_228 : oFet 199 228 = some (.iload_n 2, 1) := by decide +kernel
theorem s_199_228 {d : Nat} {l0 l1 l3 : oV} {x : Int} {S : List oV} {σ : oSg} {Q : Option oV → (Nat → oC) → Prop} : oE d 199 228 [l0, l1, .inl x, l3] S σ Q = oE d 199 229 [l0, l1, .inl x, l3] (.inl x :: S) σ Q := pLdN (k := 2) f_199_228 rfl rfl rfl
theorem f_199_229 : oFet 199 229 = some (.goto 12, 3) := by decide +kernel
theorem s_199_229 {d : Nat} {l0 l1 l2 l3 : oV} {S : List oV} {σ : oSg} {Q : Option oV → (Nat → oC) → Prop} : oE d 199 229 [l0, l1, l2, l3] S σ Q = oE d 199 241 [l0, l1, l2, l3] S σ Q := pGoto f_199_229 (by decide)
theorem f_199_232 : oFet 199 232 = some (.aload_n 0, 1) := by decide +kernel
theorem s_199_232 {d : Nat} {l1 l2 l3 : oV} {a : Nat} {S : List oV} {σ : oSg} {Q : Option oV → (Nat → oC) → Prop} : oE d 199 232 [.inr (.inr (.inl a)), l1, l2, l3] S σ Q = oE d 199 233 [.inr (.inr (.inl a)), l1, l2, l3] (.inr (.inr (.inl a)) :: S) σ Q := pLdN (k := 0) f_199_232 rfl rfl rfl
theorem f_199_233 : oFet 199 233 = some (.getfield 11, 3) := by decide +kernel
theorem s_199_233 {d : Nat} {l0 l1 l2 l3 : oV} {a : Nat} {S : List oV} {σ : oSg} {Q : Option oV → (Nat → oC) → Prop} (hk : oKd a = some 11) : oE d 199 233 [l0, l1, l2, l3] (.inr (.inr (.inl a)) :: S) σ Q = oE d 199 236 [l0, l1, l2, l3] (.inr (.inr (.inl (oRf a 0))) :: S) σ Q := pGfR f_199_233 ow_199 fl_11_11 rfl (by decide) hk
theorem f_199_236 : oFet 199 236 = some (.bipush 57, 2) := by decide +kernel
theorem s_199_236 {d : Nat} {l0 l1 l2 l3 : oV} {S : List oV} {σ : oSg} {Q : Option oV → (Nat → oC) → Prop} : oE d 199 236 [l0, l1, l2, l3] S σ Q = oE d 199 238 [l0, l1, l2, l3] (.inl (57) :: S) σ Q := pBip f_199_236 (by decide)
theorem f_199_238 : oFet 199 238 = some (.iload_n 2, 1) := by decide +kernel
theorem s_199_238 {d : Nat} {l0 l1 l3 : oV} {x : Int} {S : List oV} {σ : oSg} {Q : Option oV → (Nat → oC) → Prop} : oE d 199 238 [l0, l1, .inl x, l3] S σ Q = oE d 199 239 [l0, l1, .inl x, l3] (.inl x :: S) σ Q := pLdN (k := 2) f_199_238 rfl rfl rfl
theorem f_199_239 : oFet 199 239 = some (.iadd, 1) := by decide +kernel
theorem s_199_239 {d : Nat} {l0 l1 l2 l3 : oV} {x y : Int} {S : List oV} {σ : oSg} {Q : Option oV → (Nat → oC) → Prop} : oE d 199 239 [l0, l1, l2, l3] (.inl y :: .inl x :: S) σ Q = oE d 199 240 [l0, l1, l2, l3] (.inl (oAdd x y) :: S) σ Q := oS3 f_199_239 rfl rfl rfl
theorem f_199_240 : oFet 199 240 = some (.iaload, 1) := by decide +kernel
theorem s_199_240 {d : Nat} {l0 l1 l2 l3 : oV} {a : Nat} {i : Int} {S : List oV} {σ : oSg} {Q : Option oV → (Nat → oC) → Prop} (hk : oAk a = some 0) (h0 : 0 ≤ i) (h1 : i < (oLn a : Int)) : oE d 199 240 [l0, l1, l2, l3] (.inl i :: .inr (.inr (.inl a)) :: S) σ Q = oE d 199 241 [l0, l1, l2, l3] (.inl (σ.2 a i.toNat) :: S) σ Q := oIal f_199_240 hk h0 h1
theorem f_199_241 : oFet 199 241 = some (.ireturn, 1) := by decide +kernel
theorem s_199_241 {d : Nat} {l0 l1 l2 l3 : oV} {x : Int} {σ : oSg} {Q : Option oV → (Nat → oC) → Prop} : oE d 199 241 [l0, l1, l2, l3] [.inl x] σ Q = Q (some (.inl x)) (oBld σ) := oIret f_199_241 rt_199
theorem f_199_242 : oFet 199 242 = some (.iinc 2 1, 3) := by decide +kernel
theorem s_199_242 {d : Nat} {l0 l1 l3 : oV} {x : Int} {S : List oV} {σ : oSg} {Q : Option oV → (Nat → oC) → Prop} (c1 : oCat l1 = 1)  : oE d 199 242 [l0, l1, .inl x, l3] S σ Q = oE d 199 245 [l0, l1, .inl (oAdd x (1)), l3] S σ Q := pInc f_199_242 rfl (show (2 : Nat) < 4 by decide) (oC1n c1) (oC1n (v := .inl x) rfl) rfl
theorem f_199_245 : oFet 199 245 = some (.goto (-61), 3) := by decide +kernel
theorem s_199_245 {d : Nat} {l0 l1 l2 l3 : oV} {S : List oV} {σ : oSg} {Q : Option oV → (Nat → oC) → Prop} : oE d 199 245 [l0, l1, l2, l3] S σ Q = oE d 199 184 [l0, l1, l2, l3] S σ Q := pGoto f_199_245 (by decide)
theorem f_199_248 : oFet 199 248 = some (.iconst 0, 1) := by decide +kernel
theorem s_199_248 {d : Nat} {l0 l1 l2 l3 : oV} {S : List oV} {σ : oSg} {Q : Option oV → (Nat → oC) → Prop} : oE d 199 248 [l0, l1, l2, l3] S σ Q = oE d 199 249 [l0, l1, l2, l3] (.inl (0) :: S) σ Q := pKst f_199_248 (by decide)
theorem f_199_249 : oFet 199 249 = some (.istore_n 2, 1) := by decide +kernel
theorem s_199_249 {d : Nat} {l0 l1 l2 l3 : oV} {x : Int} {S : List oV} {σ : oSg} {Q : Option oV → (Nat → oC) → Prop} (c2 : oCat l2 = 1) (c1 : oCat l1 = 1)  : oE d 199 249 [l0, l1, l2, l3] (.inl x :: S) σ Q = oE d 199 250 [l0, l1, .inl x, l3] S σ Q := pSt (i := 2) f_199_249 rfl rfl (show (2 : Nat) < 4 by decide) (oC1n c1) (oC1n c2) rfl
theorem f_199_250 : oFet 199 250 = some (.iload_n 2, 1) := by decide +kernel
theorem s_199_250 {d : Nat} {l0 l1 l3 : oV} {x : Int} {S : List oV} {σ : oSg} {Q : Option oV → (Nat → oC) → Prop} : oE d 199 250 [l0, l1, .inl x, l3] S σ Q = oE d 199 251 [l0, l1, .inl x, l3] (.inl x :: S) σ Q := pLdN (k := 2) f_199_250 rfl rfl rfl
theorem f_199_251 : oFet 199 251 = some (.aload_n 0, 1) := by decide +kernel
theorem s_199_251 {d : Nat} {l1 l2 l3 : oV} {a : Nat} {S : List oV} {σ : oSg} {Q : Option oV → (Nat → oC) → Prop} : oE d 199 251 [.inr (.inr (.inl a)), l1, l2, l3] S σ Q = oE d 199 252 [.inr (.inr (.inl a)), l1, l2, l3] (.inr (.inr (.inl a)) :: S) σ Q := pLdN (k := 0) f_199_251 rfl rfl rfl
theorem f_199_252 : oFet 199 252 = some (.getfield 11, 3) := by decide +kernel
theorem s_199_252 {d : Nat} {l0 l1 l2 l3 : oV} {a : Nat} {S : List oV} {σ : oSg} {Q : Option oV → (Nat → oC) → Prop} (hk : oKd a = some 11) : oE d 199 252 [l0, l1, l2, l3] (.inr (.inr (.inl a)) :: S) σ Q = oE d 199 255 [l0, l1, l2, l3] (.inr (.inr (.inl (oRf a 0))) :: S) σ Q := pGfR f_199_252 ow_199 fl_11_11 rfl (by decide) hk
theorem f_199_255 : oFet 199 255 = some (.iconst 0, 1) := by decide +kernel
theorem s_199_255 {d : Nat} {l0 l1 l2 l3 : oV} {S : List oV} {σ : oSg} {Q : Option oV → (Nat → oC) → Prop} : oE d 199 255 [l0, l1, l2, l3] S σ Q = oE d 199 256 [l0, l1, l2, l3] (.inl (0) :: S) σ Q := pKst f_199_255 (by decide)
theorem f_199_256 : oFet 199 256 = some (.iaload, 1) := by decide +kernel
theorem s_199_256 {d : Nat} {l0 l1 l2 l3 : oV} {a : Nat} {i : Int} {S : List oV} {σ : oSg} {Q : Option oV → (Nat → oC) → Prop} (hk : oAk a = some 0) (h0 : 0 ≤ i) (h1 : i < (oLn a : Int)) : oE d 199 256 [l0, l1, l2, l3] (.inl i :: .inr (.inr (.inl a)) :: S) σ Q = oE d 199 257 [l0, l1, l2, l3] (.inl (σ.2 a i.toNat) :: S) σ Q := oIal f_199_256 hk h0 h1
theorem f_199_257 : oFet 199 257 = some (.if_icmp .ge 75, 3) := by decide +kernel
theorem s_199_257 {d : Nat} {l0 l1 l2 l3 : oV} {x y : Int} {S : List oV} {σ : oSg} {Q : Option oV → (Nat → oC) → Prop} : oE d 199 257 [l0, l1, l2, l3] (.inl y :: .inl x :: S) σ Q = if y ≤ x then oE d 199 332 [l0, l1, l2, l3] S σ Q else oE d 199 260 [l0, l1, l2, l3] S σ Q := oCmpGe f_199_257 (by decide)
theorem f_199_260 : oFet 199 260 = some (.aload_n 0, 1) := by decide +kernel
theorem s_199_260 {d : Nat} {l1 l2 l3 : oV} {a : Nat} {S : List oV} {σ : oSg} {Q : Option oV → (Nat → oC) → Prop} : oE d 199 260 [.inr (.inr (.inl a)), l1, l2, l3] S σ Q = oE d 199 261 [.inr (.inr (.inl a)), l1, l2, l3] (.inr (.inr (.inl a)) :: S) σ Q := pLdN (k := 0) f_199_260 rfl rfl rfl
theorem f_199_261 : oFet 199 261 = some (.iload_n 2, 1) := by decide +kernel
theorem s_199_261 {d : Nat} {l0 l1 l3 : oV} {x : Int} {S : List oV} {σ : oSg} {Q : Option oV → (Nat → oC) → Prop} : oE d 199 261 [l0, l1, .inl x, l3] S σ Q = oE d 199 262 [l0, l1, .inl x, l3] (.inl x :: S) σ Q := pLdN (k := 2) f_199_261 rfl rfl rfl
theorem f_199_262 : oFet 199 262 = some (.invokevirtual 75, 3) := by decide +kernel
theorem c_199_262 {d : Nat} {l0 l1 l2 l3 : oV} {x0 : oV} {a : Nat} {v : Option oV} {τ : oSg} {S : List oV} {σ : oSg} {Q : Option oV → (Nat → oC) → Prop} (hm : oMi d 149 [.inr (.inr (.inl a)), x0] σ v τ) (hk : oKd a = some 11) (hs : oSmall S = true) : oE d 199 262 [l0, l1, l2, l3] (x0 :: .inr (.inr (.inl a)) :: S) σ Q = oE d 199 265 [l0, l1, l2, l3] (v.toList ++ S) τ Q := pCallV f_199_262 ow_199 lk_11_75 mt_149 rfl rfl rfl hk hs hm
theorem f_199_265 : oFet 199 265 = some (.istore_n 3, 1) := by decide +kernel
theorem s_199_265 {d : Nat} {l0 l1 l2 l3 : oV} {x : Int} {S : List oV} {σ : oSg} {Q : Option oV → (Nat → oC) → Prop} (c3 : oCat l3 = 1) (c2 : oCat l2 = 1)  : oE d 199 265 [l0, l1, l2, l3] (.inl x :: S) σ Q = oE d 199 266 [l0, l1, l2, .inl x] S σ Q := pSt (i := 3) f_199_265 rfl rfl (show (3 : Nat) < 4 by decide) (oC1n c2) (oC1n c3) rfl
theorem f_199_266 : oFet 199 266 = some (.iload_n 3, 1) := by decide +kernel
theorem s_199_266 {d : Nat} {l0 l1 l2 : oV} {x : Int} {S : List oV} {σ : oSg} {Q : Option oV → (Nat → oC) → Prop} : oE d 199 266 [l0, l1, l2, .inl x] S σ Q = oE d 199 267 [l0, l1, l2, .inl x] (.inl x :: S) σ Q := pLdN (k := 3) f_199_266 rfl rfl rfl
theorem f_199_267 : oFet 199 267 = some (.iload_n 2, 1) := by decide +kernel
theorem s_199_267 {d : Nat} {l0 l1 l3 : oV} {x : Int} {S : List oV} {σ : oSg} {Q : Option oV → (Nat → oC) → Prop} : oE d 199 267 [l0, l1, .inl x, l3] S σ Q = oE d 199 268 [l0, l1, .inl x, l3] (.inl x :: S) σ Q := pLdN (k := 2) f_199_267 rfl rfl rfl
theorem f_199_268 : oFet 199 268 = some (.if_icmp .le 58, 3) := by decide +kernel
theorem s_199_268 {d : Nat} {l0 l1 l2 l3 : oV} {x y : Int} {S : List oV} {σ : oSg} {Q : Option oV → (Nat → oC) → Prop} : oE d 199 268 [l0, l1, l2, l3] (.inl y :: .inl x :: S) σ Q = if x ≤ y then oE d 199 326 [l0, l1, l2, l3] S σ Q else oE d 199 271 [l0, l1, l2, l3] S σ Q := oCmpLe f_199_268 (by decide)
theorem f_199_271 : oFet 199 271 = some (.aload_n 0, 1) := by decide +kernel
theorem s_199_271 {d : Nat} {l1 l2 l3 : oV} {a : Nat} {S : List oV} {σ : oSg} {Q : Option oV → (Nat → oC) → Prop} : oE d 199 271 [.inr (.inr (.inl a)), l1, l2, l3] S σ Q = oE d 199 272 [.inr (.inr (.inl a)), l1, l2, l3] (.inr (.inr (.inl a)) :: S) σ Q := pLdN (k := 0) f_199_271 rfl rfl rfl
theorem f_199_272 : oFet 199 272 = some (.iload_n 2, 1) := by decide +kernel
theorem s_199_272 {d : Nat} {l0 l1 l3 : oV} {x : Int} {S : List oV} {σ : oSg} {Q : Option oV → (Nat → oC) → Prop} : oE d 199 272 [l0, l1, .inl x, l3] S σ Q = oE d 199 273 [l0, l1, .inl x, l3] (.inl x :: S) σ Q := pLdN (k := 2) f_199_272 rfl rfl rfl
theorem f_199_273 : oFet 199 273 = some (.iload_n 3, 1) := by decide +kernel
theorem s_199_273 {d : Nat} {l0 l1 l2 : oV} {x : Int} {S : List oV} {σ : oSg} {Q : Option oV → (Nat → oC) → Prop} : oE d 199 273 [l0, l1, l2, .inl x] S σ Q = oE d 199 274 [l0, l1, l2, .inl x] (.inl x :: S) σ Q := pLdN (k := 3) f_199_273 rfl rfl rfl
theorem f_199_274 : oFet 199 274 = some (.invokevirtual 198, 3) := by decide +kernel
theorem c_199_274 {d : Nat} {l0 l1 l2 l3 : oV} {x0 x1 : oV} {a : Nat} {v : Option oV} {τ : oSg} {S : List oV} {σ : oSg} {Q : Option oV → (Nat → oC) → Prop} (hm : oMi d 185 [.inr (.inr (.inl a)), x0, x1] σ v τ) (hk : oKd a = some 11) (hs : oSmall S = true) : oE d 199 274 [l0, l1, l2, l3] (x1 :: x0 :: .inr (.inr (.inl a)) :: S) σ Q = oE d 199 277 [l0, l1, l2, l3] (v.toList ++ S) τ Q := pCallV f_199_274 ow_199 lk_11_198 mt_185 rfl rfl rfl hk hs hm
theorem f_199_277 : oFet 199 277 = some (.iconst 2, 1) := by decide +kernel
theorem s_199_277 {d : Nat} {l0 l1 l2 l3 : oV} {S : List oV} {σ : oSg} {Q : Option oV → (Nat → oC) → Prop} : oE d 199 277 [l0, l1, l2, l3] S σ Q = oE d 199 278 [l0, l1, l2, l3] (.inl (2) :: S) σ Q := pKst f_199_277 (by decide)
theorem f_199_278 : oFet 199 278 = some (.aload_n 0, 1) := by decide +kernel
theorem s_199_278 {d : Nat} {l1 l2 l3 : oV} {a : Nat} {S : List oV} {σ : oSg} {Q : Option oV → (Nat → oC) → Prop} : oE d 199 278 [.inr (.inr (.inl a)), l1, l2, l3] S σ Q = oE d 199 279 [.inr (.inr (.inl a)), l1, l2, l3] (.inr (.inr (.inl a)) :: S) σ Q := pLdN (k := 0) f_199_278 rfl rfl rfl
theorem f_199_279 : oFet 199 279 = some (.iload_n 2, 1) := by decide +kernel
theorem s_199_279 {d : Nat} {l0 l1 l3 : oV} {x : Int} {S : List oV} {σ : oSg} {Q : Option oV → (Nat → oC) → Prop} : oE d 199 279 [l0, l1, .inl x, l3] S σ Q = oE d 199 280 [l0, l1, .inl x, l3] (.inl x :: S) σ Q := pLdN (k := 2) f_199_279 rfl rfl rfl
theorem f_199_280 : oFet 199 280 = some (.iload_n 3, 1) := by decide +kernel
theorem s_199_280 {d : Nat} {l0 l1 l2 : oV} {x : Int} {S : List oV} {σ : oSg} {Q : Option oV → (Nat → oC) → Prop} : oE d 199 280 [l0, l1, l2, .inl x] S σ Q = oE d 199 281 [l0, l1, l2, .inl x] (.inl x :: S) σ Q := pLdN (k := 3) f_199_280 rfl rfl rfl
theorem f_199_281 : oFet 199 281 = some (.invokevirtual 65, 3) := by decide +kernel
theorem c_199_281 {d : Nat} {l0 l1 l2 l3 : oV} {x0 x1 : oV} {a : Nat} {v : Option oV} {τ : oSg} {S : List oV} {σ : oSg} {Q : Option oV → (Nat → oC) → Prop} (hm : oMi d 147 [.inr (.inr (.inl a)), x0, x1] σ v τ) (hk : oKd a = some 11) (hs : oSmall S = true) : oE d 199 281 [l0, l1, l2, l3] (x1 :: x0 :: .inr (.inr (.inl a)) :: S) σ Q = oE d 199 284 [l0, l1, l2, l3] (v.toList ++ S) τ Q := pCallV f_199_281 ow_199 lk_11_65 mt_147 rfl rfl rfl hk hs hm
theorem f_199_284 : oFet 199 284 = some (.imul, 1) := by decide +kernel
theorem s_199_284 {d : Nat} {l0 l1 l2 l3 : oV} {x y : Int} {S : List oV} {σ : oSg} {Q : Option oV → (Nat → oC) → Prop} : oE d 199 284 [l0, l1, l2, l3] (.inl y :: .inl x :: S) σ Q = oE d 199 285 [l0, l1, l2, l3] (.inl (oMul x y) :: S) σ Q := oS3 f_199_284 rfl rfl rfl
theorem f_199_285 : oFet 199 285 = some (.if_icmp .eq 41, 3) := by decide +kernel
theorem s_199_285 {d : Nat} {l0 l1 l2 l3 : oV} {x y : Int} {S : List oV} {σ : oSg} {Q : Option oV → (Nat → oC) → Prop} : oE d 199 285 [l0, l1, l2, l3] (.inl y :: .inl x :: S) σ Q = if x = y then oE d 199 326 [l0, l1, l2, l3] S σ Q else oE d 199 288 [l0, l1, l2, l3] S σ Q := oCmpEq f_199_285 (by decide)
theorem f_199_288 : oFet 199 288 = some (.iload_n 1, 1) := by decide +kernel
theorem s_199_288 {d : Nat} {l0 l2 l3 : oV} {x : Int} {S : List oV} {σ : oSg} {Q : Option oV → (Nat → oC) → Prop} : oE d 199 288 [l0, .inl x, l2, l3] S σ Q = oE d 199 289 [l0, .inl x, l2, l3] (.inl x :: S) σ Q := pLdN (k := 1) f_199_288 rfl rfl rfl
theorem f_199_289 : oFet 199 289 = some (.ifCond .ne 7, 3) := by decide +kernel
theorem s_199_289 {d : Nat} {l0 l1 l2 l3 : oV} {x : Int} {S : List oV} {σ : oSg} {Q : Option oV → (Nat → oC) → Prop} : oE d 199 289 [l0, l1, l2, l3] (.inl x :: S) σ Q = if ¬ x = 0 then oE d 199 296 [l0, l1, l2, l3] S σ Q else oE d 199 292 [l0, l1, l2, l3] S σ Q := oIfNe f_199_289 (by decide)
theorem f_199_292 : oFet 199 292 = some (.iconst 4, 1) := by decide +kernel
theorem s_199_292 {d : Nat} {l0 l1 l2 l3 : oV} {S : List oV} {σ : oSg} {Q : Option oV → (Nat → oC) → Prop} : oE d 199 292 [l0, l1, l2, l3] S σ Q = oE d 199 293 [l0, l1, l2, l3] (.inl (4) :: S) σ Q := pKst f_199_292 (by decide)
theorem f_199_293 : oFet 199 293 = some (.goto 32, 3) := by decide +kernel
theorem s_199_293 {d : Nat} {l0 l1 l2 l3 : oV} {S : List oV} {σ : oSg} {Q : Option oV → (Nat → oC) → Prop} : oE d 199 293 [l0, l1, l2, l3] S σ Q = oE d 199 325 [l0, l1, l2, l3] S σ Q := pGoto f_199_293 (by decide)
theorem f_199_296 : oFet 199 296 = some (.iload_n 1, 1) := by decide +kernel
theorem s_199_296 {d : Nat} {l0 l2 l3 : oV} {x : Int} {S : List oV} {σ : oSg} {Q : Option oV → (Nat → oC) → Prop} : oE d 199 296 [l0, .inl x, l2, l3] S σ Q = oE d 199 297 [l0, .inl x, l2, l3] (.inl x :: S) σ Q := pLdN (k := 1) f_199_296 rfl rfl rfl
theorem f_199_297 : oFet 199 297 = some (.iconst 1, 1) := by decide +kernel
theorem s_199_297 {d : Nat} {l0 l1 l2 l3 : oV} {S : List oV} {σ : oSg} {Q : Option oV → (Nat → oC) → Prop} : oE d 199 297 [l0, l1, l2, l3] S σ Q = oE d 199 298 [l0, l1, l2, l3] (.inl (1) :: S) σ Q := pKst f_199_297 (by decide)
theorem f_199_298 : oFet 199 298 = some (.if_icmp .ne 12, 3) := by decide +kernel
theorem s_199_298 {d : Nat} {l0 l1 l2 l3 : oV} {x y : Int} {S : List oV} {σ : oSg} {Q : Option oV → (Nat → oC) → Prop} : oE d 199 298 [l0, l1, l2, l3] (.inl y :: .inl x :: S) σ Q = if ¬ x = y then oE d 199 310 [l0, l1, l2, l3] S σ Q else oE d 199 301 [l0, l1, l2, l3] S σ Q := oCmpNe f_199_298 (by decide)
theorem f_199_301 : oFet 199 301 = some (.bipush 10, 2) := by decide +kernel
theorem s_199_301 {d : Nat} {l0 l1 l2 l3 : oV} {S : List oV} {σ : oSg} {Q : Option oV → (Nat → oC) → Prop} : oE d 199 301 [l0, l1, l2, l3] S σ Q = oE d 199 303 [l0, l1, l2, l3] (.inl (10) :: S) σ Q := pBip f_199_301 (by decide)
theorem f_199_303 : oFet 199 303 = some (.iload_n 2, 1) := by decide +kernel
theorem s_199_303 {d : Nat} {l0 l1 l3 : oV} {x : Int} {S : List oV} {σ : oSg} {Q : Option oV → (Nat → oC) → Prop} : oE d 199 303 [l0, l1, .inl x, l3] S σ Q = oE d 199 304 [l0, l1, .inl x, l3] (.inl x :: S) σ Q := pLdN (k := 2) f_199_303 rfl rfl rfl
theorem f_199_304 : oFet 199 304 = some (.imul, 1) := by decide +kernel
theorem s_199_304 {d : Nat} {l0 l1 l2 l3 : oV} {x y : Int} {S : List oV} {σ : oSg} {Q : Option oV → (Nat → oC) → Prop} : oE d 199 304 [l0, l1, l2, l3] (.inl y :: .inl x :: S) σ Q = oE d 199 305 [l0, l1, l2, l3] (.inl (oMul x y) :: S) σ Q := oS3 f_199_304 rfl rfl rfl
theorem f_199_305 : oFet 199 305 = some (.iload_n 3, 1) := by decide +kernel
theorem s_199_305 {d : Nat} {l0 l1 l2 : oV} {x : Int} {S : List oV} {σ : oSg} {Q : Option oV → (Nat → oC) → Prop} : oE d 199 305 [l0, l1, l2, .inl x] S σ Q = oE d 199 306 [l0, l1, l2, .inl x] (.inl x :: S) σ Q := pLdN (k := 3) f_199_305 rfl rfl rfl
theorem f_199_306 : oFet 199 306 = some (.iadd, 1) := by decide +kernel
theorem s_199_306 {d : Nat} {l0 l1 l2 l3 : oV} {x y : Int} {S : List oV} {σ : oSg} {Q : Option oV → (Nat → oC) → Prop} : oE d 199 306 [l0, l1, l2, l3] (.inl y :: .inl x :: S) σ Q = oE d 199 307 [l0, l1, l2, l3] (.inl (oAdd x y) :: S) σ Q := oS3 f_199_306 rfl rfl rfl
theorem f_199_307 : oFet 199 307 = some (.goto 18, 3) := by decide +kernel
theorem s_199_307 {d : Nat} {l0 l1 l2 l3 : oV} {S : List oV} {σ : oSg} {Q : Option oV → (Nat → oC) → Prop} : oE d 199 307 [l0, l1, l2, l3] S σ Q = oE d 199 325 [l0, l1, l2, l3] S σ Q := pGoto f_199_307 (by decide)
theorem f_199_310 : oFet 199 310 = some (.aload_n 0, 1) := by decide +kernel
theorem s_199_310 {d : Nat} {l1 l2 l3 : oV} {a : Nat} {S : List oV} {σ : oSg} {Q : Option oV → (Nat → oC) → Prop} : oE d 199 310 [.inr (.inr (.inl a)), l1, l2, l3] S σ Q = oE d 199 311 [.inr (.inr (.inl a)), l1, l2, l3] (.inr (.inr (.inl a)) :: S) σ Q := pLdN (k := 0) f_199_310 rfl rfl rfl
theorem f_199_311 : oFet 199 311 = some (.iload_n 2, 1) := by decide +kernel
theorem s_199_311 {d : Nat} {l0 l1 l3 : oV} {x : Int} {S : List oV} {σ : oSg} {Q : Option oV → (Nat → oC) → Prop} : oE d 199 311 [l0, l1, .inl x, l3] S σ Q = oE d 199 312 [l0, l1, .inl x, l3] (.inl x :: S) σ Q := pLdN (k := 2) f_199_311 rfl rfl rfl
theorem f_199_312 : oFet 199 312 = some (.iload_n 3, 1) := by decide +kernel
theorem s_199_312 {d : Nat} {l0 l1 l2 : oV} {x : Int} {S : List oV} {σ : oSg} {Q : Option oV → (Nat → oC) → Prop} : oE d 199 312 [l0, l1, l2, .inl x] S σ Q = oE d 199 313 [l0, l1, l2, .inl x] (.inl x :: S) σ Q := pLdN (k := 3) f_199_312 rfl rfl rfl
theorem f_199_313 : oFet 199 313 = some (.invokevirtual 198, 3) := by decide +kernel
theorem c_199_313 {d : Nat} {l0 l1 l2 l3 : oV} {x0 x1 : oV} {a : Nat} {v : Option oV} {τ : oSg} {S : List oV} {σ : oSg} {Q : Option oV → (Nat → oC) → Prop} (hm : oMi d 185 [.inr (.inr (.inl a)), x0, x1] σ v τ) (hk : oKd a = some 11) (hs : oSmall S = true) : oE d 199 313 [l0, l1, l2, l3] (x1 :: x0 :: .inr (.inr (.inl a)) :: S) σ Q = oE d 199 316 [l0, l1, l2, l3] (v.toList ++ S) τ Q := pCallV f_199_313 ow_199 lk_11_198 mt_185 rfl rfl rfl hk hs hm
theorem f_199_316 : oFet 199 316 = some (.iconst 2, 1) := by decide +kernel
theorem s_199_316 {d : Nat} {l0 l1 l2 l3 : oV} {S : List oV} {σ : oSg} {Q : Option oV → (Nat → oC) → Prop} : oE d 199 316 [l0, l1, l2, l3] S σ Q = oE d 199 317 [l0, l1, l2, l3] (.inl (2) :: S) σ Q := pKst f_199_316 (by decide)
theorem f_199_317 : oFet 199 317 = some (.aload_n 0, 1) := by decide +kernel
theorem s_199_317 {d : Nat} {l1 l2 l3 : oV} {a : Nat} {S : List oV} {σ : oSg} {Q : Option oV → (Nat → oC) → Prop} : oE d 199 317 [.inr (.inr (.inl a)), l1, l2, l3] S σ Q = oE d 199 318 [.inr (.inr (.inl a)), l1, l2, l3] (.inr (.inr (.inl a)) :: S) σ Q := pLdN (k := 0) f_199_317 rfl rfl rfl
theorem f_199_318 : oFet 199 318 = some (.iload_n 2, 1) := by decide +kernel
theorem s_199_318 {d : Nat} {l0 l1 l3 : oV} {x : Int} {S : List oV} {σ : oSg} {Q : Option oV → (Nat → oC) → Prop} : oE d 199 318 [l0, l1, .inl x, l3] S σ Q = oE d 199 319 [l0, l1, .inl x, l3] (.inl x :: S) σ Q := pLdN (k := 2) f_199_318 rfl rfl rfl
theorem f_199_319 : oFet 199 319 = some (.iload_n 3, 1) := by decide +kernel
theorem s_199_319 {d : Nat} {l0 l1 l2 : oV} {x : Int} {S : List oV} {σ : oSg} {Q : Option oV → (Nat → oC) → Prop} : oE d 199 319 [l0, l1, l2, .inl x] S σ Q = oE d 199 320 [l0, l1, l2, .inl x] (.inl x :: S) σ Q := pLdN (k := 3) f_199_319 rfl rfl rfl
theorem f_199_320 : oFet 199 320 = some (.invokevirtual 65, 3) := by decide +kernel
theorem c_199_320 {d : Nat} {l0 l1 l2 l3 : oV} {x0 x1 : oV} {a : Nat} {v : Option oV} {τ : oSg} {S : List oV} {σ : oSg} {Q : Option oV → (Nat → oC) → Prop} (hm : oMi d 147 [.inr (.inr (.inl a)), x0, x1] σ v τ) (hk : oKd a = some 11) (hs : oSmall S = true) : oE d 199 320 [l0, l1, l2, l3] (x1 :: x0 :: .inr (.inr (.inl a)) :: S) σ Q = oE d 199 323 [l0, l1, l2, l3] (v.toList ++ S) τ Q := pCallV f_199_320 ow_199 lk_11_65 mt_147 rfl rfl rfl hk hs hm
theorem f_199_323 : oFet 199 323 = some (.imul, 1) := by decide +kernel
theorem s_199_323 {d : Nat} {l0 l1 l2 l3 : oV} {x y : Int} {S : List oV} {σ : oSg} {Q : Option oV → (Nat → oC) → Prop} : oE d 199 323 [l0, l1, l2, l3] (.inl y :: .inl x :: S) σ Q = oE d 199 324 [l0, l1, l2, l3] (.inl (oMul x y) :: S) σ Q := oS3 f_199_323 rfl rfl rfl
theorem f_199_324 : oFet 199 324 = some (.isub, 1) := by decide +kernel
theorem s_199_324 {d : Nat} {l0 l1 l2 l3 : oV} {x y : Int} {S : List oV} {σ : oSg} {Q : Option oV → (Nat → oC) → Prop} : oE d 199 324 [l0, l1, l2, l3] (.inl y :: .inl x :: S) σ Q = oE d 199 325 [l0, l1, l2, l3] (.inl (oSub x y) :: S) σ Q := oS3 f_199_324 rfl rfl rfl
theorem f_199_325 : oFet 199 325 = some (.ireturn, 1) := by decide +kernel
theorem s_199_325 {d : Nat} {l0 l1 l2 l3 : oV} {x : Int} {σ : oSg} {Q : Option oV → (Nat → oC) → Prop} : oE d 199 325 [l0, l1, l2, l3] [.inl x] σ Q = Q (some (.inl x)) (oBld σ) := oIret f_199_325 rt_199
theorem f_199_326 : oFet 199 326 = some (.iinc 2 1, 3) := by decide +kernel
theorem s_199_326 {d : Nat} {l0 l1 l3 : oV} {x : Int} {S : List oV} {σ : oSg} {Q : Option oV → (Nat → oC) → Prop} (c1 : oCat l1 = 1)  : oE d 199 326 [l0, l1, .inl x, l3] S σ Q = oE d 199 329 [l0, l1, .inl (oAdd x (1)), l3] S σ Q := pInc f_199_326 rfl (show (2 : Nat) < 4 by decide) (oC1n c1) (oC1n (v := .inl x) rfl) rfl
theorem f_199_329 : oFet 199 329 = some (.goto (-79), 3) := by decide +kernel
theorem s_199_329 {d : Nat} {l0 l1 l2 l3 : oV} {S : List oV} {σ : oSg} {Q : Option oV → (Nat → oC) → Prop} : oE d 199 329 [l0, l1, l2, l3] S σ Q = oE d 199 250 [l0, l1, l2, l3] S σ Q := pGoto f_199_329 (by decide)
theorem f_199_332 : oFet 199 332 = some (.bipush (-5), 2) := by decide +kernel
theorem s_199_332 {d : Nat} {l0 l1 l2 l3 : oV} {S : List oV} {σ : oSg} {Q : Option oV → (Nat → oC) → Prop} : oE d 199 332 [l0, l1, l2, l3] S σ Q = oE d 199 334 [l0, l1, l2, l3] (.inl (-5) :: S) σ Q := pBip f_199_332 (by decide)
theorem f_199_334 : oFet 199 334 = some (.ireturn, 1) := by decide +kernel
theorem s_199_334 {d : Nat} {l0 l1 l2 l3 : oV} {x : Int} {σ : oSg} {Q : Option oV → (Nat → oC) → Prop} : oE d 199 334 [l0, l1, l2, l3] [.inl x] σ Q = Q (some (.inl x)) (oBld σ) := oIret f_199_334 rt_199
theorem ow_200 : (oMt 200).2.2.2.2.1 = 11 := by decide +kernel
theorem rt_200 : (oMt 200).2.2.2.1 = some .int := by decide +kernel
theorem nl_200 : (oMt 200).2.2.1 = 4 := by decide +kernel
theorem f_200_0 : oFet 200 0 = some (.iconst 0, 1) := by decide +kernel
theorem s_200_0 {d : Nat} {l0 l1 l2 l3 : oV} {S : List oV} {σ : oSg} {Q : Option oV → (Nat → oC) → Prop} : oE d 200 0 [l0, l1, l2, l3] S σ Q = oE d 200 1 [l0, l1, l2, l3] (.inl (0) :: S) σ Q := pKst f_200_0 (by decide)
theorem f_200_1 : oFet 200 1 = some (.istore_n 2, 1) := by decide +kernel
theorem s_200_1 {d : Nat} {l0 l1 l2 l3 : oV} {x : Int} {S : List oV} {σ : oSg} {Q : Option oV → (Nat → oC) → Prop} (c2 : oCat l2 = 1) (c1 : oCat l1 = 1)  : oE d 200 1 [l0, l1, l2, l3] (.inl x :: S) σ Q = oE d 200 2 [l0, l1, .inl x, l3] S σ Q := pSt (i := 2) f_200_1 rfl rfl (show (2 : Nat) < 4 by decide) (oC1n c1) (oC1n c2) rfl
theorem f_200_2 : oFet 200 2 = some (.iconst 0, 1) := by decide +kernel
theorem s_200_2 {d : Nat} {l0 l1 l2 l3 : oV} {S : List oV} {σ : oSg} {Q : Option oV → (Nat → oC) → Prop} : oE d 200 2 [l0, l1, l2, l3] S σ Q = oE d 200 3 [l0, l1, l2, l3] (.inl (0) :: S) σ Q := pKst f_200_2 (by decide)
theorem f_200_3 : oFet 200 3 = some (.istore_n 3, 1) := by decide +kernel
theorem s_200_3 {d : Nat} {l0 l1 l2 l3 : oV} {x : Int} {S : List oV} {σ : oSg} {Q : Option oV → (Nat → oC) → Prop} (c3 : oCat l3 = 1) (c2 : oCat l2 = 1)  : oE d 200 3 [l0, l1, l2, l3] (.inl x :: S) σ Q = oE d 200 4 [l0, l1, l2, .inl x] S σ Q := pSt (i := 3) f_200_3 rfl rfl (show (3 : Nat) < 4 by decide) (oC1n c2) (oC1n c3) rfl
theorem f_200_4 : oFet 200 4 = some (.iload_n 3, 1) := by decide +kernel
theorem s_200_4 {d : Nat} {l0 l1 l2 : oV} {x : Int} {S : List oV} {σ : oSg} {Q : Option oV → (Nat → oC) → Prop} : oE d 200 4 [l0, l1, l2, .inl x] S σ Q = oE d 200 5 [l0, l1, l2, .inl x] (.inl x :: S) σ Q := pLdN (k := 3) f_200_4 rfl rfl rfl
theorem f_200_5 : oFet 200 5 = some (.aload_n 0, 1) := by decide +kernel
theorem s_200_5 {d : Nat} {l1 l2 l3 : oV} {a : Nat} {S : List oV} {σ : oSg} {Q : Option oV → (Nat → oC) → Prop} : oE d 200 5 [.inr (.inr (.inl a)), l1, l2, l3] S σ Q = oE d 200 6 [.inr (.inr (.inl a)), l1, l2, l3] (.inr (.inr (.inl a)) :: S) σ Q := pLdN (k := 0) f_200_5 rfl rfl rfl
theorem f_200_6 : oFet 200 6 = some (.getfield 11, 3) := by decide +kernel
theorem s_200_6 {d : Nat} {l0 l1 l2 l3 : oV} {a : Nat} {S : List oV} {σ : oSg} {Q : Option oV → (Nat → oC) → Prop} (hk : oKd a = some 11) : oE d 200 6 [l0, l1, l2, l3] (.inr (.inr (.inl a)) :: S) σ Q = oE d 200 9 [l0, l1, l2, l3] (.inr (.inr (.inl (oRf a 0))) :: S) σ Q := pGfR f_200_6 ow_200 fl_11_11 rfl (by decide) hk
theorem f_200_9 : oFet 200 9 = some (.iconst 0, 1) := by decide +kernel
theorem s_200_9 {d : Nat} {l0 l1 l2 l3 : oV} {S : List oV} {σ : oSg} {Q : Option oV → (Nat → oC) → Prop} : oE d 200 9 [l0, l1, l2, l3] S σ Q = oE d 200 10 [l0, l1, l2, l3] (.inl (0) :: S) σ Q := pKst f_200_9 (by decide)
theorem f_200_10 : oFet 200 10 = some (.iaload, 1) := by decide +kernel
theorem s_200_10 {d : Nat} {l0 l1 l2 l3 : oV} {a : Nat} {i : Int} {S : List oV} {σ : oSg} {Q : Option oV → (Nat → oC) → Prop} (hk : oAk a = some 0) (h0 : 0 ≤ i) (h1 : i < (oLn a : Int)) : oE d 200 10 [l0, l1, l2, l3] (.inl i :: .inr (.inr (.inl a)) :: S) σ Q = oE d 200 11 [l0, l1, l2, l3] (.inl (σ.2 a i.toNat) :: S) σ Q := oIal f_200_10 hk h0 h1
theorem f_200_11 : oFet 200 11 = some (.if_icmp .ge 43, 3) := by decide +kernel
theorem s_200_11 {d : Nat} {l0 l1 l2 l3 : oV} {x y : Int} {S : List oV} {σ : oSg} {Q : Option oV → (Nat → oC) → Prop} : oE d 200 11 [l0, l1, l2, l3] (.inl y :: .inl x :: S) σ Q = if y ≤ x then oE d 200 54 [l0, l1, l2, l3] S σ Q else oE d 200 14 [l0, l1, l2, l3] S σ Q := oCmpGe f_200_11 (by decide)
theorem f_200_14 : oFet 200 14 = some (.aload_n 0, 1) := by decide +kernel
theorem s_200_14 {d : Nat} {l1 l2 l3 : oV} {a : Nat} {S : List oV} {σ : oSg} {Q : Option oV → (Nat → oC) → Prop} : oE d 200 14 [.inr (.inr (.inl a)), l1, l2, l3] S σ Q = oE d 200 15 [.inr (.inr (.inl a)), l1, l2, l3] (.inr (.inr (.inl a)) :: S) σ Q := pLdN (k := 0) f_200_14 rfl rfl rfl
theorem f_200_15 : oFet 200 15 = some (.iload_n 3, 1) := by decide +kernel
theorem s_200_15 {d : Nat} {l0 l1 l2 : oV} {x : Int} {S : List oV} {σ : oSg} {Q : Option oV → (Nat → oC) → Prop} : oE d 200 15 [l0, l1, l2, .inl x] S σ Q = oE d 200 16 [l0, l1, l2, .inl x] (.inl x :: S) σ Q := pLdN (k := 3) f_200_15 rfl rfl rfl
theorem f_200_16 : oFet 200 16 = some (.invokevirtual 75, 3) := by decide +kernel
theorem c_200_16 {d : Nat} {l0 l1 l2 l3 : oV} {x0 : oV} {a : Nat} {v : Option oV} {τ : oSg} {S : List oV} {σ : oSg} {Q : Option oV → (Nat → oC) → Prop} (hm : oMi d 149 [.inr (.inr (.inl a)), x0] σ v τ) (hk : oKd a = some 11) (hs : oSmall S = true) : oE d 200 16 [l0, l1, l2, l3] (x0 :: .inr (.inr (.inl a)) :: S) σ Q = oE d 200 19 [l0, l1, l2, l3] (v.toList ++ S) τ Q := pCallV f_200_16 ow_200 lk_11_75 mt_149 rfl rfl rfl hk hs hm
theorem f_200_19 : oFet 200 19 = some (.iload_n 3, 1) := by decide +kernel
theorem s_200_19 {d : Nat} {l0 l1 l2 : oV} {x : Int} {S : List oV} {σ : oSg} {Q : Option oV → (Nat → oC) → Prop} : oE d 200 19 [l0, l1, l2, .inl x] S σ Q = oE d 200 20 [l0, l1, l2, .inl x] (.inl x :: S) σ Q := pLdN (k := 3) f_200_19 rfl rfl rfl
theorem f_200_20 : oFet 200 20 = some (.if_icmp .le 28, 3) := by decide +kernel
theorem s_200_20 {d : Nat} {l0 l1 l2 l3 : oV} {x y : Int} {S : List oV} {σ : oSg} {Q : Option oV → (Nat → oC) → Prop} : oE d 200 20 [l0, l1, l2, l3] (.inl y :: .inl x :: S) σ Q = if x ≤ y then oE d 200 48 [l0, l1, l2, l3] S σ Q else oE d 200 23 [l0, l1, l2, l3] S σ Q := oCmpLe f_200_20 (by decide)
theorem f_200_23 : oFet 200 23 = some (.iload_n 1, 1) := by decide +kernel
theorem s_200_23 {d : Nat} {l0 l2 l3 : oV} {x : Int} {S : List oV} {σ : oSg} {Q : Option oV → (Nat → oC) → Prop} : oE d 200 23 [l0, .inl x, l2, l3] S σ Q = oE d 200 24 [l0, .inl x, l2, l3] (.inl x :: S) σ Q := pLdN (k := 1) f_200_23 rfl rfl rfl
theorem f_200_24 : oFet 200 24 = some (.iload_n 3, 1) := by decide +kernel
theorem s_200_24 {d : Nat} {l0 l1 l2 : oV} {x : Int} {S : List oV} {σ : oSg} {Q : Option oV → (Nat → oC) → Prop} : oE d 200 24 [l0, l1, l2, .inl x] S σ Q = oE d 200 25 [l0, l1, l2, .inl x] (.inl x :: S) σ Q := pLdN (k := 3) f_200_24 rfl rfl rfl
theorem f_200_25 : oFet 200 25 = some (.ishr, 1) := by decide +kernel
theorem s_200_25 {d : Nat} {l0 l1 l2 l3 : oV} {x y : Int} {S : List oV} {σ : oSg} {Q : Option oV → (Nat → oC) → Prop} : oE d 200 25 [l0, l1, l2, l3] (.inl y :: .inl x :: S) σ Q = oE d 200 26 [l0, l1, l2, l3] (.inl (oShr x y) :: S) σ Q := oS3 f_200_25 rfl rfl rfl
theorem f_200_26 : oFet 200 26 = some (.iconst 1, 1) := by decide +kernel
theorem s_200_26 {d : Nat} {l0 l1 l2 l3 : oV} {S : List oV} {σ : oSg} {Q : Option oV → (Nat → oC) → Prop} : oE d 200 26 [l0, l1, l2, l3] S σ Q = oE d 200 27 [l0, l1, l2, l3] (.inl (1) :: S) σ Q := pKst f_200_26 (by decide)
theorem f_200_27 : oFet 200 27 = some (.iand, 1) := by decide +kernel
theorem s_200_27 {d : Nat} {l0 l1 l2 l3 : oV} {x y : Int} {S : List oV} {σ : oSg} {Q : Option oV → (Nat → oC) → Prop} : oE d 200 27 [l0, l1, l2, l3] (.inl y :: .inl x :: S) σ Q = oE d 200 28 [l0, l1, l2, l3] (.inl (oAnd x y) :: S) σ Q := oS3 f_200_27 rfl rfl rfl
theorem f_200_28 : oFet 200 28 = some (.iconst 1, 1) := by decide +kernel
theorem s_200_28 {d : Nat} {l0 l1 l2 l3 : oV} {S : List oV} {σ : oSg} {Q : Option oV → (Nat → oC) → Prop} : oE d 200 28 [l0, l1, l2, l3] S σ Q = oE d 200 29 [l0, l1, l2, l3] (.inl (1) :: S) σ Q := pKst f_200_28 (by decide)
theorem f_200_29 : oFet 200 29 = some (.if_icmp .ne 19, 3) := by decide +kernel
theorem s_200_29 {d : Nat} {l0 l1 l2 l3 : oV} {x y : Int} {S : List oV} {σ : oSg} {Q : Option oV → (Nat → oC) → Prop} : oE d 200 29 [l0, l1, l2, l3] (.inl y :: .inl x :: S) σ Q = if ¬ x = y then oE d 200 48 [l0, l1, l2, l3] S σ Q else oE d 200 32 [l0, l1, l2, l3] S σ Q := oCmpNe f_200_29 (by decide)
theorem f_200_32 : oFet 200 32 = some (.iload_n 1, 1) := by decide +kernel
theorem s_200_32 {d : Nat} {l0 l2 l3 : oV} {x : Int} {S : List oV} {σ : oSg} {Q : Option oV → (Nat → oC) → Prop} : oE d 200 32 [l0, .inl x, l2, l3] S σ Q = oE d 200 33 [l0, .inl x, l2, l3] (.inl x :: S) σ Q := pLdN (k := 1) f_200_32 rfl rfl rfl
theorem f_200_33 : oFet 200 33 = some (.aload_n 0, 1) := by decide +kernel
theorem s_200_33 {d : Nat} {l1 l2 l3 : oV} {a : Nat} {S : List oV} {σ : oSg} {Q : Option oV → (Nat → oC) → Prop} : oE d 200 33 [.inr (.inr (.inl a)), l1, l2, l3] S σ Q = oE d 200 34 [.inr (.inr (.inl a)), l1, l2, l3] (.inr (.inr (.inl a)) :: S) σ Q := pLdN (k := 0) f_200_33 rfl rfl rfl
theorem f_200_34 : oFet 200 34 = some (.iload_n 3, 1) := by decide +kernel
theorem s_200_34 {d : Nat} {l0 l1 l2 : oV} {x : Int} {S : List oV} {σ : oSg} {Q : Option oV → (Nat → oC) → Prop} : oE d 200 34 [l0, l1, l2, .inl x] S σ Q = oE d 200 35 [l0, l1, l2, .inl x] (.inl x :: S) σ Q := pLdN (k := 3) f_200_34 rfl rfl rfl
theorem f_200_35 : oFet 200 35 = some (.invokevirtual 75, 3) := by decide +kernel
theorem c_200_35 {d : Nat} {l0 l1 l2 l3 : oV} {x0 : oV} {a : Nat} {v : Option oV} {τ : oSg} {S : List oV} {σ : oSg} {Q : Option oV → (Nat → oC) → Prop} (hm : oMi d 149 [.inr (.inr (.inl a)), x0] σ v τ) (hk : oKd a = some 11) (hs : oSmall S = true) : oE d 200 35 [l0, l1, l2, l3] (x0 :: .inr (.inr (.inl a)) :: S) σ Q = oE d 200 38 [l0, l1, l2, l3] (v.toList ++ S) τ Q := pCallV f_200_35 ow_200 lk_11_75 mt_149 rfl rfl rfl hk hs hm
theorem f_200_38 : oFet 200 38 = some (.ishr, 1) := by decide +kernel
theorem s_200_38 {d : Nat} {l0 l1 l2 l3 : oV} {x y : Int} {S : List oV} {σ : oSg} {Q : Option oV → (Nat → oC) → Prop} : oE d 200 38 [l0, l1, l2, l3] (.inl y :: .inl x :: S) σ Q = oE d 200 39 [l0, l1, l2, l3] (.inl (oShr x y) :: S) σ Q := oS3 f_200_38 rfl rfl rfl
theorem f_200_39 : oFet 200 39 = some (.iconst 1, 1) := by decide +kernel
theorem s_200_39 {d : Nat} {l0 l1 l2 l3 : oV} {S : List oV} {σ : oSg} {Q : Option oV → (Nat → oC) → Prop} : oE d 200 39 [l0, l1, l2, l3] S σ Q = oE d 200 40 [l0, l1, l2, l3] (.inl (1) :: S) σ Q := pKst f_200_39 (by decide)
theorem f_200_40 : oFet 200 40 = some (.iand, 1) := by decide +kernel
theorem s_200_40 {d : Nat} {l0 l1 l2 l3 : oV} {x y : Int} {S : List oV} {σ : oSg} {Q : Option oV → (Nat → oC) → Prop} : oE d 200 40 [l0, l1, l2, l3] (.inl y :: .inl x :: S) σ Q = oE d 200 41 [l0, l1, l2, l3] (.inl (oAnd x y) :: S) σ Q := oS3 f_200_40 rfl rfl rfl
theorem f_200_41 : oFet 200 41 = some (.iconst 1, 1) := by decide +kernel
theorem s_200_41 {d : Nat} {l0 l1 l2 l3 : oV} {S : List oV} {σ : oSg} {Q : Option oV → (Nat → oC) → Prop} : oE d 200 41 [l0, l1, l2, l3] S σ Q = oE d 200 42 [l0, l1, l2, l3] (.inl (1) :: S) σ Q := pKst f_200_41 (by decide)
theorem f_200_42 : oFet 200 42 = some (.if_icmp .ne 6, 3) := by decide +kernel
theorem s_200_42 {d : Nat} {l0 l1 l2 l3 : oV} {x y : Int} {S : List oV} {σ : oSg} {Q : Option oV → (Nat → oC) → Prop} : oE d 200 42 [l0, l1, l2, l3] (.inl y :: .inl x :: S) σ Q = if ¬ x = y then oE d 200 48 [l0, l1, l2, l3] S σ Q else oE d 200 45 [l0, l1, l2, l3] S σ Q := oCmpNe f_200_42 (by decide)
theorem f_200_45 : oFet 200 45 = some (.iinc 2 1, 3) := by decide +kernel
theorem s_200_45 {d : Nat} {l0 l1 l3 : oV} {x : Int} {S : List oV} {σ : oSg} {Q : Option oV → (Nat → oC) → Prop} (c1 : oCat l1 = 1)  : oE d 200 45 [l0, l1, .inl x, l3] S σ Q = oE d 200 48 [l0, l1, .inl (oAdd x (1)), l3] S σ Q := pInc f_200_45 rfl (show (2 : Nat) < 4 by decide) (oC1n c1) (oC1n (v := .inl x) rfl) rfl
theorem f_200_48 : oFet 200 48 = some (.iinc 3 1, 3) := by decide +kernel
theorem s_200_48 {d : Nat} {l0 l1 l2 : oV} {x : Int} {S : List oV} {σ : oSg} {Q : Option oV → (Nat → oC) → Prop} (c2 : oCat l2 = 1)  : oE d 200 48 [l0, l1, l2, .inl x] S σ Q = oE d 200 51 [l0, l1, l2, .inl (oAdd x (1))] S σ Q := pInc f_200_48 rfl (show (3 : Nat) < 4 by decide) (oC1n c2) (oC1n (v := .inl x) rfl) rfl
theorem f_200_51 : oFet 200 51 = some (.goto (-47), 3) := by decide +kernel
theorem s_200_51 {d : Nat} {l0 l1 l2 l3 : oV} {S : List oV} {σ : oSg} {Q : Option oV → (Nat → oC) → Prop} : oE d 200 51 [l0, l1, l2, l3] S σ Q = oE d 200 4 [l0, l1, l2, l3] S σ Q := pGoto f_200_51 (by decide)
theorem f_200_54 : oFet 200 54 = some (.iload_n 2, 1) := by decide +kernel
theorem s_200_54 {d : Nat} {l0 l1 l3 : oV} {x : Int} {S : List oV} {σ : oSg} {Q : Option oV → (Nat → oC) → Prop} : oE d 200 54 [l0, l1, .inl x, l3] S σ Q = oE d 200 55 [l0, l1, .inl x, l3] (.inl x :: S) σ Q := pLdN (k := 2) f_200_54 rfl rfl rfl
theorem f_200_55 : oFet 200 55 = some (.ireturn, 1) := by decide +kernel
theorem s_200_55 {d : Nat} {l0 l1 l2 l3 : oV} {x : Int} {σ : oSg} {Q : Option oV → (Nat → oC) → Prop} : oE d 200 55 [l0, l1, l2, l3] [.inl x] σ Q = Q (some (.inl x)) (oBld σ) := oIret f_200_55 rt_200
theorem ow_201 : (oMt 201).2.2.2.2.1 = 11 := by decide +kernel
theorem rt_201 : (oMt 201).2.2.2.1 = some .int := by decide +kernel
theorem nl_201 : (oMt 201).2.2.1 = 3 := by decide +kernel
theorem f_201_0 : oFet 201 0 = some (.aload_n 0, 1) := by decide +kernel
theorem s_201_0 {d : Nat} {l1 l2 : oV} {a : Nat} {S : List oV} {σ : oSg} {Q : Option oV → (Nat → oC) → Prop} : oE d 201 0 [.inr (.inr (.inl a)), l1, l2] S σ Q = oE d 201 1 [.inr (.inr (.inl a)), l1, l2] (.inr (.inr (.inl a)) :: S) σ Q := pLdN (k := 0) f_201_0 rfl rfl rfl
theorem f_201_1 : oFet 201 1 = some (.bipush 71, 2) := by decide +kernel
theorem s_201_1 {d : Nat} {l0 l1 l2 : oV} {S : List oV} {σ : oSg} {Q : Option oV → (Nat → oC) → Prop} : oE d 201 1 [l0, l1, l2] S σ Q = oE d 201 3 [l0, l1, l2] (.inl (71) :: S) σ Q := pBip f_201_1 (by decide)
theorem f_201_3 : oFet 201 3 = some (.iconst 5, 1) := by decide +kernel
theorem s_201_3 {d : Nat} {l0 l1 l2 : oV} {S : List oV} {σ : oSg} {Q : Option oV → (Nat → oC) → Prop} : oE d 201 3 [l0, l1, l2] S σ Q = oE d 201 4 [l0, l1, l2] (.inl (5) :: S) σ Q := pKst f_201_3 (by decide)
theorem f_201_4 : oFet 201 4 = some (.iload_n 1, 1) := by decide +kernel
theorem s_201_4 {d : Nat} {l0 l2 : oV} {x : Int} {S : List oV} {σ : oSg} {Q : Option oV → (Nat → oC) → Prop} : oE d 201 4 [l0, .inl x, l2] S σ Q = oE d 201 5 [l0, .inl x, l2] (.inl x :: S) σ Q := pLdN (k := 1) f_201_4 rfl rfl rfl
theorem f_201_5 : oFet 201 5 = some (.iload_n 2, 1) := by decide +kernel
theorem s_201_5 {d : Nat} {l0 l1 : oV} {x : Int} {S : List oV} {σ : oSg} {Q : Option oV → (Nat → oC) → Prop} : oE d 201 5 [l0, l1, .inl x] S σ Q = oE d 201 6 [l0, l1, .inl x] (.inl x :: S) σ Q := pLdN (k := 2) f_201_5 rfl rfl rfl
theorem f_201_6 : oFet 201 6 = some (.invokevirtual 235, 3) := by decide +kernel
theorem c_201_6 {d : Nat} {l0 l1 l2 : oV} {x0 x1 x2 x3 : oV} {a : Nat} {v : Option oV} {τ : oSg} {S : List oV} {σ : oSg} {Q : Option oV → (Nat → oC) → Prop} (hm : oMi d 202 [.inr (.inr (.inl a)), x0, x1, x2, x3] σ v τ) (hk : oKd a = some 11) (hs : oSmall S = true) : oE d 201 6 [l0, l1, l2] (x3 :: x2 :: x1 :: x0 :: .inr (.inr (.inl a)) :: S) σ Q = oE d 201 9 [l0, l1, l2] (v.toList ++ S) τ Q := pCallV f_201_6 ow_201 lk_11_235 mt_202 rfl rfl rfl hk hs hm
theorem f_201_9 : oFet 201 9 = some (.ireturn, 1) := by decide +kernel
theorem s_201_9 {d : Nat} {l0 l1 l2 : oV} {x : Int} {σ : oSg} {Q : Option oV → (Nat → oC) → Prop} : oE d 201 9 [l0, l1, l2] [.inl x] σ Q = Q (some (.inl x)) (oBld σ) := oIret f_201_9 rt_201
theorem ow_202 : (oMt 202).2.2.2.2.1 = 11 := by decide +kernel
theorem rt_202 : (oMt 202).2.2.2.1 = some .int := by decide +kernel
theorem nl_202 : (oMt 202).2.2.1 = 5 := by decide +kernel
theorem f_202_0 : oFet 202 0 = some (.iload_n 3, 1) := by decide +kernel
theorem s_202_0 {d : Nat} {l0 l1 l2 l4 : oV} {x : Int} {S : List oV} {σ : oSg} {Q : Option oV → (Nat → oC) → Prop} : oE d 202 0 [l0, l1, l2, .inl x, l4] S σ Q = oE d 202 1 [l0, l1, l2, .inl x, l4] (.inl x :: S) σ Q := pLdN (k := 3) f_202_0 rfl rfl rfl
theorem f_202_1 : oFet 202 1 = some (.iconst (-1), 1) := by decide +kernel
theorem s_202_1 {d : Nat} {l0 l1 l2 l3 l4 : oV} {S : List oV} {σ : oSg} {Q : Option oV → (Nat → oC) → Prop} : oE d 202 1 [l0, l1, l2, l3, l4] S σ Q = oE d 202 2 [l0, l1, l2, l3, l4] (.inl (-1) :: S) σ Q := pKst f_202_1 (by decide)
theorem f_202_2 : oFet 202 2 = some (.if_icmp .ne 12, 3) := by decide +kernel
theorem s_202_2 {d : Nat} {l0 l1 l2 l3 l4 : oV} {x y : Int} {S : List oV} {σ : oSg} {Q : Option oV → (Nat → oC) → Prop} : oE d 202 2 [l0, l1, l2, l3, l4] (.inl y :: .inl x :: S) σ Q = if ¬ x = y then oE d 202 14 [l0, l1, l2, l3, l4] S σ Q else oE d 202 5 [l0, l1, l2, l3, l4] S σ Q := oCmpNe f_202_2 (by decide)
theorem f_202_5 : oFet 202 5 = some (.aload_n 0, 1) := by decide +kernel
theorem s_202_5 {d : Nat} {l1 l2 l3 l4 : oV} {a : Nat} {S : List oV} {σ : oSg} {Q : Option oV → (Nat → oC) → Prop} : oE d 202 5 [.inr (.inr (.inl a)), l1, l2, l3, l4] S σ Q = oE d 202 6 [.inr (.inr (.inl a)), l1, l2, l3, l4] (.inr (.inr (.inl a)) :: S) σ Q := pLdN (k := 0) f_202_5 rfl rfl rfl
theorem f_202_6 : oFet 202 6 = some (.getfield 11, 3) := by decide +kernel
theorem s_202_6 {d : Nat} {l0 l1 l2 l3 l4 : oV} {a : Nat} {S : List oV} {σ : oSg} {Q : Option oV → (Nat → oC) → Prop} (hk : oKd a = some 11) : oE d 202 6 [l0, l1, l2, l3, l4] (.inr (.inr (.inl a)) :: S) σ Q = oE d 202 9 [l0, l1, l2, l3, l4] (.inr (.inr (.inl (oRf a 0))) :: S) σ Q := pGfR f_202_6 ow_202 fl_11_11 rfl (by decide) hk
theorem f_202_9 : oFet 202 9 = some (.iload_n 1, 1) := by decide +kernel
theorem s_202_9 {d : Nat} {l0 l2 l3 l4 : oV} {x : Int} {S : List oV} {σ : oSg} {Q : Option oV → (Nat → oC) → Prop} : oE d 202 9 [l0, .inl x, l2, l3, l4] S σ Q = oE d 202 10 [l0, .inl x, l2, l3, l4] (.inl x :: S) σ Q := pLdN (k := 1) f_202_9 rfl rfl rfl
theorem f_202_10 : oFet 202 10 = some (.iconst 0, 1) := by decide +kernel
theorem s_202_10 {d : Nat} {l0 l1 l2 l3 l4 : oV} {S : List oV} {σ : oSg} {Q : Option oV → (Nat → oC) → Prop} : oE d 202 10 [l0, l1, l2, l3, l4] S σ Q = oE d 202 11 [l0, l1, l2, l3, l4] (.inl (0) :: S) σ Q := pKst f_202_10 (by decide)
theorem f_202_11 : oFet 202 11 = some (.iastore, 1) := by decide +kernel
theorem s_202_11 {d : Nat} {l0 l1 l2 l3 l4 : oV} {a : Nat} {i v : Int} {S : List oV} {σ : oSg} {Q : Option oV → (Nat → oC) → Prop} (hk : oAk a = some 0) (h0 : 0 ≤ i) (h1 : i < (oLn a : Int)) : oE d 202 11 [l0, l1, l2, l3, l4] (.inl v :: .inl i :: .inr (.inr (.inl a)) :: S) σ Q = oE d 202 12 [l0, l1, l2, l3, l4] S (oSA σ a i.toNat v) Q := oIas f_202_11 hk h0 h1
theorem f_202_12 : oFet 202 12 = some (.iconst 0, 1) := by decide +kernel
theorem s_202_12 {d : Nat} {l0 l1 l2 l3 l4 : oV} {S : List oV} {σ : oSg} {Q : Option oV → (Nat → oC) → Prop} : oE d 202 12 [l0, l1, l2, l3, l4] S σ Q = oE d 202 13 [l0, l1, l2, l3, l4] (.inl (0) :: S) σ Q := pKst f_202_12 (by decide)
theorem f_202_13 : oFet 202 13 = some (.ireturn, 1) := by decide +kernel
theorem s_202_13 {d : Nat} {l0 l1 l2 l3 l4 : oV} {x : Int} {σ : oSg} {Q : Option oV → (Nat → oC) → Prop} : oE d 202 13 [l0, l1, l2, l3, l4] [.inl x] σ Q = Q (some (.inl x)) (oBld σ) := oIret f_202_13 rt_202
theorem f_202_14 : oFet 202 14 = some (.aload_n 0, 1) := by decide +kernel
theorem s_202_14 {d : Nat} {l1 l2 l3 l4 : oV} {a : Nat} {S : List oV} {σ : oSg} {Q : Option oV → (Nat → oC) → Prop} : oE d 202 14 [.inr (.inr (.inl a)), l1, l2, l3, l4] S σ Q = oE d 202 15 [.inr (.inr (.inl a)), l1, l2, l3, l4] (.inr (.inr (.inl a)) :: S) σ Q := pLdN (k := 0) f_202_14 rfl rfl rfl
theorem f_202_15 : oFet 202 15 = some (.iload_n 3, 1) := by decide +kernel
theorem s_202_15 {d : Nat} {l0 l1 l2 l4 : oV} {x : Int} {S : List oV} {σ : oSg} {Q : Option oV → (Nat → oC) → Prop} : oE d 202 15 [l0, l1, l2, .inl x, l4] S σ Q = oE d 202 16 [l0, l1, l2, .inl x, l4] (.inl x :: S) σ Q := pLdN (k := 3) f_202_15 rfl rfl rfl
theorem f_202_16 : oFet 202 16 = some (.iload 4, 2) := by decide +kernel
theorem s_202_16 {d : Nat} {l0 l1 l2 l3 : oV} {x : Int} {S : List oV} {σ : oSg} {Q : Option oV → (Nat → oC) → Prop} : oE d 202 16 [l0, l1, l2, l3, .inl x] S σ Q = oE d 202 18 [l0, l1, l2, l3, .inl x] (.inl x :: S) σ Q := pLd (i := 4) f_202_16 rfl rfl rfl
theorem f_202_18 : oFet 202 18 = some (.invokevirtual 79, 3) := by decide +kernel
theorem c_202_18 {d : Nat} {l0 l1 l2 l3 l4 : oV} {x0 x1 : oV} {a : Nat} {v : Option oV} {τ : oSg} {S : List oV} {σ : oSg} {Q : Option oV → (Nat → oC) → Prop} (hm : oMi d 144 [.inr (.inr (.inl a)), x0, x1] σ v τ) (hk : oKd a = some 11) (hs : oSmall S = true) : oE d 202 18 [l0, l1, l2, l3, l4] (x1 :: x0 :: .inr (.inr (.inl a)) :: S) σ Q = oE d 202 21 [l0, l1, l2, l3, l4] (v.toList ++ S) τ Q := pCallV f_202_18 ow_202 lk_11_79 mt_144 rfl rfl rfl hk hs hm
theorem f_202_21 : oFet 202 21 = some (.ifCond .ne 5, 3) := by decide +kernel
theorem s_202_21 {d : Nat} {l0 l1 l2 l3 l4 : oV} {x : Int} {S : List oV} {σ : oSg} {Q : Option oV → (Nat → oC) → Prop} : oE d 202 21 [l0, l1, l2, l3, l4] (.inl x :: S) σ Q = if ¬ x = 0 then oE d 202 26 [l0, l1, l2, l3, l4] S σ Q else oE d 202 24 [l0, l1, l2, l3, l4] S σ Q := oIfNe f_202_21 (by decide)
theorem f_202_24 : oFet 202 24 = some (.iconst (-1), 1) := by decide +kernel
theorem s_202_24 {d : Nat} {l0 l1 l2 l3 l4 : oV} {S : List oV} {σ : oSg} {Q : Option oV → (Nat → oC) → Prop} : oE d 202 24 [l0, l1, l2, l3, l4] S σ Q = oE d 202 25 [l0, l1, l2, l3, l4] (.inl (-1) :: S) σ Q := pKst f_202_24 (by decide)
theorem f_202_25 : oFet 202 25 = some (.ireturn, 1) := by decide +kernel
theorem s_202_25 {d : Nat} {l0 l1 l2 l3 l4 : oV} {x : Int} {σ : oSg} {Q : Option oV → (Nat → oC) → Prop} : oE d 202 25 [l0, l1, l2, l3, l4] [.inl x] σ Q = Q (some (.inl x)) (oBld σ) := oIret f_202_25 rt_202
theorem f_202_26 : oFet 202 26 = some (.aload_n 0, 1) := by decide +kernel
theorem s_202_26 {d : Nat} {l1 l2 l3 l4 : oV} {a : Nat} {S : List oV} {σ : oSg} {Q : Option oV → (Nat → oC) → Prop} : oE d 202 26 [.inr (.inr (.inl a)), l1, l2, l3, l4] S σ Q = oE d 202 27 [.inr (.inr (.inl a)), l1, l2, l3, l4] (.inr (.inr (.inl a)) :: S) σ Q := pLdN (k := 0) f_202_26 rfl rfl rfl
theorem f_202_27 : oFet 202 27 = some (.getfield 11, 3) := by decide +kernel
theorem s_202_27 {d : Nat} {l0 l1 l2 l3 l4 : oV} {a : Nat} {S : List oV} {σ : oSg} {Q : Option oV → (Nat → oC) → Prop} (hk : oKd a = some 11) : oE d 202 27 [l0, l1, l2, l3, l4] (.inr (.inr (.inl a)) :: S) σ Q = oE d 202 30 [l0, l1, l2, l3, l4] (.inr (.inr (.inl (oRf a 0))) :: S) σ Q := pGfR f_202_27 ow_202 fl_11_11 rfl (by decide) hk
theorem f_202_30 : oFet 202 30 = some (.iload_n 1, 1) := by decide +kernel
theorem s_202_30 {d : Nat} {l0 l2 l3 l4 : oV} {x : Int} {S : List oV} {σ : oSg} {Q : Option oV → (Nat → oC) → Prop} : oE d 202 30 [l0, .inl x, l2, l3, l4] S σ Q = oE d 202 31 [l0, .inl x, l2, l3, l4] (.inl x :: S) σ Q := pLdN (k := 1) f_202_30 rfl rfl rfl
theorem f_202_31 : oFet 202 31 = some (.iaload, 1) := by decide +kernel
theorem s_202_31 {d : Nat} {l0 l1 l2 l3 l4 : oV} {a : Nat} {i : Int} {S : List oV} {σ : oSg} {Q : Option oV → (Nat → oC) → Prop} (hk : oAk a = some 0) (h0 : 0 ≤ i) (h1 : i < (oLn a : Int)) : oE d 202 31 [l0, l1, l2, l3, l4] (.inl i :: .inr (.inr (.inl a)) :: S) σ Q = oE d 202 32 [l0, l1, l2, l3, l4] (.inl (σ.2 a i.toNat) :: S) σ Q := oIal f_202_31 hk h0 h1
theorem f_202_32 : oFet 202 32 = some (.iload_n 2, 1) := by decide +kernel
theorem s_202_32 {d : Nat} {l0 l1 l3 l4 : oV} {x : Int} {S : List oV} {σ : oSg} {Q : Option oV → (Nat → oC) → Prop} : oE d 202 32 [l0, l1, .inl x, l3, l4] S σ Q = oE d 202 33 [l0, l1, .inl x, l3, l4] (.inl x :: S) σ Q := pLdN (k := 2) f_202_32 rfl rfl rfl
theorem f_202_33 : oFet 202 33 = some (.if_icmp .ne 6, 3) := by decide +kernel
theorem s_202_33 {d : Nat} {l0 l1 l2 l3 l4 : oV} {x y : Int} {S : List oV} {σ : oSg} {Q : Option oV → (Nat → oC) → Prop} : oE d 202 33 [l0, l1, l2, l3, l4] (.inl y :: .inl x :: S) σ Q = if ¬ x = y then oE d 202 39 [l0, l1, l2, l3, l4] S σ Q else oE d 202 36 [l0, l1, l2, l3, l4] S σ Q := oCmpNe f_202_33 (by decide)
theorem f_202_36 : oFet 202 36 = some (.bipush (-4), 2) := by decide +kernel
theorem s_202_36 {d : Nat} {l0 l1 l2 l3 l4 : oV} {S : List oV} {σ : oSg} {Q : Option oV → (Nat → oC) → Prop} : oE d 202 36 [l0, l1, l2, l3, l4] S σ Q = oE d 202 38 [l0, l1, l2, l3, l4] (.inl (-4) :: S) σ Q := pBip f_202_36 (by decide)
theorem f_202_38 : oFet 202 38 = some (.ireturn, 1) := by decide +kernel
theorem s_202_38 {d : Nat} {l0 l1 l2 l3 l4 : oV} {x : Int} {σ : oSg} {Q : Option oV → (Nat → oC) → Prop} : oE d 202 38 [l0, l1, l2, l3, l4] [.inl x] σ Q = Q (some (.inl x)) (oBld σ) := oIret f_202_38 rt_202
theorem f_202_39 : oFet 202 39 = some (.aload_n 0, 1) := by decide +kernel
theorem s_202_39 {d : Nat} {l1 l2 l3 l4 : oV} {a : Nat} {S : List oV} {σ : oSg} {Q : Option oV → (Nat → oC) → Prop} : oE d 202 39 [.inr (.inr (.inl a)), l1, l2, l3, l4] S σ Q = oE d 202 40 [.inr (.inr (.inl a)), l1, l2, l3, l4] (.inr (.inr (.inl a)) :: S) σ Q := pLdN (k := 0) f_202_39 rfl rfl rfl
theorem f_202_40 : oFet 202 40 = some (.getfield 11, 3) := by decide +kernel
theorem s_202_40 {d : Nat} {l0 l1 l2 l3 l4 : oV} {a : Nat} {S : List oV} {σ : oSg} {Q : Option oV → (Nat → oC) → Prop} (hk : oKd a = some 11) : oE d 202 40 [l0, l1, l2, l3, l4] (.inr (.inr (.inl a)) :: S) σ Q = oE d 202 43 [l0, l1, l2, l3, l4] (.inr (.inr (.inl (oRf a 0))) :: S) σ Q := pGfR f_202_40 ow_202 fl_11_11 rfl (by decide) hk
theorem f_202_43 : oFet 202 43 = some (.iload_n 1, 1) := by decide +kernel
theorem s_202_43 {d : Nat} {l0 l2 l3 l4 : oV} {x : Int} {S : List oV} {σ : oSg} {Q : Option oV → (Nat → oC) → Prop} : oE d 202 43 [l0, .inl x, l2, l3, l4] S σ Q = oE d 202 44 [l0, .inl x, l2, l3, l4] (.inl x :: S) σ Q := pLdN (k := 1) f_202_43 rfl rfl rfl
theorem f_202_44 : oFet 202 44 = some (.iconst 1, 1) := by decide +kernel
theorem s_202_44 {d : Nat} {l0 l1 l2 l3 l4 : oV} {S : List oV} {σ : oSg} {Q : Option oV → (Nat → oC) → Prop} : oE d 202 44 [l0, l1, l2, l3, l4] S σ Q = oE d 202 45 [l0, l1, l2, l3, l4] (.inl (1) :: S) σ Q := pKst f_202_44 (by decide)
theorem f_202_45 : oFet 202 45 = some (.iadd, 1) := by decide +kernel
theorem s_202_45 {d : Nat} {l0 l1 l2 l3 l4 : oV} {x y : Int} {S : List oV} {σ : oSg} {Q : Option oV → (Nat → oC) → Prop} : oE d 202 45 [l0, l1, l2, l3, l4] (.inl y :: .inl x :: S) σ Q = oE d 202 46 [l0, l1, l2, l3, l4] (.inl (oAdd x y) :: S) σ Q := oS3 f_202_45 rfl rfl rfl
theorem f_202_46 : oFet 202 46 = some (.aload_n 0, 1) := by decide +kernel
theorem s_202_46 {d : Nat} {l1 l2 l3 l4 : oV} {a : Nat} {S : List oV} {σ : oSg} {Q : Option oV → (Nat → oC) → Prop} : oE d 202 46 [.inr (.inr (.inl a)), l1, l2, l3, l4] S σ Q = oE d 202 47 [.inr (.inr (.inl a)), l1, l2, l3, l4] (.inr (.inr (.inl a)) :: S) σ Q := pLdN (k := 0) f_202_46 rfl rfl rfl
theorem f_202_47 : oFet 202 47 = some (.getfield 11, 3) := by decide +kernel
theorem s_202_47 {d : Nat} {l0 l1 l2 l3 l4 : oV} {a : Nat} {S : List oV} {σ : oSg} {Q : Option oV → (Nat → oC) → Prop} (hk : oKd a = some 11) : oE d 202 47 [l0, l1, l2, l3, l4] (.inr (.inr (.inl a)) :: S) σ Q = oE d 202 50 [l0, l1, l2, l3, l4] (.inr (.inr (.inl (oRf a 0))) :: S) σ Q := pGfR f_202_47 ow_202 fl_11_11 rfl (by decide) hk
theorem f_202_50 : oFet 202 50 = some (.iload_n 1, 1) := by decide +kernel
theorem s_202_50 {d : Nat} {l0 l2 l3 l4 : oV} {x : Int} {S : List oV} {σ : oSg} {Q : Option oV → (Nat → oC) → Prop} : oE d 202 50 [l0, .inl x, l2, l3, l4] S σ Q = oE d 202 51 [l0, .inl x, l2, l3, l4] (.inl x :: S) σ Q := pLdN (k := 1) f_202_50 rfl rfl rfl
theorem f_202_51 : oFet 202 51 = some (.iaload, 1) := by decide +kernel
theorem s_202_51 {d : Nat} {l0 l1 l2 l3 l4 : oV} {a : Nat} {i : Int} {S : List oV} {σ : oSg} {Q : Option oV → (Nat → oC) → Prop} (hk : oAk a = some 0) (h0 : 0 ≤ i) (h1 : i < (oLn a : Int)) : oE d 202 51 [l0, l1, l2, l3, l4] (.inl i :: .inr (.inr (.inl a)) :: S) σ Q = oE d 202 52 [l0, l1, l2, l3, l4] (.inl (σ.2 a i.toNat) :: S) σ Q := oIal f_202_51 hk h0 h1
theorem f_202_52 : oFet 202 52 = some (.iadd, 1) := by decide +kernel
theorem s_202_52 {d : Nat} {l0 l1 l2 l3 l4 : oV} {x y : Int} {S : List oV} {σ : oSg} {Q : Option oV → (Nat → oC) → Prop} : oE d 202 52 [l0, l1, l2, l3, l4] (.inl y :: .inl x :: S) σ Q = oE d 202 53 [l0, l1, l2, l3, l4] (.inl (oAdd x y) :: S) σ Q := oS3 f_202_52 rfl rfl rfl
theorem f_202_53 : oFet 202 53 = some (.iload_n 3, 1) := by decide +kernel
theorem s_202_53 {d : Nat} {l0 l1 l2 l4 : oV} {x : Int} {S : List oV} {σ : oSg} {Q : Option oV → (Nat → oC) → Prop} : oE d 202 53 [l0, l1, l2, .inl x, l4] S σ Q = oE d 202 54 [l0, l1, l2, .inl x, l4] (.inl x :: S) σ Q := pLdN (k := 3) f_202_53 rfl rfl rfl
theorem f_202_54 : oFet 202 54 = some (.iastore, 1) := by decide +kernel
theorem s_202_54 {d : Nat} {l0 l1 l2 l3 l4 : oV} {a : Nat} {i v : Int} {S : List oV} {σ : oSg} {Q : Option oV → (Nat → oC) → Prop} (hk : oAk a = some 0) (h0 : 0 ≤ i) (h1 : i < (oLn a : Int)) : oE d 202 54 [l0, l1, l2, l3, l4] (.inl v :: .inl i :: .inr (.inr (.inl a)) :: S) σ Q = oE d 202 55 [l0, l1, l2, l3, l4] S (oSA σ a i.toNat v) Q := oIas f_202_54 hk h0 h1
theorem f_202_55 : oFet 202 55 = some (.aload_n 0, 1) := by decide +kernel
theorem s_202_55 {d : Nat} {l1 l2 l3 l4 : oV} {a : Nat} {S : List oV} {σ : oSg} {Q : Option oV → (Nat → oC) → Prop} : oE d 202 55 [.inr (.inr (.inl a)), l1, l2, l3, l4] S σ Q = oE d 202 56 [.inr (.inr (.inl a)), l1, l2, l3, l4] (.inr (.inr (.inl a)) :: S) σ Q := pLdN (k := 0) f_202_55 rfl rfl rfl
theorem f_202_56 : oFet 202 56 = some (.getfield 11, 3) := by decide +kernel
theorem s_202_56 {d : Nat} {l0 l1 l2 l3 l4 : oV} {a : Nat} {S : List oV} {σ : oSg} {Q : Option oV → (Nat → oC) → Prop} (hk : oKd a = some 11) : oE d 202 56 [l0, l1, l2, l3, l4] (.inr (.inr (.inl a)) :: S) σ Q = oE d 202 59 [l0, l1, l2, l3, l4] (.inr (.inr (.inl (oRf a 0))) :: S) σ Q := pGfR f_202_56 ow_202 fl_11_11 rfl (by decide) hk
theorem f_202_59 : oFet 202 59 = some (.iload_n 1, 1) := by decide +kernel
theorem s_202_59 {d : Nat} {l0 l2 l3 l4 : oV} {x : Int} {S : List oV} {σ : oSg} {Q : Option oV → (Nat → oC) → Prop} : oE d 202 59 [l0, .inl x, l2, l3, l4] S σ Q = oE d 202 60 [l0, .inl x, l2, l3, l4] (.inl x :: S) σ Q := pLdN (k := 1) f_202_59 rfl rfl rfl
theorem f_202_60 : oFet 202 60 = some (.iconst 1, 1) := by decide +kernel
theorem s_202_60 {d : Nat} {l0 l1 l2 l3 l4 : oV} {S : List oV} {σ : oSg} {Q : Option oV → (Nat → oC) → Prop} : oE d 202 60 [l0, l1, l2, l3, l4] S σ Q = oE d 202 61 [l0, l1, l2, l3, l4] (.inl (1) :: S) σ Q := pKst f_202_60 (by decide)
theorem f_202_61 : oFet 202 61 = some (.iadd, 1) := by decide +kernel
theorem s_202_61 {d : Nat} {l0 l1 l2 l3 l4 : oV} {x y : Int} {S : List oV} {σ : oSg} {Q : Option oV → (Nat → oC) → Prop} : oE d 202 61 [l0, l1, l2, l3, l4] (.inl y :: .inl x :: S) σ Q = oE d 202 62 [l0, l1, l2, l3, l4] (.inl (oAdd x y) :: S) σ Q := oS3 f_202_61 rfl rfl rfl
theorem f_202_62 : oFet 202 62 = some (.iload_n 2, 1) := by decide +kernel
theorem s_202_62 {d : Nat} {l0 l1 l3 l4 : oV} {x : Int} {S : List oV} {σ : oSg} {Q : Option oV → (Nat → oC) → Prop} : oE d 202 62 [l0, l1, .inl x, l3, l4] S σ Q = oE d 202 63 [l0, l1, .inl x, l3, l4] (.inl x :: S) σ Q := pLdN (k := 2) f_202_62 rfl rfl rfl
theorem f_202_63 : oFet 202 63 = some (.iadd, 1) := by decide +kernel
theorem s_202_63 {d : Nat} {l0 l1 l2 l3 l4 : oV} {x y : Int} {S : List oV} {σ : oSg} {Q : Option oV → (Nat → oC) → Prop} : oE d 202 63 [l0, l1, l2, l3, l4] (.inl y :: .inl x :: S) σ Q = oE d 202 64 [l0, l1, l2, l3, l4] (.inl (oAdd x y) :: S) σ Q := oS3 f_202_63 rfl rfl rfl
theorem f_202_64 : oFet 202 64 = some (.aload_n 0, 1) := by decide +kernel
theorem s_202_64 {d : Nat} {l1 l2 l3 l4 : oV} {a : Nat} {S : List oV} {σ : oSg} {Q : Option oV → (Nat → oC) → Prop} : oE d 202 64 [.inr (.inr (.inl a)), l1, l2, l3, l4] S σ Q = oE d 202 65 [.inr (.inr (.inl a)), l1, l2, l3, l4] (.inr (.inr (.inl a)) :: S) σ Q := pLdN (k := 0) f_202_64 rfl rfl rfl
theorem f_202_65 : oFet 202 65 = some (.getfield 11, 3) := by decide +kernel
theorem s_202_65 {d : Nat} {l0 l1 l2 l3 l4 : oV} {a : Nat} {S : List oV} {σ : oSg} {Q : Option oV → (Nat → oC) → Prop} (hk : oKd a = some 11) : oE d 202 65 [l0, l1, l2, l3, l4] (.inr (.inr (.inl a)) :: S) σ Q = oE d 202 68 [l0, l1, l2, l3, l4] (.inr (.inr (.inl (oRf a 0))) :: S) σ Q := pGfR f_202_65 ow_202 fl_11_11 rfl (by decide) hk
theorem f_202_68 : oFet 202 68 = some (.iload_n 1, 1) := by decide +kernel
theorem s_202_68 {d : Nat} {l0 l2 l3 l4 : oV} {x : Int} {S : List oV} {σ : oSg} {Q : Option oV → (Nat → oC) → Prop} : oE d 202 68 [l0, .inl x, l2, l3, l4] S σ Q = oE d 202 69 [l0, .inl x, l2, l3, l4] (.inl x :: S) σ Q := pLdN (k := 1) f_202_68 rfl rfl rfl
theorem f_202_69 : oFet 202 69 = some (.iaload, 1) := by decide +kernel
theorem s_202_69 {d : Nat} {l0 l1 l2 l3 l4 : oV} {a : Nat} {i : Int} {S : List oV} {σ : oSg} {Q : Option oV → (Nat → oC) → Prop} (hk : oAk a = some 0) (h0 : 0 ≤ i) (h1 : i < (oLn a : Int)) : oE d 202 69 [l0, l1, l2, l3, l4] (.inl i :: .inr (.inr (.inl a)) :: S) σ Q = oE d 202 70 [l0, l1, l2, l3, l4] (.inl (σ.2 a i.toNat) :: S) σ Q := oIal f_202_69 hk h0 h1
theorem f_202_70 : oFet 202 70 = some (.iadd, 1) := by decide +kernel
theorem s_202_70 {d : Nat} {l0 l1 l2 l3 l4 : oV} {x y : Int} {S : List oV} {σ : oSg} {Q : Option oV → (Nat → oC) → Prop} : oE d 202 70 [l0, l1, l2, l3, l4] (.inl y :: .inl x :: S) σ Q = oE d 202 71 [l0, l1, l2, l3, l4] (.inl (oAdd x y) :: S) σ Q := oS3 f_202_70 rfl rfl rfl
theorem f_202_71 : oFet 202 71 = some (.iload 4, 2) := by decide +kernel
theorem s_202_71 {d : Nat} {l0 l1 l2 l3 : oV} {x : Int} {S : List oV} {σ : oSg} {Q : Option oV → (Nat → oC) → Prop} : oE d 202 71 [l0, l1, l2, l3, .inl x] S σ Q = oE d 202 73 [l0, l1, l2, l3, .inl x] (.inl x :: S) σ Q := pLd (i := 4) f_202_71 rfl rfl rfl
theorem f_202_73 : oFet 202 73 = some (.iastore, 1) := by decide +kernel
theorem s_202_73 {d : Nat} {l0 l1 l2 l3 l4 : oV} {a : Nat} {i v : Int} {S : List oV} {σ : oSg} {Q : Option oV → (Nat → oC) → Prop} (hk : oAk a = some 0) (h0 : 0 ≤ i) (h1 : i < (oLn a : Int)) : oE d 202 73 [l0, l1, l2, l3, l4] (.inl v :: .inl i :: .inr (.inr (.inl a)) :: S) σ Q = oE d 202 74 [l0, l1, l2, l3, l4] S (oSA σ a i.toNat v) Q := oIas f_202_73 hk h0 h1
theorem f_202_74 : oFet 202 74 = some (.aload_n 0, 1) := by decide +kernel
theorem s_202_74 {d : Nat} {l1 l2 l3 l4 : oV} {a : Nat} {S : List oV} {σ : oSg} {Q : Option oV → (Nat → oC) → Prop} : oE d 202 74 [.inr (.inr (.inl a)), l1, l2, l3, l4] S σ Q = oE d 202 75 [.inr (.inr (.inl a)), l1, l2, l3, l4] (.inr (.inr (.inl a)) :: S) σ Q := pLdN (k := 0) f_202_74 rfl rfl rfl
theorem f_202_75 : oFet 202 75 = some (.getfield 11, 3) := by decide +kernel
theorem s_202_75 {d : Nat} {l0 l1 l2 l3 l4 : oV} {a : Nat} {S : List oV} {σ : oSg} {Q : Option oV → (Nat → oC) → Prop} (hk : oKd a = some 11) : oE d 202 75 [l0, l1, l2, l3, l4] (.inr (.inr (.inl a)) :: S) σ Q = oE d 202 78 [l0, l1, l2, l3, l4] (.inr (.inr (.inl (oRf a 0))) :: S) σ Q := pGfR f_202_75 ow_202 fl_11_11 rfl (by decide) hk
theorem f_202_78 : oFet 202 78 = some (.iload_n 1, 1) := by decide +kernel
theorem s_202_78 {d : Nat} {l0 l2 l3 l4 : oV} {x : Int} {S : List oV} {σ : oSg} {Q : Option oV → (Nat → oC) → Prop} : oE d 202 78 [l0, .inl x, l2, l3, l4] S σ Q = oE d 202 79 [l0, .inl x, l2, l3, l4] (.inl x :: S) σ Q := pLdN (k := 1) f_202_78 rfl rfl rfl
theorem f_202_79 : oFet 202 79 = some (.dup2, 1) := by decide +kernel
theorem s_202_79 {d : Nat} {l0 l1 l2 l3 l4 : oV} {x : Int} {a : Nat} {S : List oV} {σ : oSg} {Q : Option oV → (Nat → oC) → Prop} : oE d 202 79 [l0, l1, l2, l3, l4] (.inl x :: .inr (.inr (.inl a)) :: S) σ Q = oE d 202 80 [l0, l1, l2, l3, l4] (.inl x :: .inr (.inr (.inl a)) :: .inl x :: .inr (.inr (.inl a)) :: S) σ Q := pDup2 f_202_79 rfl rfl
theorem f_202_80 : oFet 202 80 = some (.iaload, 1) := by decide +kernel
theorem s_202_80 {d : Nat} {l0 l1 l2 l3 l4 : oV} {a : Nat} {i : Int} {S : List oV} {σ : oSg} {Q : Option oV → (Nat → oC) → Prop} (hk : oAk a = some 0) (h0 : 0 ≤ i) (h1 : i < (oLn a : Int)) : oE d 202 80 [l0, l1, l2, l3, l4] (.inl i :: .inr (.inr (.inl a)) :: S) σ Q = oE d 202 81 [l0, l1, l2, l3, l4] (.inl (σ.2 a i.toNat) :: S) σ Q := oIal f_202_80 hk h0 h1
theorem f_202_81 : oFet 202 81 = some (.iconst 1, 1) := by decide +kernel
theorem s_202_81 {d : Nat} {l0 l1 l2 l3 l4 : oV} {S : List oV} {σ : oSg} {Q : Option oV → (Nat → oC) → Prop} : oE d 202 81 [l0, l1, l2, l3, l4] S σ Q = oE d 202 82 [l0, l1, l2, l3, l4] (.inl (1) :: S) σ Q := pKst f_202_81 (by decide)
theorem f_202_82 : oFet 202 82 = some (.iadd, 1) := by decide +kernel
theorem s_202_82 {d : Nat} {l0 l1 l2 l3 l4 : oV} {x y : Int} {S : List oV} {σ : oSg} {Q : Option oV → (Nat → oC) → Prop} : oE d 202 82 [l0, l1, l2, l3, l4] (.inl y :: .inl x :: S) σ Q = oE d 202 83 [l0, l1, l2, l3, l4] (.inl (oAdd x y) :: S) σ Q := oS3 f_202_82 rfl rfl rfl
theorem f_202_83 : oFet 202 83 = some (.iastore, 1) := by decide +kernel
theorem s_202_83 {d : Nat} {l0 l1 l2 l3 l4 : oV} {a : Nat} {i v : Int} {S : List oV} {σ : oSg} {Q : Option oV → (Nat → oC) → Prop} (hk : oAk a = some 0) (h0 : 0 ≤ i) (h1 : i < (oLn a : Int)) : oE d 202 83 [l0, l1, l2, l3, l4] (.inl v :: .inl i :: .inr (.inr (.inl a)) :: S) σ Q = oE d 202 84 [l0, l1, l2, l3, l4] S (oSA σ a i.toNat v) Q := oIas f_202_83 hk h0 h1
theorem f_202_84 : oFet 202 84 = some (.aload_n 0, 1) := by decide +kernel
theorem s_202_84 {d : Nat} {l1 l2 l3 l4 : oV} {a : Nat} {S : List oV} {σ : oSg} {Q : Option oV → (Nat → oC) → Prop} : oE d 202 84 [.inr (.inr (.inl a)), l1, l2, l3, l4] S σ Q = oE d 202 85 [.inr (.inr (.inl a)), l1, l2, l3, l4] (.inr (.inr (.inl a)) :: S) σ Q := pLdN (k := 0) f_202_84 rfl rfl rfl
theorem f_202_85 : oFet 202 85 = some (.getfield 11, 3) := by decide +kernel
theorem s_202_85 {d : Nat} {l0 l1 l2 l3 l4 : oV} {a : Nat} {S : List oV} {σ : oSg} {Q : Option oV → (Nat → oC) → Prop} (hk : oKd a = some 11) : oE d 202 85 [l0, l1, l2, l3, l4] (.inr (.inr (.inl a)) :: S) σ Q = oE d 202 88 [l0, l1, l2, l3, l4] (.inr (.inr (.inl (oRf a 0))) :: S) σ Q := pGfR f_202_85 ow_202 fl_11_11 rfl (by decide) hk
theorem f_202_88 : oFet 202 88 = some (.iload_n 1, 1) := by decide +kernel
theorem s_202_88 {d : Nat} {l0 l2 l3 l4 : oV} {x : Int} {S : List oV} {σ : oSg} {Q : Option oV → (Nat → oC) → Prop} : oE d 202 88 [l0, .inl x, l2, l3, l4] S σ Q = oE d 202 89 [l0, .inl x, l2, l3, l4] (.inl x :: S) σ Q := pLdN (k := 1) f_202_88 rfl rfl rfl
theorem f_202_89 : oFet 202 89 = some (.iaload, 1) := by decide +kernel
theorem s_202_89 {d : Nat} {l0 l1 l2 l3 l4 : oV} {a : Nat} {i : Int} {S : List oV} {σ : oSg} {Q : Option oV → (Nat → oC) → Prop} (hk : oAk a = some 0) (h0 : 0 ≤ i) (h1 : i < (oLn a : Int)) : oE d 202 89 [l0, l1, l2, l3, l4] (.inl i :: .inr (.inr (.inl a)) :: S) σ Q = oE d 202 90 [l0, l1, l2, l3, l4] (.inl (σ.2 a i.toNat) :: S) σ Q := oIal f_202_89 hk h0 h1
theorem f_202_90 : oFet 202 90 = some (.ireturn, 1) := by decide +kernel
theorem s_202_90 {d : Nat} {l0 l1 l2 l3 l4 : oV} {x : Int} {σ : oSg} {Q : Option oV → (Nat → oC) → Prop} : oE d 202 90 [l0, l1, l2, l3, l4] [.inl x] σ Q = Q (some (.inl x)) (oBld σ) := oIret f_202_90 rt_202
theorem ow_203 : (oMt 203).2.2.2.2.1 = 11 := by decide +kernel
theorem rt_203 : (oMt 203).2.2.2.1 = some .int := by decide +kernel
theorem nl_203 : (oMt 203).2.2.1 = 8 := by decide +kernel
theorem f_203_0 : oFet 203 0 = some (.aload_n 0, 1) := by decide +kernel
theorem s_203_0 {d : Nat} {l1 l2 l3 l4 l5 l6 l7 : oV} {a : Nat} {S : List oV} {σ : oSg} {Q : Option oV → (Nat → oC) → Prop} : oE d 203 0 [.inr (.inr (.inl a)), l1, l2, l3, l4, l5, l6, l7] S σ Q = oE d 203 1 [.inr (.inr (.inl a)), l1, l2, l3, l4, l5, l6, l7] (.inr (.inr (.inl a)) :: S) σ Q := pLdN (k := 0) f_203_0 rfl rfl rfl
theorem f_203_1 : oFet 203 1 = some (.iload_n 1, 1) := by decide +kernel
theorem s_203_1 {d : Nat} {l0 l2 l3 l4 l5 l6 l7 : oV} {x : Int} {S : List oV} {σ : oSg} {Q : Option oV → (Nat → oC) → Prop} : oE d 203 1 [l0, .inl x, l2, l3, l4, l5, l6, l7] S σ Q = oE d 203 2 [l0, .inl x, l2, l3, l4, l5, l6, l7] (.inl x :: S) σ Q := pLdN (k := 1) f_203_1 rfl rfl rfl
theorem f_203_2 : oFet 203 2 = some (.iload_n 2, 1) := by decide +kernel
theorem s_203_2 {d : Nat} {l0 l1 l3 l4 l5 l6 l7 : oV} {x : Int} {S : List oV} {σ : oSg} {Q : Option oV → (Nat → oC) → Prop} : oE d 203 2 [l0, l1, .inl x, l3, l4, l5, l6, l7] S σ Q = oE d 203 3 [l0, l1, .inl x, l3, l4, l5, l6, l7] (.inl x :: S) σ Q := pLdN (k := 2) f_203_2 rfl rfl rfl
theorem f_203_3 : oFet 203 3 = some (.invokevirtual 79, 3) := by decide +kernel
theorem c_203_3 {d : Nat} {l0 l1 l2 l3 l4 l5 l6 l7 : oV} {x0 x1 : oV} {a : Nat} {v : Option oV} {τ : oSg} {S : List oV} {σ : oSg} {Q : Option oV → (Nat → oC) → Prop} (hm : oMi d 144 [.inr (.inr (.inl a)), x0, x1] σ v τ) (hk : oKd a = some 11) (hs : oSmall S = true) : oE d 203 3 [l0, l1, l2, l3, l4, l5, l6, l7] (x1 :: x0 :: .inr (.inr (.inl a)) :: S) σ Q = oE d 203 6 [l0, l1, l2, l3, l4, l5, l6, l7] (v.toList ++ S) τ Q := pCallV f_203_3 ow_203 lk_11_79 mt_144 rfl rfl rfl hk hs hm
theorem f_203_6 : oFet 203 6 = some (.ifCond .eq 12, 3) := by decide +kernel
theorem s_203_6 {d : Nat} {l0 l1 l2 l3 l4 l5 l6 l7 : oV} {x : Int} {S : List oV} {σ : oSg} {Q : Option oV → (Nat → oC) → Prop} : oE d 203 6 [l0, l1, l2, l3, l4, l5, l6, l7] (.inl x :: S) σ Q = if x = 0 then oE d 203 18 [l0, l1, l2, l3, l4, l5, l6, l7] S σ Q else oE d 203 9 [l0, l1, l2, l3, l4, l5, l6, l7] S σ Q := oIfEq f_203_6 (by decide)
theorem f_203_9 : oFet 203 9 = some (.iload_n 3, 1) := by decide +kernel
theorem s_203_9 {d : Nat} {l0 l1 l2 l4 l5 l6 l7 : oV} {x : Int} {S : List oV} {σ : oSg} {Q : Option oV → (Nat → oC) → Prop} : oE d 203 9 [l0, l1, l2, .inl x, l4, l5, l6, l7] S σ Q = oE d 203 10 [l0, l1, l2, .inl x, l4, l5, l6, l7] (.inl x :: S) σ Q := pLdN (k := 3) f_203_9 rfl rfl rfl
theorem f_203_10 : oFet 203 10 = some (.iconst 0, 1) := by decide +kernel
theorem s_203_10 {d : Nat} {l0 l1 l2 l3 l4 l5 l6 l7 : oV} {S : List oV} {σ : oSg} {Q : Option oV → (Nat → oC) → Prop} : oE d 203 10 [l0, l1, l2, l3, l4, l5, l6, l7] S σ Q = oE d 203 11 [l0, l1, l2, l3, l4, l5, l6, l7] (.inl (0) :: S) σ Q := pKst f_203_10 (by decide)
theorem f_203_11 : oFet 203 11 = some (.iconst 1, 1) := by decide +kernel
theorem s_203_11 {d : Nat} {l0 l1 l2 l3 l4 l5 l6 l7 : oV} {S : List oV} {σ : oSg} {Q : Option oV → (Nat → oC) → Prop} : oE d 203 11 [l0, l1, l2, l3, l4, l5, l6, l7] S σ Q = oE d 203 12 [l0, l1, l2, l3, l4, l5, l6, l7] (.inl (1) :: S) σ Q := pKst f_203_11 (by decide)
theorem f_203_12 : oFet 203 12 = some (.invokestatic 57, 3) := by decide +kernel
theorem c_203_12 {d : Nat} {l0 l1 l2 l3 l4 l5 l6 l7 : oV} {x0 x1 x2 : oV} {v : Option oV} {τ : oSg} {S : List oV} {σ : oSg} {Q : Option oV → (Nat → oC) → Prop} (hm : oMi d 146 [x0, x1, x2] σ v τ) (hs : oSmall S = true) : oE d 203 12 [l0, l1, l2, l3, l4, l5, l6, l7] (x2 :: x1 :: x0 :: S) σ Q = oE d 203 15 [l0, l1, l2, l3, l4, l5, l6, l7] (v.toList ++ S) τ Q := pCallS f_203_12 ow_203 lk_11_57 mt_146 rfl rfl rfl hs hm
theorem f_203_15 : oFet 203 15 = some (.ifCond .ne 5, 3) := by decide +kernel
theorem s_203_15 {d : Nat} {l0 l1 l2 l3 l4 l5 l6 l7 : oV} {x : Int} {S : List oV} {σ : oSg} {Q : Option oV → (Nat → oC) → Prop} : oE d 203 15 [l0, l1, l2, l3, l4, l5, l6, l7] (.inl x :: S) σ Q = if ¬ x = 0 then oE d 203 20 [l0, l1, l2, l3, l4, l5, l6, l7] S σ Q else oE d 203 18 [l0, l1, l2, l3, l4, l5, l6, l7] S σ Q := oIfNe f_203_15 (by decide)
theorem f_203_18 : oFet 203 18 = some (.iconst (-1), 1) := by decide +kernel
theorem s_203_18 {d : Nat} {l0 l1 l2 l3 l4 l5 l6 l7 : oV} {S : List oV} {σ : oSg} {Q : Option oV → (Nat → oC) → Prop} : oE d 203 18 [l0, l1, l2, l3, l4, l5, l6, l7] S σ Q = oE d 203 19 [l0, l1, l2, l3, l4, l5, l6, l7] (.inl (-1) :: S) σ Q := pKst f_203_18 (by decide)
theorem f_203_19 : oFet 203 19 = some (.ireturn, 1) := by decide +kernel
theorem s_203_19 {d : Nat} {l0 l1 l2 l3 l4 l5 l6 l7 : oV} {x : Int} {σ : oSg} {Q : Option oV → (Nat → oC) → Prop} : oE d 203 19 [l0, l1, l2, l3, l4, l5, l6, l7] [.inl x] σ Q = Q (some (.inl x)) (oBld σ) := oIret f_203_19 rt_203
theorem f_203_20 : oFet 203 20 = some (.aload_n 0, 1) := by decide +kernel
theorem s_203_20 {d : Nat} {l1 l2 l3 l4 l5 l6 l7 : oV} {a : Nat} {S : List oV} {σ : oSg} {Q : Option oV → (Nat → oC) → Prop} : oE d 203 20 [.inr (.inr (.inl a)), l1, l2, l3, l4, l5, l6, l7] S σ Q = oE d 203 21 [.inr (.inr (.inl a)), l1, l2, l3, l4, l5, l6, l7] (.inr (.inr (.inl a)) :: S) σ Q := pLdN (k := 0) f_203_20 rfl rfl rfl
theorem f_203_21 : oFet 203 21 = some (.iload_n 1, 1) := by decide +kernel
theorem s_203_21 {d : Nat} {l0 l2 l3 l4 l5 l6 l7 : oV} {x : Int} {S : List oV} {σ : oSg} {Q : Option oV → (Nat → oC) → Prop} : oE d 203 21 [l0, .inl x, l2, l3, l4, l5, l6, l7] S σ Q = oE d 203 22 [l0, .inl x, l2, l3, l4, l5, l6, l7] (.inl x :: S) σ Q := pLdN (k := 1) f_203_21 rfl rfl rfl
theorem f_203_22 : oFet 203 22 = some (.iload_n 2, 1) := by decide +kernel
theorem s_203_22 {d : Nat} {l0 l1 l3 l4 l5 l6 l7 : oV} {x : Int} {S : List oV} {σ : oSg} {Q : Option oV → (Nat → oC) → Prop} : oE d 203 22 [l0, l1, .inl x, l3, l4, l5, l6, l7] S σ Q = oE d 203 23 [l0, l1, .inl x, l3, l4, l5, l6, l7] (.inl x :: S) σ Q := pLdN (k := 2) f_203_22 rfl rfl rfl
theorem f_203_23 : oFet 203 23 = some (.invokevirtual 65, 3) := by decide +kernel
theorem c_203_23 {d : Nat} {l0 l1 l2 l3 l4 l5 l6 l7 : oV} {x0 x1 : oV} {a : Nat} {v : Option oV} {τ : oSg} {S : List oV} {σ : oSg} {Q : Option oV → (Nat → oC) → Prop} (hm : oMi d 147 [.inr (.inr (.inl a)), x0, x1] σ v τ) (hk : oKd a = some 11) (hs : oSmall S = true) : oE d 203 23 [l0, l1, l2, l3, l4, l5, l6, l7] (x1 :: x0 :: .inr (.inr (.inl a)) :: S) σ Q = oE d 203 26 [l0, l1, l2, l3, l4, l5, l6, l7] (v.toList ++ S) τ Q := pCallV f_203_23 ow_203 lk_11_65 mt_147 rfl rfl rfl hk hs hm
theorem f_203_26 : oFet 203 26 = some (.istore 4, 2) := by decide +kernel
theorem s_203_26 {d : Nat} {l0 l1 l2 l3 l4 l5 l6 l7 : oV} {x : Int} {S : List oV} {σ : oSg} {Q : Option oV → (Nat → oC) → Prop} (c4 : oCat l4 = 1) (c3 : oCat l3 = 1)  : oE d 203 26 [l0, l1, l2, l3, l4, l5, l6, l7] (.inl x :: S) σ Q = oE d 203 28 [l0, l1, l2, l3, .inl x, l5, l6, l7] S σ Q := pSt (i := 4) f_203_26 rfl rfl (show (4 : Nat) < 8 by decide) (oC1n c3) (oC1n c4) rfl
theorem f_203_28 : oFet 203 28 = some (.iconst 0, 1) := by decide +kernel
theorem s_203_28 {d : Nat} {l0 l1 l2 l3 l4 l5 l6 l7 : oV} {S : List oV} {σ : oSg} {Q : Option oV → (Nat → oC) → Prop} : oE d 203 28 [l0, l1, l2, l3, l4, l5, l6, l7] S σ Q = oE d 203 29 [l0, l1, l2, l3, l4, l5, l6, l7] (.inl (0) :: S) σ Q := pKst f_203_28 (by decide)
theorem f_203_29 : oFet 203 29 = some (.istore 5, 2) := by decide +kernel
theorem s_203_29 {d : Nat} {l0 l1 l2 l3 l4 l5 l6 l7 : oV} {x : Int} {S : List oV} {σ : oSg} {Q : Option oV → (Nat → oC) → Prop} (c5 : oCat l5 = 1) (c4 : oCat l4 = 1)  : oE d 203 29 [l0, l1, l2, l3, l4, l5, l6, l7] (.inl x :: S) σ Q = oE d 203 31 [l0, l1, l2, l3, l4, .inl x, l6, l7] S σ Q := pSt (i := 5) f_203_29 rfl rfl (show (5 : Nat) < 8 by decide) (oC1n c4) (oC1n c5) rfl
theorem f_203_31 : oFet 203 31 = some (.bipush (-5), 2) := by decide +kernel
theorem s_203_31 {d : Nat} {l0 l1 l2 l3 l4 l5 l6 l7 : oV} {S : List oV} {σ : oSg} {Q : Option oV → (Nat → oC) → Prop} : oE d 203 31 [l0, l1, l2, l3, l4, l5, l6, l7] S σ Q = oE d 203 33 [l0, l1, l2, l3, l4, l5, l6, l7] (.inl (-5) :: S) σ Q := pBip f_203_31 (by decide)
theorem f_203_33 : oFet 203 33 = some (.istore 6, 2) := by decide +kernel
theorem s_203_33 {d : Nat} {l0 l1 l2 l3 l4 l5 l6 l7 : oV} {x : Int} {S : List oV} {σ : oSg} {Q : Option oV → (Nat → oC) → Prop} (c6 : oCat l6 = 1) (c5 : oCat l5 = 1)  : oE d 203 33 [l0, l1, l2, l3, l4, l5, l6, l7] (.inl x :: S) σ Q = oE d 203 35 [l0, l1, l2, l3, l4, l5, .inl x, l7] S σ Q := pSt (i := 6) f_203_33 rfl rfl (show (6 : Nat) < 8 by decide) (oC1n c5) (oC1n c6) rfl
theorem f_203_35 : oFet 203 35 = some (.bipush 20, 2) := by decide +kernel
theorem s_203_35 {d : Nat} {l0 l1 l2 l3 l4 l5 l6 l7 : oV} {S : List oV} {σ : oSg} {Q : Option oV → (Nat → oC) → Prop} : oE d 203 35 [l0, l1, l2, l3, l4, l5, l6, l7] S σ Q = oE d 203 37 [l0, l1, l2, l3, l4, l5, l6, l7] (.inl (20) :: S) σ Q := pBip f_203_35 (by decide)
theorem f_203_37 : oFet 203 37 = some (.istore 7, 2) := by decide +kernel
theorem s_203_37 {d : Nat} {l0 l1 l2 l3 l4 l5 l6 l7 : oV} {x : Int} {S : List oV} {σ : oSg} {Q : Option oV → (Nat → oC) → Prop} (c7 : oCat l7 = 1) (c6 : oCat l6 = 1)  : oE d 203 37 [l0, l1, l2, l3, l4, l5, l6, l7] (.inl x :: S) σ Q = oE d 203 39 [l0, l1, l2, l3, l4, l5, l6, .inl x] S σ Q := pSt (i := 7) f_203_37 rfl rfl (show (7 : Nat) < 8 by decide) (oC1n c6) (oC1n c7) rfl
theorem f_203_39 : oFet 203 39 = some (.iload 7, 2) := by decide +kernel
theorem s_203_39 {d : Nat} {l0 l1 l2 l3 l4 l5 l6 : oV} {x : Int} {S : List oV} {σ : oSg} {Q : Option oV → (Nat → oC) → Prop} : oE d 203 39 [l0, l1, l2, l3, l4, l5, l6, .inl x] S σ Q = oE d 203 41 [l0, l1, l2, l3, l4, l5, l6, .inl x] (.inl x :: S) σ Q := pLd (i := 7) f_203_39 rfl rfl rfl
theorem f_203_41 : oFet 203 41 = some (.ifCond .lt 31, 3) := by decide +kernel
theorem s_203_41 {d : Nat} {l0 l1 l2 l3 l4 l5 l6 l7 : oV} {x : Int} {S : List oV} {σ : oSg} {Q : Option oV → (Nat → oC) → Prop} : oE d 203 41 [l0, l1, l2, l3, l4, l5, l6, l7] (.inl x :: S) σ Q = if x < 0 then oE d 203 72 [l0, l1, l2, l3, l4, l5, l6, l7] S σ Q else oE d 203 44 [l0, l1, l2, l3, l4, l5, l6, l7] S σ Q := oIfLt f_203_41 (by decide)
theorem f_203_44 : oFet 203 44 = some (.aload_n 0, 1) := by decide +kernel
theorem s_203_44 {d : Nat} {l1 l2 l3 l4 l5 l6 l7 : oV} {a : Nat} {S : List oV} {σ : oSg} {Q : Option oV → (Nat → oC) → Prop} : oE d 203 44 [.inr (.inr (.inl a)), l1, l2, l3, l4, l5, l6, l7] S σ Q = oE d 203 45 [.inr (.inr (.inl a)), l1, l2, l3, l4, l5, l6, l7] (.inr (.inr (.inl a)) :: S) σ Q := pLdN (k := 0) f_203_44 rfl rfl rfl
theorem f_203_45 : oFet 203 45 = some (.iload_n 1, 1) := by decide +kernel
theorem s_203_45 {d : Nat} {l0 l2 l3 l4 l5 l6 l7 : oV} {x : Int} {S : List oV} {σ : oSg} {Q : Option oV → (Nat → oC) → Prop} : oE d 203 45 [l0, .inl x, l2, l3, l4, l5, l6, l7] S σ Q = oE d 203 46 [l0, .inl x, l2, l3, l4, l5, l6, l7] (.inl x :: S) σ Q := pLdN (k := 1) f_203_45 rfl rfl rfl
theorem f_203_46 : oFet 203 46 = some (.iload_n 2, 1) := by decide +kernel
theorem s_203_46 {d : Nat} {l0 l1 l3 l4 l5 l6 l7 : oV} {x : Int} {S : List oV} {σ : oSg} {Q : Option oV → (Nat → oC) → Prop} : oE d 203 46 [l0, l1, .inl x, l3, l4, l5, l6, l7] S σ Q = oE d 203 47 [l0, l1, .inl x, l3, l4, l5, l6, l7] (.inl x :: S) σ Q := pLdN (k := 2) f_203_46 rfl rfl rfl
theorem f_203_47 : oFet 203 47 = some (.iload 7, 2) := by decide +kernel
theorem s_203_47 {d : Nat} {l0 l1 l2 l3 l4 l5 l6 : oV} {x : Int} {S : List oV} {σ : oSg} {Q : Option oV → (Nat → oC) → Prop} : oE d 203 47 [l0, l1, l2, l3, l4, l5, l6, .inl x] S σ Q = oE d 203 49 [l0, l1, l2, l3, l4, l5, l6, .inl x] (.inl x :: S) σ Q := pLd (i := 7) f_203_47 rfl rfl rfl
theorem f_203_49 : oFet 203 49 = some (.invokevirtual 83, 3) := by decide +kernel
theorem c_203_49 {d : Nat} {l0 l1 l2 l3 l4 l5 l6 l7 : oV} {x0 x1 x2 : oV} {a : Nat} {v : Option oV} {τ : oSg} {S : List oV} {σ : oSg} {Q : Option oV → (Nat → oC) → Prop} (hm : oMi d 148 [.inr (.inr (.inl a)), x0, x1, x2] σ v τ) (hk : oKd a = some 11) (hs : oSmall S = true) : oE d 203 49 [l0, l1, l2, l3, l4, l5, l6, l7] (x2 :: x1 :: x0 :: .inr (.inr (.inl a)) :: S) σ Q = oE d 203 52 [l0, l1, l2, l3, l4, l5, l6, l7] (v.toList ++ S) τ Q := pCallV f_203_49 ow_203 lk_11_83 mt_148 rfl rfl rfl hk hs hm
theorem f_203_52 : oFet 203 52 = some (.aload_n 0, 1) := by decide +kernel
theorem s_203_52 {d : Nat} {l1 l2 l3 l4 l5 l6 l7 : oV} {a : Nat} {S : List oV} {σ : oSg} {Q : Option oV → (Nat → oC) → Prop} : oE d 203 52 [.inr (.inr (.inl a)), l1, l2, l3, l4, l5, l6, l7] S σ Q = oE d 203 53 [.inr (.inr (.inl a)), l1, l2, l3, l4, l5, l6, l7] (.inr (.inr (.inl a)) :: S) σ Q := pLdN (k := 0) f_203_52 rfl rfl rfl
theorem f_203_53 : oFet 203 53 = some (.invokevirtual 239, 3) := by decide +kernel
theorem c_203_53 {d : Nat} {l0 l1 l2 l3 l4 l5 l6 l7 : oV} {a : Nat} {v : Option oV} {τ : oSg} {S : List oV} {σ : oSg} {Q : Option oV → (Nat → oC) → Prop} (hm : oMi d 204 [.inr (.inr (.inl a))] σ v τ) (hk : oKd a = some 11) (hs : oSmall S = true) : oE d 203 53 [l0, l1, l2, l3, l4, l5, l6, l7] (.inr (.inr (.inl a)) :: S) σ Q = oE d 203 56 [l0, l1, l2, l3, l4, l5, l6, l7] (v.toList ++ S) τ Q := pCallV f_203_53 ow_203 lk_11_239 mt_204 rfl rfl rfl hk hs hm
theorem f_203_56 : oFet 203 56 = some (.ifCond .eq 10, 3) := by decide +kernel
theorem s_203_56 {d : Nat} {l0 l1 l2 l3 l4 l5 l6 l7 : oV} {x : Int} {S : List oV} {σ : oSg} {Q : Option oV → (Nat → oC) → Prop} : oE d 203 56 [l0, l1, l2, l3, l4, l5, l6, l7] (.inl x :: S) σ Q = if x = 0 then oE d 203 66 [l0, l1, l2, l3, l4, l5, l6, l7] S σ Q else oE d 203 59 [l0, l1, l2, l3, l4, l5, l6, l7] S σ Q := oIfEq f_203_56 (by decide)
theorem f_203_59 : oFet 203 59 = some (.iinc 5 1, 3) := by decide +kernel
theorem s_203_59 {d : Nat} {l0 l1 l2 l3 l4 l6 l7 : oV} {x : Int} {S : List oV} {σ : oSg} {Q : Option oV → (Nat → oC) → Prop} (c4 : oCat l4 = 1)  : oE d 203 59 [l0, l1, l2, l3, l4, .inl x, l6, l7] S σ Q = oE d 203 62 [l0, l1, l2, l3, l4, .inl (oAdd x (1)), l6, l7] S σ Q := pInc f_203_59 rfl (show (5 : Nat) < 8 by decide) (oC1n c4) (oC1n (v := .inl x) rfl) rfl
theorem f_203_62 : oFet 203 62 = some (.iload 7, 2) := by decide +kernel
theorem s_203_62 {d : Nat} {l0 l1 l2 l3 l4 l5 l6 : oV} {x : Int} {S : List oV} {σ : oSg} {Q : Option oV → (Nat → oC) → Prop} : oE d 203 62 [l0, l1, l2, l3, l4, l5, l6, .inl x] S σ Q = oE d 203 64 [l0, l1, l2, l3, l4, l5, l6, .inl x] (.inl x :: S) σ Q := pLd (i := 7) f_203_62 rfl rfl rfl
theorem f_203_64 : oFet 203 64 = some (.istore 6, 2) := by decide +kernel
theorem s_203_64 {d : Nat} {l0 l1 l2 l3 l4 l5 l6 l7 : oV} {x : Int} {S : List oV} {σ : oSg} {Q : Option oV → (Nat → oC) → Prop} (c6 : oCat l6 = 1) (c5 : oCat l5 = 1)  : oE d 203 64 [l0, l1, l2, l3, l4, l5, l6, l7] (.inl x :: S) σ Q = oE d 203 66 [l0, l1, l2, l3, l4, l5, .inl x, l7] S σ Q := pSt (i := 6) f_203_64 rfl rfl (show (6 : Nat) < 8 by decide) (oC1n c5) (oC1n c6) rfl
theorem f_203_66 : oFet 203 66 = some (.iinc 7 (-1), 3) := by decide +kernel
theorem s_203_66 {d : Nat} {l0 l1 l2 l3 l4 l5 l6 : oV} {x : Int} {S : List oV} {σ : oSg} {Q : Option oV → (Nat → oC) → Prop} (c6 : oCat l6 = 1)  : oE d 203 66 [l0, l1, l2, l3, l4, l5, l6, .inl x] S σ Q = oE d 203 69 [l0, l1, l2, l3, l4, l5, l6, .inl (oAdd x (-1))] S σ Q := pInc f_203_66 rfl (show (7 : Nat) < 8 by decide) (oC1n c6) (oC1n (v := .inl x) rfl) rfl
theorem f_203_69 : oFet 203 69 = some (.goto (-30), 3) := by decide +kernel
theorem s_203_69 {d : Nat} {l0 l1 l2 l3 l4 l5 l6 l7 : oV} {S : List oV} {σ : oSg} {Q : Option oV → (Nat → oC) → Prop} : oE d 203 69 [l0, l1, l2, l3, l4, l5, l6, l7] S σ Q = oE d 203 39 [l0, l1, l2, l3, l4, l5, l6, l7] S σ Q := pGoto f_203_69 (by decide)
theorem f_203_72 : oFet 203 72 = some (.aload_n 0, 1) := by decide +kernel
theorem s_203_72 {d : Nat} {l1 l2 l3 l4 l5 l6 l7 : oV} {a : Nat} {S : List oV} {σ : oSg} {Q : Option oV → (Nat → oC) → Prop} : oE d 203 72 [.inr (.inr (.inl a)), l1, l2, l3, l4, l5, l6, l7] S σ Q = oE d 203 73 [.inr (.inr (.inl a)), l1, l2, l3, l4, l5, l6, l7] (.inr (.inr (.inl a)) :: S) σ Q := pLdN (k := 0) f_203_72 rfl rfl rfl
theorem f_203_73 : oFet 203 73 = some (.iload_n 1, 1) := by decide +kernel
theorem s_203_73 {d : Nat} {l0 l2 l3 l4 l5 l6 l7 : oV} {x : Int} {S : List oV} {σ : oSg} {Q : Option oV → (Nat → oC) → Prop} : oE d 203 73 [l0, .inl x, l2, l3, l4, l5, l6, l7] S σ Q = oE d 203 74 [l0, .inl x, l2, l3, l4, l5, l6, l7] (.inl x :: S) σ Q := pLdN (k := 1) f_203_73 rfl rfl rfl
theorem f_203_74 : oFet 203 74 = some (.iload_n 2, 1) := by decide +kernel
theorem s_203_74 {d : Nat} {l0 l1 l3 l4 l5 l6 l7 : oV} {x : Int} {S : List oV} {σ : oSg} {Q : Option oV → (Nat → oC) → Prop} : oE d 203 74 [l0, l1, .inl x, l3, l4, l5, l6, l7] S σ Q = oE d 203 75 [l0, l1, .inl x, l3, l4, l5, l6, l7] (.inl x :: S) σ Q := pLdN (k := 2) f_203_74 rfl rfl rfl
theorem f_203_75 : oFet 203 75 = some (.iload 4, 2) := by decide +kernel
theorem s_203_75 {d : Nat} {l0 l1 l2 l3 l5 l6 l7 : oV} {x : Int} {S : List oV} {σ : oSg} {Q : Option oV → (Nat → oC) → Prop} : oE d 203 75 [l0, l1, l2, l3, .inl x, l5, l6, l7] S σ Q = oE d 203 77 [l0, l1, l2, l3, .inl x, l5, l6, l7] (.inl x :: S) σ Q := pLd (i := 4) f_203_75 rfl rfl rfl
theorem f_203_77 : oFet 203 77 = some (.invokevirtual 83, 3) := by decide +kernel
theorem c_203_77 {d : Nat} {l0 l1 l2 l3 l4 l5 l6 l7 : oV} {x0 x1 x2 : oV} {a : Nat} {v : Option oV} {τ : oSg} {S : List oV} {σ : oSg} {Q : Option oV → (Nat → oC) → Prop} (hm : oMi d 148 [.inr (.inr (.inl a)), x0, x1, x2] σ v τ) (hk : oKd a = some 11) (hs : oSmall S = true) : oE d 203 77 [l0, l1, l2, l3, l4, l5, l6, l7] (x2 :: x1 :: x0 :: .inr (.inr (.inl a)) :: S) σ Q = oE d 203 80 [l0, l1, l2, l3, l4, l5, l6, l7] (v.toList ++ S) τ Q := pCallV f_203_77 ow_203 lk_11_83 mt_148 rfl rfl rfl hk hs hm
theorem f_203_80 : oFet 203 80 = some (.iload_n 3, 1) := by decide +kernel
theorem s_203_80 {d : Nat} {l0 l1 l2 l4 l5 l6 l7 : oV} {x : Int} {S : List oV} {σ : oSg} {Q : Option oV → (Nat → oC) → Prop} : oE d 203 80 [l0, l1, l2, .inl x, l4, l5, l6, l7] S σ Q = oE d 203 81 [l0, l1, l2, .inl x, l4, l5, l6, l7] (.inl x :: S) σ Q := pLdN (k := 3) f_203_80 rfl rfl rfl
theorem f_203_81 : oFet 203 81 = some (.ifCond .ne 8, 3) := by decide +kernel
theorem s_203_81 {d : Nat} {l0 l1 l2 l3 l4 l5 l6 l7 : oV} {x : Int} {S : List oV} {σ : oSg} {Q : Option oV → (Nat → oC) → Prop} : oE d 203 81 [l0, l1, l2, l3, l4, l5, l6, l7] (.inl x :: S) σ Q = if ¬ x = 0 then oE d 203 89 [l0, l1, l2, l3, l4, l5, l6, l7] S σ Q else oE d 203 84 [l0, l1, l2, l3, l4, l5, l6, l7] S σ Q := oIfNe f_203_81 (by decide)
theorem f_203_84 : oFet 203 84 = some (.iload 5, 2) := by decide +kernel
theorem s_203_84 {d : Nat} {l0 l1 l2 l3 l4 l6 l7 : oV} {x : Int} {S : List oV} {σ : oSg} {Q : Option oV → (Nat → oC) → Prop} : oE d 203 84 [l0, l1, l2, l3, l4, .inl x, l6, l7] S σ Q = oE d 203 86 [l0, l1, l2, l3, l4, .inl x, l6, l7] (.inl x :: S) σ Q := pLd (i := 5) f_203_84 rfl rfl rfl
theorem f_203_86 : oFet 203 86 = some (.goto 5, 3) := by decide +kernel
theorem s_203_86 {d : Nat} {l0 l1 l2 l3 l4 l5 l6 l7 : oV} {S : List oV} {σ : oSg} {Q : Option oV → (Nat → oC) → Prop} : oE d 203 86 [l0, l1, l2, l3, l4, l5, l6, l7] S σ Q = oE d 203 91 [l0, l1, l2, l3, l4, l5, l6, l7] S σ Q := pGoto f_203_86 (by decide)
theorem f_203_89 : oFet 203 89 = some (.iload 6, 2) := by decide +kernel
theorem s_203_89 {d : Nat} {l0 l1 l2 l3 l4 l5 l7 : oV} {x : Int} {S : List oV} {σ : oSg} {Q : Option oV → (Nat → oC) → Prop} : oE d 203 89 [l0, l1, l2, l3, l4, l5, .inl x, l7] S σ Q = oE d 203 91 [l0, l1, l2, l3, l4, l5, .inl x, l7] (.inl x :: S) σ Q := pLd (i := 6) f_203_89 rfl rfl rfl
theorem f_203_91 : oFet 203 91 = some (.ireturn, 1) := by decide +kernel
theorem s_203_91 {d : Nat} {l0 l1 l2 l3 l4 l5 l6 l7 : oV} {x : Int} {σ : oSg} {Q : Option oV → (Nat → oC) → Prop} : oE d 203 91 [l0, l1, l2, l3, l4, l5, l6, l7] [.inl x] σ Q = Q (some (.inl x)) (oBld σ) := oIret f_203_91 rt_203
theorem ow_204 : (oMt 204).2.2.2.2.1 = 11 := by decide +kernel
theorem rt_204 : (oMt 204).2.2.2.1 = some .boolean := by decide +kernel
theorem nl_204 : (oMt 204).2.2.1 = 2 := by decide +kernel
theorem f_204_0 : oFet 204 0 = some (.aload_n 0, 1) := by decide +kernel
theorem s_204_0 {d : Nat} {l1 : oV} {a : Nat} {S : List oV} {σ : oSg} {Q : Option oV → (Nat → oC) → Prop} : oE d 204 0 [.inr (.inr (.inl a)), l1] S σ Q = oE d 204 1 [.inr (.inr (.inl a)), l1] (.inr (.inr (.inl a)) :: S) σ Q := pLdN (k := 0) f_204_0 rfl rfl rfl
theorem f_204_1 : oFet 204 1 = some (.iconst 0, 1) := by decide +kernel
theorem s_204_1 {d : Nat} {l0 l1 : oV} {S : List oV} {σ : oSg} {Q : Option oV → (Nat → oC) → Prop} : oE d 204 1 [l0, l1] S σ Q = oE d 204 2 [l0, l1] (.inl (0) :: S) σ Q := pKst f_204_1 (by decide)
theorem f_204_2 : oFet 204 2 = some (.iconst (-1), 1) := by decide +kernel
theorem s_204_2 {d : Nat} {l0 l1 : oV} {S : List oV} {σ : oSg} {Q : Option oV → (Nat → oC) → Prop} : oE d 204 2 [l0, l1] S σ Q = oE d 204 3 [l0, l1] (.inl (-1) :: S) σ Q := pKst f_204_2 (by decide)
theorem f_204_3 : oFet 204 3 = some (.invokevirtual 105, 3) := by decide +kernel
theorem c_204_3 {d : Nat} {l0 l1 : oV} {x0 x1 : oV} {a : Nat} {v : Option oV} {τ : oSg} {S : List oV} {σ : oSg} {Q : Option oV → (Nat → oC) → Prop} (hm : oMi d 159 [.inr (.inr (.inl a)), x0, x1] σ v τ) (hk : oKd a = some 11) (hs : oSmall S = true) : oE d 204 3 [l0, l1] (x1 :: x0 :: .inr (.inr (.inl a)) :: S) σ Q = oE d 204 6 [l0, l1] (v.toList ++ S) τ Q := pCallV f_204_3 ow_204 lk_11_105 mt_159 rfl rfl rfl hk hs hm
theorem f_204_6 : oFet 204 6 = some (.iconst 0, 1) := by decide +kernel
theorem s_204_6 {d : Nat} {l0 l1 : oV} {S : List oV} {σ : oSg} {Q : Option oV → (Nat → oC) → Prop} : oE d 204 6 [l0, l1] S σ Q = oE d 204 7 [l0, l1] (.inl (0) :: S) σ Q := pKst f_204_6 (by decide)
theorem f_204_7 : oFet 204 7 = some (.istore_n 1, 1) := by decide +kernel
theorem s_204_7 {d : Nat} {l0 l1 : oV} {x : Int} {S : List oV} {σ : oSg} {Q : Option oV → (Nat → oC) → Prop} (c1 : oCat l1 = 1) (c0 : oCat l0 = 1)  : oE d 204 7 [l0, l1] (.inl x :: S) σ Q = oE d 204 8 [l0, .inl x] S σ Q := pSt (i := 1) f_204_7 rfl rfl (show (1 : Nat) < 2 by decide) (oC1n c0) (oC1n c1) rfl
theorem f_204_8 : oFet 204 8 = some (.iload_n 1, 1) := by decide +kernel
theorem s_204_8 {d : Nat} {l0 : oV} {x : Int} {S : List oV} {σ : oSg} {Q : Option oV → (Nat → oC) → Prop} : oE d 204 8 [l0, .inl x] S σ Q = oE d 204 9 [l0, .inl x] (.inl x :: S) σ Q := pLdN (k := 1) f_204_8 rfl rfl rfl
theorem f_204_9 : oFet 204 9 = some (.aload_n 0, 1) := by decide +kernel
theorem s_204_9 {d : Nat} {l1 : oV} {a : Nat} {S : List oV} {σ : oSg} {Q : Option oV → (Nat → oC) → Prop} : oE d 204 9 [.inr (.inr (.inl a)), l1] S σ Q = oE d 204 10 [.inr (.inr (.inl a)), l1] (.inr (.inr (.inl a)) :: S) σ Q := pLdN (k := 0) f_204_9 rfl rfl rfl
theorem f_204_10 : oFet 204 10 = some (.getfield 11, 3) := by decide +kernel
theorem s_204_10 {d : Nat} {l0 l1 : oV} {a : Nat} {S : List oV} {σ : oSg} {Q : Option oV → (Nat → oC) → Prop} (hk : oKd a = some 11) : oE d 204 10 [l0, l1] (.inr (.inr (.inl a)) :: S) σ Q = oE d 204 13 [l0, l1] (.inr (.inr (.inl (oRf a 0))) :: S) σ Q := pGfR f_204_10 ow_204 fl_11_11 rfl (by decide) hk
theorem f_204_13 : oFet 204 13 = some (.bipush 71, 2) := by decide +kernel
theorem s_204_13 {d : Nat} {l0 l1 : oV} {S : List oV} {σ : oSg} {Q : Option oV → (Nat → oC) → Prop} : oE d 204 13 [l0, l1] S σ Q = oE d 204 15 [l0, l1] (.inl (71) :: S) σ Q := pBip f_204_13 (by decide)
theorem f_204_15 : oFet 204 15 = some (.iaload, 1) := by decide +kernel
theorem s_204_15 {d : Nat} {l0 l1 : oV} {a : Nat} {i : Int} {S : List oV} {σ : oSg} {Q : Option oV → (Nat → oC) → Prop} (hk : oAk a = some 0) (h0 : 0 ≤ i) (h1 : i < (oLn a : Int)) : oE d 204 15 [l0, l1] (.inl i :: .inr (.inr (.inl a)) :: S) σ Q = oE d 204 16 [l0, l1] (.inl (σ.2 a i.toNat) :: S) σ Q := oIal f_204_15 hk h0 h1
theorem f_204_16 : oFet 204 16 = some (.if_icmp .ge 37, 3) := by decide +kernel
theorem s_204_16 {d : Nat} {l0 l1 : oV} {x y : Int} {S : List oV} {σ : oSg} {Q : Option oV → (Nat → oC) → Prop} : oE d 204 16 [l0, l1] (.inl y :: .inl x :: S) σ Q = if y ≤ x then oE d 204 53 [l0, l1] S σ Q else oE d 204 19 [l0, l1] S σ Q := oCmpGe f_204_16 (by decide)
theorem f_204_19 : oFet 204 19 = some (.aload_n 0, 1) := by decide +kernel
theorem s_204_19 {d : Nat} {l1 : oV} {a : Nat} {S : List oV} {σ : oSg} {Q : Option oV → (Nat → oC) → Prop} : oE d 204 19 [.inr (.inr (.inl a)), l1] S σ Q = oE d 204 20 [.inr (.inr (.inl a)), l1] (.inr (.inr (.inl a)) :: S) σ Q := pLdN (k := 0) f_204_19 rfl rfl rfl
theorem f_204_20 : oFet 204 20 = some (.getfield 33, 3) := by decide +kernel
theorem s_204_20 {d : Nat} {l0 l1 : oV} {a : Nat} {S : List oV} {σ : oSg} {Q : Option oV → (Nat → oC) → Prop} (hk : oKd a = some 11) : oE d 204 20 [l0, l1] (.inr (.inr (.inl a)) :: S) σ Q = oE d 204 23 [l0, l1] (.inr (.inr (.inl (oRf a 13))) :: S) σ Q := pGfR f_204_20 ow_204 fl_11_33 rfl (by decide) hk
theorem f_204_23 : oFet 204 23 = some (.aload_n 0, 1) := by decide +kernel
theorem s_204_23 {d : Nat} {l1 : oV} {a : Nat} {S : List oV} {σ : oSg} {Q : Option oV → (Nat → oC) → Prop} : oE d 204 23 [.inr (.inr (.inl a)), l1] S σ Q = oE d 204 24 [.inr (.inr (.inl a)), l1] (.inr (.inr (.inl a)) :: S) σ Q := pLdN (k := 0) f_204_23 rfl rfl rfl
theorem f_204_24 : oFet 204 24 = some (.getfield 11, 3) := by decide +kernel
theorem s_204_24 {d : Nat} {l0 l1 : oV} {a : Nat} {S : List oV} {σ : oSg} {Q : Option oV → (Nat → oC) → Prop} (hk : oKd a = some 11) : oE d 204 24 [l0, l1] (.inr (.inr (.inl a)) :: S) σ Q = oE d 204 27 [l0, l1] (.inr (.inr (.inl (oRf a 0))) :: S) σ Q := pGfR f_204_24 ow_204 fl_11_11 rfl (by decide) hk
theorem f_204_27 : oFet 204 27 = some (.bipush 72, 2) := by decide +kernel
theorem s_204_27 {d : Nat} {l0 l1 : oV} {S : List oV} {σ : oSg} {Q : Option oV → (Nat → oC) → Prop} : oE d 204 27 [l0, l1] S σ Q = oE d 204 29 [l0, l1] (.inl (72) :: S) σ Q := pBip f_204_27 (by decide)
theorem f_204_29 : oFet 204 29 = some (.iload_n 1, 1) := by decide +kernel
theorem s_204_29 {d : Nat} {l0 : oV} {x : Int} {S : List oV} {σ : oSg} {Q : Option oV → (Nat → oC) → Prop} : oE d 204 29 [l0, .inl x] S σ Q = oE d 204 30 [l0, .inl x] (.inl x :: S) σ Q := pLdN (k := 1) f_204_29 rfl rfl rfl
theorem f_204_30 : oFet 204 30 = some (.iadd, 1) := by decide +kernel
theorem s_204_30 {d : Nat} {l0 l1 : oV} {x y : Int} {S : List oV} {σ : oSg} {Q : Option oV → (Nat → oC) → Prop} : oE d 204 30 [l0, l1] (.inl y :: .inl x :: S) σ Q = oE d 204 31 [l0, l1] (.inl (oAdd x y) :: S) σ Q := oS3 f_204_30 rfl rfl rfl
theorem f_204_31 : oFet 204 31 = some (.iaload, 1) := by decide +kernel
theorem s_204_31 {d : Nat} {l0 l1 : oV} {a : Nat} {i : Int} {S : List oV} {σ : oSg} {Q : Option oV → (Nat → oC) → Prop} (hk : oAk a = some 0) (h0 : 0 ≤ i) (h1 : i < (oLn a : Int)) : oE d 204 31 [l0, l1] (.inl i :: .inr (.inr (.inl a)) :: S) σ Q = oE d 204 32 [l0, l1] (.inl (σ.2 a i.toNat) :: S) σ Q := oIal f_204_31 hk h0 h1
theorem f_204_32 : oFet 204 32 = some (.iaload, 1) := by decide +kernel
theorem s_204_32 {d : Nat} {l0 l1 : oV} {a : Nat} {i : Int} {S : List oV} {σ : oSg} {Q : Option oV → (Nat → oC) → Prop} (hk : oAk a = some 0) (h0 : 0 ≤ i) (h1 : i < (oLn a : Int)) : oE d 204 32 [l0, l1] (.inl i :: .inr (.inr (.inl a)) :: S) σ Q = oE d 204 33 [l0, l1] (.inl (σ.2 a i.toNat) :: S) σ Q := oIal f_204_32 hk h0 h1
theorem f_204_33 : oFet 204 33 = some (.aload_n 0, 1) := by decide +kernel
theorem s_204_33 {d : Nat} {l1 : oV} {a : Nat} {S : List oV} {σ : oSg} {Q : Option oV → (Nat → oC) → Prop} : oE d 204 33 [.inr (.inr (.inl a)), l1] S σ Q = oE d 204 34 [.inr (.inr (.inl a)), l1] (.inr (.inr (.inl a)) :: S) σ Q := pLdN (k := 0) f_204_33 rfl rfl rfl
theorem f_204_34 : oFet 204 34 = some (.getfield 11, 3) := by decide +kernel
theorem s_204_34 {d : Nat} {l0 l1 : oV} {a : Nat} {S : List oV} {σ : oSg} {Q : Option oV → (Nat → oC) → Prop} (hk : oKd a = some 11) : oE d 204 34 [l0, l1] (.inr (.inr (.inl a)) :: S) σ Q = oE d 204 37 [l0, l1] (.inr (.inr (.inl (oRf a 0))) :: S) σ Q := pGfR f_204_34 ow_204 fl_11_11 rfl (by decide) hk
theorem f_204_37 : oFet 204 37 = some (.bipush 77, 2) := by decide +kernel
theorem s_204_37 {d : Nat} {l0 l1 : oV} {S : List oV} {σ : oSg} {Q : Option oV → (Nat → oC) → Prop} : oE d 204 37 [l0, l1] S σ Q = oE d 204 39 [l0, l1] (.inl (77) :: S) σ Q := pBip f_204_37 (by decide)
theorem f_204_39 : oFet 204 39 = some (.iload_n 1, 1) := by decide +kernel
theorem s_204_39 {d : Nat} {l0 : oV} {x : Int} {S : List oV} {σ : oSg} {Q : Option oV → (Nat → oC) → Prop} : oE d 204 39 [l0, .inl x] S σ Q = oE d 204 40 [l0, .inl x] (.inl x :: S) σ Q := pLdN (k := 1) f_204_39 rfl rfl rfl
theorem f_204_40 : oFet 204 40 = some (.iadd, 1) := by decide +kernel
theorem s_204_40 {d : Nat} {l0 l1 : oV} {x y : Int} {S : List oV} {σ : oSg} {Q : Option oV → (Nat → oC) → Prop} : oE d 204 40 [l0, l1] (.inl y :: .inl x :: S) σ Q = oE d 204 41 [l0, l1] (.inl (oAdd x y) :: S) σ Q := oS3 f_204_40 rfl rfl rfl
theorem f_204_41 : oFet 204 41 = some (.iaload, 1) := by decide +kernel
theorem s_204_41 {d : Nat} {l0 l1 : oV} {a : Nat} {i : Int} {S : List oV} {σ : oSg} {Q : Option oV → (Nat → oC) → Prop} (hk : oAk a = some 0) (h0 : 0 ≤ i) (h1 : i < (oLn a : Int)) : oE d 204 41 [l0, l1] (.inl i :: .inr (.inr (.inl a)) :: S) σ Q = oE d 204 42 [l0, l1] (.inl (σ.2 a i.toNat) :: S) σ Q := oIal f_204_41 hk h0 h1
theorem f_204_42 : oFet 204 42 = some (.if_icmp .eq 5, 3) := by decide +kernel
theorem s_204_42 {d : Nat} {l0 l1 : oV} {x y : Int} {S : List oV} {σ : oSg} {Q : Option oV → (Nat → oC) → Prop} : oE d 204 42 [l0, l1] (.inl y :: .inl x :: S) σ Q = if x = y then oE d 204 47 [l0, l1] S σ Q else oE d 204 45 [l0, l1] S σ Q := oCmpEq f_204_42 (by decide)
theorem f_204_45 : oFet 204 45 = some (.iconst 0, 1) := by decide +kernel
theorem s_204_45 {d : Nat} {l0 l1 : oV} {S : List oV} {σ : oSg} {Q : Option oV → (Nat → oC) → Prop} : oE d 204 45 [l0, l1] S σ Q = oE d 204 46 [l0, l1] (.inl (0) :: S) σ Q := pKst f_204_45 (by decide)
theorem f_204_46 : oFet 204 46 = some (.ireturn, 1) := by decide +kernel
theorem s_204_46 {d : Nat} {l0 l1 : oV} {x : Int} {σ : oSg} {Q : Option oV → (Nat → oC) → Prop} (hx : x = 0 ∨ x = 1) : oE d 204 46 [l0, l1] [.inl x] σ Q = Q (some (.inl x)) (oBld σ) := oZret f_204_46 rt_204 hx
theorem f_204_47 : oFet 204 47 = some (.iinc 1 1, 3) := by decide +kernel
theorem s_204_47 {d : Nat} {l0 : oV} {x : Int} {S : List oV} {σ : oSg} {Q : Option oV → (Nat → oC) → Prop} (c0 : oCat l0 = 1)  : oE d 204 47 [l0, .inl x] S σ Q = oE d 204 50 [l0, .inl (oAdd x (1))] S σ Q := pInc f_204_47 rfl (show (1 : Nat) < 2 by decide) (oC1n c0) (oC1n (v := .inl x) rfl) rfl
theorem f_204_50 : oFet 204 50 = some (.goto (-42), 3) := by decide +kernel
theorem s_204_50 {d : Nat} {l0 l1 : oV} {S : List oV} {σ : oSg} {Q : Option oV → (Nat → oC) → Prop} : oE d 204 50 [l0, l1] S σ Q = oE d 204 8 [l0, l1] S σ Q := pGoto f_204_50 (by decide)
theorem f_204_53 : oFet 204 53 = some (.iconst 1, 1) := by decide +kernel
theorem s_204_53 {d : Nat} {l0 l1 : oV} {S : List oV} {σ : oSg} {Q : Option oV → (Nat → oC) → Prop} : oE d 204 53 [l0, l1] S σ Q = oE d 204 54 [l0, l1] (.inl (1) :: S) σ Q := pKst f_204_53 (by decide)
theorem f_204_54 : oFet 204 54 = some (.ireturn, 1) := by decide +kernel
theorem s_204_54 {d : Nat} {l0 l1 : oV} {x : Int} {σ : oSg} {Q : Option oV → (Nat → oC) → Prop} (hx : x = 0 ∨ x = 1) : oE d 204 54 [l0, l1] [.inl x] σ Q = Q (some (.inl x)) (oBld σ) := oZret f_204_54 rt_204 hx
theorem ow_205 : (oMt 205).2.2.2.2.1 = 11 := by decide +kernel
theorem rt_205 : (oMt 205).2.2.2.1 = some .long := by decide +kernel
theorem nl_205 : (oMt 205).2.2.1 = 7 := by decide +kernel
theorem f_205_0 : oFet 205 0 = some (.aload_n 0, 1) := by decide +kernel
theorem s_205_0 {d : Nat} {l1 l2 l3 l4 l5 l6 : oV} {a : Nat} {S : List oV} {σ : oSg} {Q : Option oV → (Nat → oC) → Prop} : oE d 205 0 [.inr (.inr (.inl a)), l1, l2, l3, l4, l5, l6] S σ Q = oE d 205 1 [.inr (.inr (.inl a)), l1, l2, l3, l4, l5, l6] (.inr (.inr (.inl a)) :: S) σ Q := pLdN (k := 0) f_205_0 rfl rfl rfl
theorem f_205_1 : oFet 205 1 = some (.iload_n 1, 1) := by decide +kernel
theorem s_205_1 {d : Nat} {l0 l2 l3 l4 l5 l6 : oV} {x : Int} {S : List oV} {σ : oSg} {Q : Option oV → (Nat → oC) → Prop} : oE d 205 1 [l0, .inl x, l2, l3, l4, l5, l6] S σ Q = oE d 205 2 [l0, .inl x, l2, l3, l4, l5, l6] (.inl x :: S) σ Q := pLdN (k := 1) f_205_1 rfl rfl rfl
theorem f_205_2 : oFet 205 2 = some (.iload_n 2, 1) := by decide +kernel
theorem s_205_2 {d : Nat} {l0 l1 l3 l4 l5 l6 : oV} {x : Int} {S : List oV} {σ : oSg} {Q : Option oV → (Nat → oC) → Prop} : oE d 205 2 [l0, l1, .inl x, l3, l4, l5, l6] S σ Q = oE d 205 3 [l0, l1, .inl x, l3, l4, l5, l6] (.inl x :: S) σ Q := pLdN (k := 2) f_205_2 rfl rfl rfl
theorem f_205_3 : oFet 205 3 = some (.invokevirtual 79, 3) := by decide +kernel
theorem c_205_3 {d : Nat} {l0 l1 l2 l3 l4 l5 l6 : oV} {x0 x1 : oV} {a : Nat} {v : Option oV} {τ : oSg} {S : List oV} {σ : oSg} {Q : Option oV → (Nat → oC) → Prop} (hm : oMi d 144 [.inr (.inr (.inl a)), x0, x1] σ v τ) (hk : oKd a = some 11) (hs : oSmall S = true) : oE d 205 3 [l0, l1, l2, l3, l4, l5, l6] (x1 :: x0 :: .inr (.inr (.inl a)) :: S) σ Q = oE d 205 6 [l0, l1, l2, l3, l4, l5, l6] (v.toList ++ S) τ Q := pCallV f_205_3 ow_205 lk_11_79 mt_144 rfl rfl rfl hk hs hm
theorem f_205_6 : oFet 205 6 = some (.ifCond .eq 12, 3) := by decide +kernel
theorem s_205_6 {d : Nat} {l0 l1 l2 l3 l4 l5 l6 : oV} {x : Int} {S : List oV} {σ : oSg} {Q : Option oV → (Nat → oC) → Prop} : oE d 205 6 [l0, l1, l2, l3, l4, l5, l6] (.inl x :: S) σ Q = if x = 0 then oE d 205 18 [l0, l1, l2, l3, l4, l5, l6] S σ Q else oE d 205 9 [l0, l1, l2, l3, l4, l5, l6] S σ Q := oIfEq f_205_6 (by decide)
theorem f_205_9 : oFet 205 9 = some (.iload_n 3, 1) := by decide +kernel
theorem s_205_9 {d : Nat} {l0 l1 l2 l4 l5 l6 : oV} {x : Int} {S : List oV} {σ : oSg} {Q : Option oV → (Nat → oC) → Prop} : oE d 205 9 [l0, l1, l2, .inl x, l4, l5, l6] S σ Q = oE d 205 10 [l0, l1, l2, .inl x, l4, l5, l6] (.inl x :: S) σ Q := pLdN (k := 3) f_205_9 rfl rfl rfl
theorem f_205_10 : oFet 205 10 = some (.iconst 0, 1) := by decide +kernel
theorem s_205_10 {d : Nat} {l0 l1 l2 l3 l4 l5 l6 : oV} {S : List oV} {σ : oSg} {Q : Option oV → (Nat → oC) → Prop} : oE d 205 10 [l0, l1, l2, l3, l4, l5, l6] S σ Q = oE d 205 11 [l0, l1, l2, l3, l4, l5, l6] (.inl (0) :: S) σ Q := pKst f_205_10 (by decide)
theorem f_205_11 : oFet 205 11 = some (.iconst 1, 1) := by decide +kernel
theorem s_205_11 {d : Nat} {l0 l1 l2 l3 l4 l5 l6 : oV} {S : List oV} {σ : oSg} {Q : Option oV → (Nat → oC) → Prop} : oE d 205 11 [l0, l1, l2, l3, l4, l5, l6] S σ Q = oE d 205 12 [l0, l1, l2, l3, l4, l5, l6] (.inl (1) :: S) σ Q := pKst f_205_11 (by decide)
theorem f_205_12 : oFet 205 12 = some (.invokestatic 57, 3) := by decide +kernel
theorem c_205_12 {d : Nat} {l0 l1 l2 l3 l4 l5 l6 : oV} {x0 x1 x2 : oV} {v : Option oV} {τ : oSg} {S : List oV} {σ : oSg} {Q : Option oV → (Nat → oC) → Prop} (hm : oMi d 146 [x0, x1, x2] σ v τ) (hs : oSmall S = true) : oE d 205 12 [l0, l1, l2, l3, l4, l5, l6] (x2 :: x1 :: x0 :: S) σ Q = oE d 205 15 [l0, l1, l2, l3, l4, l5, l6] (v.toList ++ S) τ Q := pCallS f_205_12 ow_205 lk_11_57 mt_146 rfl rfl rfl hs hm
theorem f_205_15 : oFet 205 15 = some (.ifCond .ne 7, 3) := by decide +kernel
theorem s_205_15 {d : Nat} {l0 l1 l2 l3 l4 l5 l6 : oV} {x : Int} {S : List oV} {σ : oSg} {Q : Option oV → (Nat → oC) → Prop} : oE d 205 15 [l0, l1, l2, l3, l4, l5, l6] (.inl x :: S) σ Q = if ¬ x = 0 then oE d 205 22 [l0, l1, l2, l3, l4, l5, l6] S σ Q else oE d 205 18 [l0, l1, l2, l3, l4, l5, l6] S σ Q := oIfNe f_205_15 (by decide)
theorem f_205_18 : oFet 205 18 = some (.ldc2_w 245, 3) := by decide +kernel
theorem s_205_18 {d : Nat} {l0 l1 l2 l3 l4 l5 l6 : oV} {S : List oV} {σ : oSg} {Q : Option oV → (Nat → oC) → Prop} : oE d 205 18 [l0, l1, l2, l3, l4, l5, l6] S σ Q = oE d 205 21 [l0, l1, l2, l3, l4, l5, l6] (.inr (.inl (-9223372036854775808)) :: S) σ Q := pLdc2 f_205_18 ow_205 (by decide +kernel)
theorem f_205_21 : oFet 205 21 = some (.lreturn, 1) := by decide +kernel
theorem s_205_21 {d : Nat} {l0 l1 l2 l3 l4 l5 l6 : oV} {x : Int} {σ : oSg} {Q : Option oV → (Nat → oC) → Prop} : oE d 205 21 [l0, l1, l2, l3, l4, l5, l6] [.inr (.inl x)] σ Q = Q (some (.inr (.inl x))) (oBld σ) := oLret f_205_21 rt_205
theorem f_205_22 : oFet 205 22 = some (.aload_n 0, 1) := by decide +kernel
theorem s_205_22 {d : Nat} {l1 l2 l3 l4 l5 l6 : oV} {a : Nat} {S : List oV} {σ : oSg} {Q : Option oV → (Nat → oC) → Prop} : oE d 205 22 [.inr (.inr (.inl a)), l1, l2, l3, l4, l5, l6] S σ Q = oE d 205 23 [.inr (.inr (.inl a)), l1, l2, l3, l4, l5, l6] (.inr (.inr (.inl a)) :: S) σ Q := pLdN (k := 0) f_205_22 rfl rfl rfl
theorem f_205_23 : oFet 205 23 = some (.iload_n 1, 1) := by decide +kernel
theorem s_205_23 {d : Nat} {l0 l2 l3 l4 l5 l6 : oV} {x : Int} {S : List oV} {σ : oSg} {Q : Option oV → (Nat → oC) → Prop} : oE d 205 23 [l0, .inl x, l2, l3, l4, l5, l6] S σ Q = oE d 205 24 [l0, .inl x, l2, l3, l4, l5, l6] (.inl x :: S) σ Q := pLdN (k := 1) f_205_23 rfl rfl rfl
theorem f_205_24 : oFet 205 24 = some (.iload_n 2, 1) := by decide +kernel
theorem s_205_24 {d : Nat} {l0 l1 l3 l4 l5 l6 : oV} {x : Int} {S : List oV} {σ : oSg} {Q : Option oV → (Nat → oC) → Prop} : oE d 205 24 [l0, l1, .inl x, l3, l4, l5, l6] S σ Q = oE d 205 25 [l0, l1, .inl x, l3, l4, l5, l6] (.inl x :: S) σ Q := pLdN (k := 2) f_205_24 rfl rfl rfl
theorem f_205_25 : oFet 205 25 = some (.invokevirtual 65, 3) := by decide +kernel
theorem c_205_25 {d : Nat} {l0 l1 l2 l3 l4 l5 l6 : oV} {x0 x1 : oV} {a : Nat} {v : Option oV} {τ : oSg} {S : List oV} {σ : oSg} {Q : Option oV → (Nat → oC) → Prop} (hm : oMi d 147 [.inr (.inr (.inl a)), x0, x1] σ v τ) (hk : oKd a = some 11) (hs : oSmall S = true) : oE d 205 25 [l0, l1, l2, l3, l4, l5, l6] (x1 :: x0 :: .inr (.inr (.inl a)) :: S) σ Q = oE d 205 28 [l0, l1, l2, l3, l4, l5, l6] (v.toList ++ S) τ Q := pCallV f_205_25 ow_205 lk_11_65 mt_147 rfl rfl rfl hk hs hm
theorem f_205_28 : oFet 205 28 = some (.istore 4, 2) := by decide +kernel
theorem s_205_28 {d : Nat} {l0 l1 l2 l3 l4 l5 l6 : oV} {x : Int} {S : List oV} {σ : oSg} {Q : Option oV → (Nat → oC) → Prop} (c4 : oCat l4 = 1) (c3 : oCat l3 = 1)  : oE d 205 28 [l0, l1, l2, l3, l4, l5, l6] (.inl x :: S) σ Q = oE d 205 30 [l0, l1, l2, l3, .inl x, l5, l6] S σ Q := pSt (i := 4) f_205_28 rfl rfl (show (4 : Nat) < 7 by decide) (oC1n c3) (oC1n c4) rfl
theorem f_205_30 : oFet 205 30 = some (.iconst 0, 1) := by decide +kernel
theorem s_205_30 {d : Nat} {l0 l1 l2 l3 l4 l5 l6 : oV} {S : List oV} {σ : oSg} {Q : Option oV → (Nat → oC) → Prop} : oE d 205 30 [l0, l1, l2, l3, l4, l5, l6] S σ Q = oE d 205 31 [l0, l1, l2, l3, l4, l5, l6] (.inl (0) :: S) σ Q := pKst f_205_30 (by decide)
theorem f_205_31 : oFet 205 31 = some (.istore 5, 2) := by decide +kernel
theorem s_205_31 {d : Nat} {l0 l1 l2 l3 l4 l5 l6 : oV} {x : Int} {S : List oV} {σ : oSg} {Q : Option oV → (Nat → oC) → Prop} (c5 : oCat l5 = 1) (c4 : oCat l4 = 1)  : oE d 205 31 [l0, l1, l2, l3, l4, l5, l6] (.inl x :: S) σ Q = oE d 205 33 [l0, l1, l2, l3, l4, .inl x, l6] S σ Q := pSt (i := 5) f_205_31 rfl rfl (show (5 : Nat) < 7 by decide) (oC1n c4) (oC1n c5) rfl
theorem f_205_33 : oFet 205 33 = some (.iconst 0, 1) := by decide +kernel
theorem s_205_33 {d : Nat} {l0 l1 l2 l3 l4 l5 l6 : oV} {S : List oV} {σ : oSg} {Q : Option oV → (Nat → oC) → Prop} : oE d 205 33 [l0, l1, l2, l3, l4, l5, l6] S σ Q = oE d 205 34 [l0, l1, l2, l3, l4, l5, l6] (.inl (0) :: S) σ Q := pKst f_205_33 (by decide)
theorem f_205_34 : oFet 205 34 = some (.istore 6, 2) := by decide +kernel
theorem s_205_34 {d : Nat} {l0 l1 l2 l3 l4 l5 l6 : oV} {x : Int} {S : List oV} {σ : oSg} {Q : Option oV → (Nat → oC) → Prop} (c6 : oCat l6 = 1) (c5 : oCat l5 = 1)  : oE d 205 34 [l0, l1, l2, l3, l4, l5, l6] (.inl x :: S) σ Q = oE d 205 36 [l0, l1, l2, l3, l4, l5, .inl x] S σ Q := pSt (i := 6) f_205_34 rfl rfl (show (6 : Nat) < 7 by decide) (oC1n c5) (oC1n c6) rfl
theorem f_205_36 : oFet 205 36 = some (.iload 6, 2) := by decide +kernel
theorem s_205_36 {d : Nat} {l0 l1 l2 l3 l4 l5 : oV} {x : Int} {S : List oV} {σ : oSg} {Q : Option oV → (Nat → oC) → Prop} : oE d 205 36 [l0, l1, l2, l3, l4, l5, .inl x] S σ Q = oE d 205 38 [l0, l1, l2, l3, l4, l5, .inl x] (.inl x :: S) σ Q := pLd (i := 6) f_205_36 rfl rfl rfl
theorem f_205_38 : oFet 205 38 = some (.bipush 10, 2) := by decide +kernel
theorem s_205_38 {d : Nat} {l0 l1 l2 l3 l4 l5 l6 : oV} {S : List oV} {σ : oSg} {Q : Option oV → (Nat → oC) → Prop} : oE d 205 38 [l0, l1, l2, l3, l4, l5, l6] S σ Q = oE d 205 40 [l0, l1, l2, l3, l4, l5, l6] (.inl (10) :: S) σ Q := pBip f_205_38 (by decide)
theorem f_205_40 : oFet 205 40 = some (.if_icmp .ge 36, 3) := by decide +kernel
theorem s_205_40 {d : Nat} {l0 l1 l2 l3 l4 l5 l6 : oV} {x y : Int} {S : List oV} {σ : oSg} {Q : Option oV → (Nat → oC) → Prop} : oE d 205 40 [l0, l1, l2, l3, l4, l5, l6] (.inl y :: .inl x :: S) σ Q = if y ≤ x then oE d 205 76 [l0, l1, l2, l3, l4, l5, l6] S σ Q else oE d 205 43 [l0, l1, l2, l3, l4, l5, l6] S σ Q := oCmpGe f_205_40 (by decide)
theorem f_205_43 : oFet 205 43 = some (.aload_n 0, 1) := by decide +kernel
theorem s_205_43 {d : Nat} {l1 l2 l3 l4 l5 l6 : oV} {a : Nat} {S : List oV} {σ : oSg} {Q : Option oV → (Nat → oC) → Prop} : oE d 205 43 [.inr (.inr (.inl a)), l1, l2, l3, l4, l5, l6] S σ Q = oE d 205 44 [.inr (.inr (.inl a)), l1, l2, l3, l4, l5, l6] (.inr (.inr (.inl a)) :: S) σ Q := pLdN (k := 0) f_205_43 rfl rfl rfl
theorem f_205_44 : oFet 205 44 = some (.iload_n 1, 1) := by decide +kernel
theorem s_205_44 {d : Nat} {l0 l2 l3 l4 l5 l6 : oV} {x : Int} {S : List oV} {σ : oSg} {Q : Option oV → (Nat → oC) → Prop} : oE d 205 44 [l0, .inl x, l2, l3, l4, l5, l6] S σ Q = oE d 205 45 [l0, .inl x, l2, l3, l4, l5, l6] (.inl x :: S) σ Q := pLdN (k := 1) f_205_44 rfl rfl rfl
theorem f_205_45 : oFet 205 45 = some (.iload_n 2, 1) := by decide +kernel
theorem s_205_45 {d : Nat} {l0 l1 l3 l4 l5 l6 : oV} {x : Int} {S : List oV} {σ : oSg} {Q : Option oV → (Nat → oC) → Prop} : oE d 205 45 [l0, l1, .inl x, l3, l4, l5, l6] S σ Q = oE d 205 46 [l0, l1, .inl x, l3, l4, l5, l6] (.inl x :: S) σ Q := pLdN (k := 2) f_205_45 rfl rfl rfl
theorem f_205_46 : oFet 205 46 = some (.iload 6, 2) := by decide +kernel
theorem s_205_46 {d : Nat} {l0 l1 l2 l3 l4 l5 : oV} {x : Int} {S : List oV} {σ : oSg} {Q : Option oV → (Nat → oC) → Prop} : oE d 205 46 [l0, l1, l2, l3, l4, l5, .inl x] S σ Q = oE d 205 48 [l0, l1, l2, l3, l4, l5, .inl x] (.inl x :: S) σ Q := pLd (i := 6) f_205_46 rfl rfl rfl
theorem f_205_48 : oFet 205 48 = some (.invokevirtual 83, 3) := by decide +kernel
theorem c_205_48 {d : Nat} {l0 l1 l2 l3 l4 l5 l6 : oV} {x0 x1 x2 : oV} {a : Nat} {v : Option oV} {τ : oSg} {S : List oV} {σ : oSg} {Q : Option oV → (Nat → oC) → Prop} (hm : oMi d 148 [.inr (.inr (.inl a)), x0, x1, x2] σ v τ) (hk : oKd a = some 11) (hs : oSmall S = true) : oE d 205 48 [l0, l1, l2, l3, l4, l5, l6] (x2 :: x1 :: x0 :: .inr (.inr (.inl a)) :: S) σ Q = oE d 205 51 [l0, l1, l2, l3, l4, l5, l6] (v.toList ++ S) τ Q := pCallV f_205_48 ow_205 lk_11_83 mt_148 rfl rfl rfl hk hs hm
theorem f_205_51 : oFet 205 51 = some (.aload_n 0, 1) := by decide +kernel
theorem s_205_51 {d : Nat} {l1 l2 l3 l4 l5 l6 : oV} {a : Nat} {S : List oV} {σ : oSg} {Q : Option oV → (Nat → oC) → Prop} : oE d 205 51 [.inr (.inr (.inl a)), l1, l2, l3, l4, l5, l6] S σ Q = oE d 205 52 [.inr (.inr (.inl a)), l1, l2, l3, l4, l5, l6] (.inr (.inr (.inl a)) :: S) σ Q := pLdN (k := 0) f_205_51 rfl rfl rfl
theorem f_205_52 : oFet 205 52 = some (.iconst 0, 1) := by decide +kernel
theorem s_205_52 {d : Nat} {l0 l1 l2 l3 l4 l5 l6 : oV} {S : List oV} {σ : oSg} {Q : Option oV → (Nat → oC) → Prop} : oE d 205 52 [l0, l1, l2, l3, l4, l5, l6] S σ Q = oE d 205 53 [l0, l1, l2, l3, l4, l5, l6] (.inl (0) :: S) σ Q := pKst f_205_52 (by decide)
theorem f_205_53 : oFet 205 53 = some (.iconst (-1), 1) := by decide +kernel
theorem s_205_53 {d : Nat} {l0 l1 l2 l3 l4 l5 l6 : oV} {S : List oV} {σ : oSg} {Q : Option oV → (Nat → oC) → Prop} : oE d 205 53 [l0, l1, l2, l3, l4, l5, l6] S σ Q = oE d 205 54 [l0, l1, l2, l3, l4, l5, l6] (.inl (-1) :: S) σ Q := pKst f_205_53 (by decide)
theorem f_205_54 : oFet 205 54 = some (.invokevirtual 105, 3) := by decide +kernel
theorem c_205_54 {d : Nat} {l0 l1 l2 l3 l4 l5 l6 : oV} {x0 x1 : oV} {a : Nat} {v : Option oV} {τ : oSg} {S : List oV} {σ : oSg} {Q : Option oV → (Nat → oC) → Prop} (hm : oMi d 159 [.inr (.inr (.inl a)), x0, x1] σ v τ) (hk : oKd a = some 11) (hs : oSmall S = true) : oE d 205 54 [l0, l1, l2, l3, l4, l5, l6] (x1 :: x0 :: .inr (.inr (.inl a)) :: S) σ Q = oE d 205 57 [l0, l1, l2, l3, l4, l5, l6] (v.toList ++ S) τ Q := pCallV f_205_54 ow_205 lk_11_105 mt_159 rfl rfl rfl hk hs hm
theorem f_205_57 : oFet 205 57 = some (.aload_n 0, 1) := by decide +kernel
theorem s_205_57 {d : Nat} {l1 l2 l3 l4 l5 l6 : oV} {a : Nat} {S : List oV} {σ : oSg} {Q : Option oV → (Nat → oC) → Prop} : oE d 205 57 [.inr (.inr (.inl a)), l1, l2, l3, l4, l5, l6] S σ Q = oE d 205 58 [.inr (.inr (.inl a)), l1, l2, l3, l4, l5, l6] (.inr (.inr (.inl a)) :: S) σ Q := pLdN (k := 0) f_205_57 rfl rfl rfl
theorem f_205_58 : oFet 205 58 = some (.getfield 33, 3) := by decide +kernel
theorem s_205_58 {d : Nat} {l0 l1 l2 l3 l4 l5 l6 : oV} {a : Nat} {S : List oV} {σ : oSg} {Q : Option oV → (Nat → oC) → Prop} (hk : oKd a = some 11) : oE d 205 58 [l0, l1, l2, l3, l4, l5, l6] (.inr (.inr (.inl a)) :: S) σ Q = oE d 205 61 [l0, l1, l2, l3, l4, l5, l6] (.inr (.inr (.inl (oRf a 13))) :: S) σ Q := pGfR f_205_58 ow_205 fl_11_33 rfl (by decide) hk
theorem f_205_61 : oFet 205 61 = some (.iload_n 1, 1) := by decide +kernel
theorem s_205_61 {d : Nat} {l0 l2 l3 l4 l5 l6 : oV} {x : Int} {S : List oV} {σ : oSg} {Q : Option oV → (Nat → oC) → Prop} : oE d 205 61 [l0, .inl x, l2, l3, l4, l5, l6] S σ Q = oE d 205 62 [l0, .inl x, l2, l3, l4, l5, l6] (.inl x :: S) σ Q := pLdN (k := 1) f_205_61 rfl rfl rfl
theorem f_205_62 : oFet 205 62 = some (.iaload, 1) := by decide +kernel
theorem s_205_62 {d : Nat} {l0 l1 l2 l3 l4 l5 l6 : oV} {a : Nat} {i : Int} {S : List oV} {σ : oSg} {Q : Option oV → (Nat → oC) → Prop} (hk : oAk a = some 0) (h0 : 0 ≤ i) (h1 : i < (oLn a : Int)) : oE d 205 62 [l0, l1, l2, l3, l4, l5, l6] (.inl i :: .inr (.inr (.inl a)) :: S) σ Q = oE d 205 63 [l0, l1, l2, l3, l4, l5, l6] (.inl (σ.2 a i.toNat) :: S) σ Q := oIal f_205_62 hk h0 h1
theorem f_205_63 : oFet 205 63 = some (.iload_n 2, 1) := by decide +kernel
theorem s_205_63 {d : Nat} {l0 l1 l3 l4 l5 l6 : oV} {x : Int} {S : List oV} {σ : oSg} {Q : Option oV → (Nat → oC) → Prop} : oE d 205 63 [l0, l1, .inl x, l3, l4, l5, l6] S σ Q = oE d 205 64 [l0, l1, .inl x, l3, l4, l5, l6] (.inl x :: S) σ Q := pLdN (k := 2) f_205_63 rfl rfl rfl
theorem f_205_64 : oFet 205 64 = some (.if_icmp .ne 6, 3) := by decide +kernel
theorem s_205_64 {d : Nat} {l0 l1 l2 l3 l4 l5 l6 : oV} {x y : Int} {S : List oV} {σ : oSg} {Q : Option oV → (Nat → oC) → Prop} : oE d 205 64 [l0, l1, l2, l3, l4, l5, l6] (.inl y :: .inl x :: S) σ Q = if ¬ x = y then oE d 205 70 [l0, l1, l2, l3, l4, l5, l6] S σ Q else oE d 205 67 [l0, l1, l2, l3, l4, l5, l6] S σ Q := oCmpNe f_205_64 (by decide)
theorem f_205_67 : oFet 205 67 = some (.iinc 5 1, 3) := by decide +kernel
theorem s_205_67 {d : Nat} {l0 l1 l2 l3 l4 l6 : oV} {x : Int} {S : List oV} {σ : oSg} {Q : Option oV → (Nat → oC) → Prop} (c4 : oCat l4 = 1)  : oE d 205 67 [l0, l1, l2, l3, l4, .inl x, l6] S σ Q = oE d 205 70 [l0, l1, l2, l3, l4, .inl (oAdd x (1)), l6] S σ Q := pInc f_205_67 rfl (show (5 : Nat) < 7 by decide) (oC1n c4) (oC1n (v := .inl x) rfl) rfl
theorem f_205_70 : oFet 205 70 = some (.iinc 6 1, 3) := by decide +kernel
theorem s_205_70 {d : Nat} {l0 l1 l2 l3 l4 l5 : oV} {x : Int} {S : List oV} {σ : oSg} {Q : Option oV → (Nat → oC) → Prop} (c5 : oCat l5 = 1)  : oE d 205 70 [l0, l1, l2, l3, l4, l5, .inl x] S σ Q = oE d 205 73 [l0, l1, l2, l3, l4, l5, .inl (oAdd x (1))] S σ Q := pInc f_205_70 rfl (show (6 : Nat) < 7 by decide) (oC1n c5) (oC1n (v := .inl x) rfl) rfl
theorem f_205_73 : oFet 205 73 = some (.goto (-37), 3) := by decide +kernel
theorem s_205_73 {d : Nat} {l0 l1 l2 l3 l4 l5 l6 : oV} {S : List oV} {σ : oSg} {Q : Option oV → (Nat → oC) → Prop} : oE d 205 73 [l0, l1, l2, l3, l4, l5, l6] S σ Q = oE d 205 36 [l0, l1, l2, l3, l4, l5, l6] S σ Q := pGoto f_205_73 (by decide)
theorem f_205_76 : oFet 205 76 = some (.aload_n 0, 1) := by decide +kernel
theorem s_205_76 {d : Nat} {l1 l2 l3 l4 l5 l6 : oV} {a : Nat} {S : List oV} {σ : oSg} {Q : Option oV → (Nat → oC) → Prop} : oE d 205 76 [.inr (.inr (.inl a)), l1, l2, l3, l4, l5, l6] S σ Q = oE d 205 77 [.inr (.inr (.inl a)), l1, l2, l3, l4, l5, l6] (.inr (.inr (.inl a)) :: S) σ Q := pLdN (k := 0) f_205_76 rfl rfl rfl
theorem f_205_77 : oFet 205 77 = some (.iload_n 1, 1) := by decide +kernel
theorem s_205_77 {d : Nat} {l0 l2 l3 l4 l5 l6 : oV} {x : Int} {S : List oV} {σ : oSg} {Q : Option oV → (Nat → oC) → Prop} : oE d 205 77 [l0, .inl x, l2, l3, l4, l5, l6] S σ Q = oE d 205 78 [l0, .inl x, l2, l3, l4, l5, l6] (.inl x :: S) σ Q := pLdN (k := 1) f_205_77 rfl rfl rfl
theorem f_205_78 : oFet 205 78 = some (.iload_n 2, 1) := by decide +kernel
theorem s_205_78 {d : Nat} {l0 l1 l3 l4 l5 l6 : oV} {x : Int} {S : List oV} {σ : oSg} {Q : Option oV → (Nat → oC) → Prop} : oE d 205 78 [l0, l1, .inl x, l3, l4, l5, l6] S σ Q = oE d 205 79 [l0, l1, .inl x, l3, l4, l5, l6] (.inl x :: S) σ Q := pLdN (k := 2) f_205_78 rfl rfl rfl
theorem f_205_79 : oFet 205 79 = some (.iload 4, 2) := by decide +kernel
theorem s_205_79 {d : Nat} {l0 l1 l2 l3 l5 l6 : oV} {x : Int} {S : List oV} {σ : oSg} {Q : Option oV → (Nat → oC) → Prop} : oE d 205 79 [l0, l1, l2, l3, .inl x, l5, l6] S σ Q = oE d 205 81 [l0, l1, l2, l3, .inl x, l5, l6] (.inl x :: S) σ Q := pLd (i := 4) f_205_79 rfl rfl rfl
theorem f_205_81 : oFet 205 81 = some (.invokevirtual 83, 3) := by decide +kernel
theorem c_205_81 {d : Nat} {l0 l1 l2 l3 l4 l5 l6 : oV} {x0 x1 x2 : oV} {a : Nat} {v : Option oV} {τ : oSg} {S : List oV} {σ : oSg} {Q : Option oV → (Nat → oC) → Prop} (hm : oMi d 148 [.inr (.inr (.inl a)), x0, x1, x2] σ v τ) (hk : oKd a = some 11) (hs : oSmall S = true) : oE d 205 81 [l0, l1, l2, l3, l4, l5, l6] (x2 :: x1 :: x0 :: .inr (.inr (.inl a)) :: S) σ Q = oE d 205 84 [l0, l1, l2, l3, l4, l5, l6] (v.toList ++ S) τ Q := pCallV f_205_81 ow_205 lk_11_83 mt_148 rfl rfl rfl hk hs hm
theorem f_205_84 : oFet 205 84 = some (.iload 5, 2) := by decide +kernel
theorem s_205_84 {d : Nat} {l0 l1 l2 l3 l4 l6 : oV} {x : Int} {S : List oV} {σ : oSg} {Q : Option oV → (Nat → oC) → Prop} : oE d 205 84 [l0, l1, l2, l3, l4, .inl x, l6] S σ Q = oE d 205 86 [l0, l1, l2, l3, l4, .inl x, l6] (.inl x :: S) σ Q := pLd (i := 5) f_205_84 rfl rfl rfl
theorem f_205_86 : oFet 205 86 = some (.bipush 10, 2) := by decide +kernel
theorem s_205_86 {d : Nat} {l0 l1 l2 l3 l4 l5 l6 : oV} {S : List oV} {σ : oSg} {Q : Option oV → (Nat → oC) → Prop} : oE d 205 86 [l0, l1, l2, l3, l4, l5, l6] S σ Q = oE d 205 88 [l0, l1, l2, l3, l4, l5, l6] (.inl (10) :: S) σ Q := pBip f_205_86 (by decide)
theorem f_205_88 : oFet 205 88 = some (.iload_n 3, 1) := by decide +kernel
theorem s_205_88 {d : Nat} {l0 l1 l2 l4 l5 l6 : oV} {x : Int} {S : List oV} {σ : oSg} {Q : Option oV → (Nat → oC) → Prop} : oE d 205 88 [l0, l1, l2, .inl x, l4, l5, l6] S σ Q = oE d 205 89 [l0, l1, l2, .inl x, l4, l5, l6] (.inl x :: S) σ Q := pLdN (k := 3) f_205_88 rfl rfl rfl
theorem f_205_89 : oFet 205 89 = some (.invokestatic 247, 3) := by decide +kernel
theorem c_205_89 {d : Nat} {l0 l1 l2 l3 l4 l5 l6 : oV} {x0 x1 x2 : oV} {v : Option oV} {τ : oSg} {S : List oV} {σ : oSg} {Q : Option oV → (Nat → oC) → Prop} (hm : oMi d 206 [x0, x1, x2] σ v τ) (hs : oSmall S = true) : oE d 205 89 [l0, l1, l2, l3, l4, l5, l6] (x2 :: x1 :: x0 :: S) σ Q = oE d 205 92 [l0, l1, l2, l3, l4, l5, l6] (v.toList ++ S) τ Q := pCallS f_205_89 ow_205 lk_11_247 mt_206 rfl rfl rfl hs hm
theorem f_205_92 : oFet 205 92 = some (.lreturn, 1) := by decide +kernel
theorem s_205_92 {d : Nat} {l0 l1 l2 l3 l4 l5 l6 : oV} {x : Int} {σ : oSg} {Q : Option oV → (Nat → oC) → Prop} : oE d 205 92 [l0, l1, l2, l3, l4, l5, l6] [.inr (.inl x)] σ Q = Q (some (.inr (.inl x))) (oBld σ) := oLret f_205_92 rt_205
theorem ow_206 : (oMt 206).2.2.2.2.1 = 11 := by decide +kernel
theorem rt_206 : (oMt 206).2.2.2.1 = some .long := by decide +kernel
theorem nl_206 : (oMt 206).2.2.1 = 3 := by decide +kernel
theorem f_206_0 : oFet 206 0 = some (.iload_n 2, 1) := by decide +kernel
theorem s_206_0 {d : Nat} {l0 l1 : oV} {x : Int} {S : List oV} {σ : oSg} {Q : Option oV → (Nat → oC) → Prop} : oE d 206 0 [l0, l1, .inl x] S σ Q = oE d 206 1 [l0, l1, .inl x] (.inl x :: S) σ Q := pLdN (k := 2) f_206_0 rfl rfl rfl
theorem f_206_1 : oFet 206 1 = some (.ifCond .ne 7, 3) := by decide +kernel
theorem s_206_1 {d : Nat} {l0 l1 l2 : oV} {x : Int} {S : List oV} {σ : oSg} {Q : Option oV → (Nat → oC) → Prop} : oE d 206 1 [l0, l1, l2] (.inl x :: S) σ Q = if ¬ x = 0 then oE d 206 8 [l0, l1, l2] S σ Q else oE d 206 4 [l0, l1, l2] S σ Q := oIfNe f_206_1 (by decide)
theorem f_206_4 : oFet 206 4 = some (.iload_n 0, 1) := by decide +kernel
theorem s_206_4 {d : Nat} {l1 l2 : oV} {x : Int} {S : List oV} {σ : oSg} {Q : Option oV → (Nat → oC) → Prop} : oE d 206 4 [.inl x, l1, l2] S σ Q = oE d 206 5 [.inl x, l1, l2] (.inl x :: S) σ Q := pLdN (k := 0) f_206_4 rfl rfl rfl
theorem f_206_5 : oFet 206 5 = some (.goto 4, 3) := by decide +kernel
theorem s_206_5 {d : Nat} {l0 l1 l2 : oV} {S : List oV} {σ : oSg} {Q : Option oV → (Nat → oC) → Prop} : oE d 206 5 [l0, l1, l2] S σ Q = oE d 206 9 [l0, l1, l2] S σ Q := pGoto f_206_5 (by decide)
theorem f_206_8 : oFet 206 8 = some (.iload_n 1, 1) := by decide +kernel
theorem s_206_8 {d : Nat} {l0 l2 : oV} {x : Int} {S : List oV} {σ : oSg} {Q : Option oV → (Nat → oC) → Prop} : oE d 206 8 [l0, .inl x, l2] S σ Q = oE d 206 9 [l0, .inl x, l2] (.inl x :: S) σ Q := pLdN (k := 1) f_206_8 rfl rfl rfl
theorem f_206_9 : oFet 206 9 = some (.iload_n 0, 1) := by decide +kernel
theorem s_206_9 {d : Nat} {l1 l2 : oV} {x : Int} {S : List oV} {σ : oSg} {Q : Option oV → (Nat → oC) → Prop} : oE d 206 9 [.inl x, l1, l2] S σ Q = oE d 206 10 [.inl x, l1, l2] (.inl x :: S) σ Q := pLdN (k := 0) f_206_9 rfl rfl rfl
theorem f_206_10 : oFet 206 10 = some (.iload_n 1, 1) := by decide +kernel
theorem s_206_10 {d : Nat} {l0 l2 : oV} {x : Int} {S : List oV} {σ : oSg} {Q : Option oV → (Nat → oC) → Prop} : oE d 206 10 [l0, .inl x, l2] S σ Q = oE d 206 11 [l0, .inl x, l2] (.inl x :: S) σ Q := pLdN (k := 1) f_206_10 rfl rfl rfl
theorem f_206_11 : oFet 206 11 = some (.invokestatic 242, 3) := by decide +kernel
theorem c_206_11 {d : Nat} {l0 l1 l2 : oV} {x0 x1 : oV} {v : Option oV} {τ : oSg} {S : List oV} {σ : oSg} {Q : Option oV → (Nat → oC) → Prop} (hm : oMi d 207 [x0, x1] σ v τ) (hs : oSmall S = true) : oE d 206 11 [l0, l1, l2] (x1 :: x0 :: S) σ Q = oE d 206 14 [l0, l1, l2] (v.toList ++ S) τ Q := pCallS f_206_11 ow_206 lk_11_242 mt_207 rfl rfl rfl hs hm
theorem f_206_14 : oFet 206 14 = some (.idiv, 1) := by decide +kernel
theorem s_206_14 {d : Nat} {l0 l1 l2 : oV} {x y : Int} {S : List oV} {σ : oSg} {Q : Option oV → (Nat → oC) → Prop} (hy : y ≠ 0) : oE d 206 14 [l0, l1, l2] (.inl y :: .inl x :: S) σ Q = oE d 206 15 [l0, l1, l2] (.inl (oDiv x y) :: S) σ Q := pDiv f_206_14 hy
theorem f_206_15 : oFet 206 15 = some (.i2l, 1) := by decide +kernel
theorem s_206_15 {d : Nat} {l0 l1 l2 : oV} {x : Int} {S : List oV} {σ : oSg} {Q : Option oV → (Nat → oC) → Prop} : oE d 206 15 [l0, l1, l2] (.inl x :: S) σ Q = oE d 206 16 [l0, l1, l2] (.inr (.inl x) :: S) σ Q := oS4 f_206_15 rfl rfl rfl rfl
theorem f_206_16 : oFet 206 16 = some (.lreturn, 1) := by decide +kernel
theorem s_206_16 {d : Nat} {l0 l1 l2 : oV} {x : Int} {σ : oSg} {Q : Option oV → (Nat → oC) → Prop} : oE d 206 16 [l0, l1, l2] [.inr (.inl x)] σ Q = Q (some (.inr (.inl x))) (oBld σ) := oLret f_206_16 rt_206
theorem ow_207 : (oMt 207).2.2.2.2.1 = 11 := by decide +kernel
theorem rt_207 : (oMt 207).2.2.2.1 = some .int := by decide +kernel
theorem nl_207 : (oMt 207).2.2.1 = 2 := by decide +kernel
theorem f_207_0 : oFet 207 0 = some (.iload_n 1, 1) := by decide +kernel
theorem s_207_0 {d : Nat} {l0 : oV} {x : Int} {S : List oV} {σ : oSg} {Q : Option oV → (Nat → oC) → Prop} : oE d 207 0 [l0, .inl x] S σ Q = oE d 207 1 [l0, .inl x] (.inl x :: S) σ Q := pLdN (k := 1) f_207_0 rfl rfl rfl
theorem f_207_1 : oFet 207 1 = some (.ifCond .ne 7, 3) := by decide +kernel
theorem s_207_1 {d : Nat} {l0 l1 : oV} {x : Int} {S : List oV} {σ : oSg} {Q : Option oV → (Nat → oC) → Prop} : oE d 207 1 [l0, l1] (.inl x :: S) σ Q = if ¬ x = 0 then oE d 207 8 [l0, l1] S σ Q else oE d 207 4 [l0, l1] S σ Q := oIfNe f_207_1 (by decide)
theorem f_207_4 : oFet 207 4 = some (.iload_n 0, 1) := by decide +kernel
theorem s_207_4 {d : Nat} {l1 : oV} {x : Int} {S : List oV} {σ : oSg} {Q : Option oV → (Nat → oC) → Prop} : oE d 207 4 [.inl x, l1] S σ Q = oE d 207 5 [.inl x, l1] (.inl x :: S) σ Q := pLdN (k := 0) f_207_4 rfl rfl rfl
theorem f_207_5 : oFet 207 5 = some (.goto 10, 3) := by decide +kernel
theorem s_207_5 {d : Nat} {l0 l1 : oV} {S : List oV} {σ : oSg} {Q : Option oV → (Nat → oC) → Prop} : oE d 207 5 [l0, l1] S σ Q = oE d 207 15 [l0, l1] S σ Q := pGoto f_207_5 (by decide)
theorem f_207_8 : oFet 207 8 = some (.iload_n 1, 1) := by decide +kernel
theorem s_207_8 {d : Nat} {l0 : oV} {x : Int} {S : List oV} {σ : oSg} {Q : Option oV → (Nat → oC) → Prop} : oE d 207 8 [l0, .inl x] S σ Q = oE d 207 9 [l0, .inl x] (.inl x :: S) σ Q := pLdN (k := 1) f_207_8 rfl rfl rfl
theorem f_207_9 : oFet 207 9 = some (.iload_n 0, 1) := by decide +kernel
theorem s_207_9 {d : Nat} {l1 : oV} {x : Int} {S : List oV} {σ : oSg} {Q : Option oV → (Nat → oC) → Prop} : oE d 207 9 [.inl x, l1] S σ Q = oE d 207 10 [.inl x, l1] (.inl x :: S) σ Q := pLdN (k := 0) f_207_9 rfl rfl rfl
theorem f_207_10 : oFet 207 10 = some (.iload_n 1, 1) := by decide +kernel
theorem s_207_10 {d : Nat} {l0 : oV} {x : Int} {S : List oV} {σ : oSg} {Q : Option oV → (Nat → oC) → Prop} : oE d 207 10 [l0, .inl x] S σ Q = oE d 207 11 [l0, .inl x] (.inl x :: S) σ Q := pLdN (k := 1) f_207_10 rfl rfl rfl
theorem f_207_11 : oFet 207 11 = some (.irem, 1) := by decide +kernel
theorem s_207_11 {d : Nat} {l0 l1 : oV} {x y : Int} {S : List oV} {σ : oSg} {Q : Option oV → (Nat → oC) → Prop} (hy : y ≠ 0) : oE d 207 11 [l0, l1] (.inl y :: .inl x :: S) σ Q = oE d 207 12 [l0, l1] (.inl (oRem x y) :: S) σ Q := pRem f_207_11 hy
theorem f_207_12 : oFet 207 12 = some (.invokestatic 242, 3) := by decide +kernel
theorem c_207_12 {d : Nat} {l0 l1 : oV} {x0 x1 : oV} {v : Option oV} {τ : oSg} {S : List oV} {σ : oSg} {Q : Option oV → (Nat → oC) → Prop} (hm : oMi d 207 [x0, x1] σ v τ) (hs : oSmall S = true) : oE d 207 12 [l0, l1] (x1 :: x0 :: S) σ Q = oE d 207 15 [l0, l1] (v.toList ++ S) τ Q := pCallS f_207_12 ow_207 lk_11_242 mt_207 rfl rfl rfl hs hm
theorem f_207_15 : oFet 207 15 = some (.ireturn, 1) := by decide +kernel
theorem s_207_15 {d : Nat} {l0 l1 : oV} {x : Int} {σ : oSg} {Q : Option oV → (Nat → oC) → Prop} : oE d 207 15 [l0, l1] [.inl x] σ Q = Q (some (.inl x)) (oBld σ) := oIret f_207_15 rt_207
theorem ow_208 : (oMt 208).2.2.2.2.1 = 11 := by decide +kernel
theorem rt_208 : (oMt 208).2.2.2.1 = some .long := by decide +kernel
theorem nl_208 : (oMt 208).2.2.1 = 2 := by decide +kernel
theorem f_208_0 : oFet 208 0 = some (.iload_n 1, 1) := by decide +kernel
theorem s_208_0 {d : Nat} {l0 : oV} {x : Int} {S : List oV} {σ : oSg} {Q : Option oV → (Nat → oC) → Prop} : oE d 208 0 [l0, .inl x] S σ Q = oE d 208 1 [l0, .inl x] (.inl x :: S) σ Q := pLdN (k := 1) f_208_0 rfl rfl rfl
theorem f_208_1 : oFet 208 1 = some (.iconst 0, 1) := by decide +kernel
theorem s_208_1 {d : Nat} {l0 l1 : oV} {S : List oV} {σ : oSg} {Q : Option oV → (Nat → oC) → Prop} : oE d 208 1 [l0, l1] S σ Q = oE d 208 2 [l0, l1] (.inl (0) :: S) σ Q := pKst f_208_1 (by decide)
theorem f_208_2 : oFet 208 2 = some (.iconst 1, 1) := by decide +kernel
theorem s_208_2 {d : Nat} {l0 l1 : oV} {S : List oV} {σ : oSg} {Q : Option oV → (Nat → oC) → Prop} : oE d 208 2 [l0, l1] S σ Q = oE d 208 3 [l0, l1] (.inl (1) :: S) σ Q := pKst f_208_2 (by decide)
theorem f_208_3 : oFet 208 3 = some (.invokestatic 57, 3) := by decide +kernel
theorem c_208_3 {d : Nat} {l0 l1 : oV} {x0 x1 x2 : oV} {v : Option oV} {τ : oSg} {S : List oV} {σ : oSg} {Q : Option oV → (Nat → oC) → Prop} (hm : oMi d 146 [x0, x1, x2] σ v τ) (hs : oSmall S = true) : oE d 208 3 [l0, l1] (x2 :: x1 :: x0 :: S) σ Q = oE d 208 6 [l0, l1] (v.toList ++ S) τ Q := pCallS f_208_3 ow_208 lk_11_57 mt_146 rfl rfl rfl hs hm
theorem f_208_6 : oFet 208 6 = some (.ifCond .eq 10, 3) := by decide +kernel
theorem s_208_6 {d : Nat} {l0 l1 : oV} {x : Int} {S : List oV} {σ : oSg} {Q : Option oV → (Nat → oC) → Prop} : oE d 208 6 [l0, l1] (.inl x :: S) σ Q = if x = 0 then oE d 208 16 [l0, l1] S σ Q else oE d 208 9 [l0, l1] S σ Q := oIfEq f_208_6 (by decide)
theorem f_208_9 : oFet 208 9 = some (.aload_n 0, 1) := by decide +kernel
theorem s_208_9 {d : Nat} {l1 : oV} {a : Nat} {S : List oV} {σ : oSg} {Q : Option oV → (Nat → oC) → Prop} : oE d 208 9 [.inr (.inr (.inl a)), l1] S σ Q = oE d 208 10 [.inr (.inr (.inl a)), l1] (.inr (.inr (.inl a)) :: S) σ Q := pLdN (k := 0) f_208_9 rfl rfl rfl
theorem f_208_10 : oFet 208 10 = some (.invokevirtual 98, 3) := by decide +kernel
theorem c_208_10 {d : Nat} {l0 l1 : oV} {a : Nat} {v : Option oV} {τ : oSg} {S : List oV} {σ : oSg} {Q : Option oV → (Nat → oC) → Prop} (hm : oMi d 155 [.inr (.inr (.inl a))] σ v τ) (hk : oKd a = some 11) (hs : oSmall S = true) : oE d 208 10 [l0, l1] (.inr (.inr (.inl a)) :: S) σ Q = oE d 208 13 [l0, l1] (v.toList ++ S) τ Q := pCallV f_208_10 ow_208 lk_11_98 mt_155 rfl rfl rfl hk hs hm
theorem f_208_13 : oFet 208 13 = some (.ifCond .ne 9, 3) := by decide +kernel
theorem s_208_13 {d : Nat} {l0 l1 : oV} {x : Int} {S : List oV} {σ : oSg} {Q : Option oV → (Nat → oC) → Prop} : oE d 208 13 [l0, l1] (.inl x :: S) σ Q = if ¬ x = 0 then oE d 208 22 [l0, l1] S σ Q else oE d 208 16 [l0, l1] S σ Q := oIfNe f_208_13 (by decide)
theorem f_208_16 : oFet 208 16 = some (.ldc2_w 245, 3) := by decide +kernel
theorem s_208_16 {d : Nat} {l0 l1 : oV} {S : List oV} {σ : oSg} {Q : Option oV → (Nat → oC) → Prop} : oE d 208 16 [l0, l1] S σ Q = oE d 208 19 [l0, l1] (.inr (.inl (-9223372036854775808)) :: S) σ Q := pLdc2 f_208_16 ow_208 (by decide +kernel)
theorem f_208_19 : oFet 208 19 = some (.goto 15, 3) := by decide +kernel
theorem s_208_19 {d : Nat} {l0 l1 : oV} {S : List oV} {σ : oSg} {Q : Option oV → (Nat → oC) → Prop} : oE d 208 19 [l0, l1] S σ Q = oE d 208 34 [l0, l1] S σ Q := pGoto f_208_19 (by decide)
theorem f_208_22 : oFet 208 22 = some (.aload_n 0, 1) := by decide +kernel
theorem s_208_22 {d : Nat} {l1 : oV} {a : Nat} {S : List oV} {σ : oSg} {Q : Option oV → (Nat → oC) → Prop} : oE d 208 22 [.inr (.inr (.inl a)), l1] S σ Q = oE d 208 23 [.inr (.inr (.inl a)), l1] (.inr (.inr (.inl a)) :: S) σ Q := pLdN (k := 0) f_208_22 rfl rfl rfl
theorem f_208_23 : oFet 208 23 = some (.invokevirtual 205, 3) := by decide +kernel
theorem c_208_23 {d : Nat} {l0 l1 : oV} {a : Nat} {v : Option oV} {τ : oSg} {S : List oV} {σ : oSg} {Q : Option oV → (Nat → oC) → Prop} (hm : oMi d 186 [.inr (.inr (.inl a))] σ v τ) (hk : oKd a = some 11) (hs : oSmall S = true) : oE d 208 23 [l0, l1] (.inr (.inr (.inl a)) :: S) σ Q = oE d 208 26 [l0, l1] (v.toList ++ S) τ Q := pCallV f_208_23 ow_208 lk_11_205 mt_186 rfl rfl rfl hk hs hm
theorem f_208_26 : oFet 208 26 = some (.aload_n 0, 1) := by decide +kernel
theorem s_208_26 {d : Nat} {l1 : oV} {a : Nat} {S : List oV} {σ : oSg} {Q : Option oV → (Nat → oC) → Prop} : oE d 208 26 [.inr (.inr (.inl a)), l1] S σ Q = oE d 208 27 [.inr (.inr (.inl a)), l1] (.inr (.inr (.inl a)) :: S) σ Q := pLdN (k := 0) f_208_26 rfl rfl rfl
theorem f_208_27 : oFet 208 27 = some (.invokevirtual 98, 3) := by decide +kernel
theorem c_208_27 {d : Nat} {l0 l1 : oV} {a : Nat} {v : Option oV} {τ : oSg} {S : List oV} {σ : oSg} {Q : Option oV → (Nat → oC) → Prop} (hm : oMi d 155 [.inr (.inr (.inl a))] σ v τ) (hk : oKd a = some 11) (hs : oSmall S = true) : oE d 208 27 [l0, l1] (.inr (.inr (.inl a)) :: S) σ Q = oE d 208 30 [l0, l1] (v.toList ++ S) τ Q := pCallV f_208_27 ow_208 lk_11_98 mt_155 rfl rfl rfl hk hs hm
theorem f_208_30 : oFet 208 30 = some (.iload_n 1, 1) := by decide +kernel
theorem s_208_30 {d : Nat} {l0 : oV} {x : Int} {S : List oV} {σ : oSg} {Q : Option oV → (Nat → oC) → Prop} : oE d 208 30 [l0, .inl x] S σ Q = oE d 208 31 [l0, .inl x] (.inl x :: S) σ Q := pLdN (k := 1) f_208_30 rfl rfl rfl
theorem f_208_31 : oFet 208 31 = some (.invokestatic 247, 3) := by decide +kernel
theorem c_208_31 {d : Nat} {l0 l1 : oV} {x0 x1 x2 : oV} {v : Option oV} {τ : oSg} {S : List oV} {σ : oSg} {Q : Option oV → (Nat → oC) → Prop} (hm : oMi d 206 [x0, x1, x2] σ v τ) (hs : oSmall S = true) : oE d 208 31 [l0, l1] (x2 :: x1 :: x0 :: S) σ Q = oE d 208 34 [l0, l1] (v.toList ++ S) τ Q := pCallS f_208_31 ow_208 lk_11_247 mt_206 rfl rfl rfl hs hm
theorem f_208_34 : oFet 208 34 = some (.lreturn, 1) := by decide +kernel
theorem s_208_34 {d : Nat} {l0 l1 : oV} {x : Int} {σ : oSg} {Q : Option oV → (Nat → oC) → Prop} : oE d 208 34 [l0, l1] [.inr (.inl x)] σ Q = Q (some (.inr (.inl x))) (oBld σ) := oLret f_208_34 rt_208
