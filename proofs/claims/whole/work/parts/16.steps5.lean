/-! steps, by program -/
theorem ow_209 : (oMt 209).2.2.2.2.1 = 11 := by decide +kernel
theorem rt_209 : (oMt 209).2.2.2.1 = some .int := by decide +kernel
theorem nl_209 : (oMt 209).2.2.1 = 3 := by decide +kernel
theorem f_209_0 : oFet 209 0 = some (.iload_n 1, 1) := by decide +kernel
theorem s_209_0 {d : Nat} {l0 l2 : oV} {x : Int} {S : List oV} {σ : oSg} {Q : Option oV → (Nat → oC) → Prop} : oE d 209 0 [l0, .inl x, l2] S σ Q = oE d 209 1 [l0, .inl x, l2] (.inl x :: S) σ Q := pLdN (k := 1) f_209_0 rfl rfl rfl
theorem f_209_1 : oFet 209 1 = some (.iconst (-1), 1) := by decide +kernel
theorem s_209_1 {d : Nat} {l0 l1 l2 : oV} {S : List oV} {σ : oSg} {Q : Option oV → (Nat → oC) → Prop} : oE d 209 1 [l0, l1, l2] S σ Q = oE d 209 2 [l0, l1, l2] (.inl (-1) :: S) σ Q := pKst f_209_1 (by decide)
theorem f_209_2 : oFet 209 2 = some (.if_icmp .ne 13, 3) := by decide +kernel
theorem s_209_2 {d : Nat} {l0 l1 l2 : oV} {x y : Int} {S : List oV} {σ : oSg} {Q : Option oV → (Nat → oC) → Prop} : oE d 209 2 [l0, l1, l2] (.inl y :: .inl x :: S) σ Q = if ¬ x = y then oE d 209 15 [l0, l1, l2] S σ Q else oE d 209 5 [l0, l1, l2] S σ Q := oCmpNe f_209_2 (by decide)
theorem f_209_5 : oFet 209 5 = some (.aload_n 0, 1) := by decide +kernel
theorem s_209_5 {d : Nat} {l1 l2 : oV} {a : Nat} {S : List oV} {σ : oSg} {Q : Option oV → (Nat → oC) → Prop} : oE d 209 5 [.inr (.inr (.inl a)), l1, l2] S σ Q = oE d 209 6 [.inr (.inr (.inl a)), l1, l2] (.inr (.inr (.inl a)) :: S) σ Q := pLdN (k := 0) f_209_5 rfl rfl rfl
theorem f_209_6 : oFet 209 6 = some (.getfield 11, 3) := by decide +kernel
theorem s_209_6 {d : Nat} {l0 l1 l2 : oV} {a : Nat} {S : List oV} {σ : oSg} {Q : Option oV → (Nat → oC) → Prop} (hk : oKd a = some 11) : oE d 209 6 [l0, l1, l2] (.inr (.inr (.inl a)) :: S) σ Q = oE d 209 9 [l0, l1, l2] (.inr (.inr (.inl (oRf a 0))) :: S) σ Q := pGfR f_209_6 ow_209 fl_11_11 rfl (by decide) hk
theorem f_209_9 : oFet 209 9 = some (.bipush 82, 2) := by decide +kernel
theorem s_209_9 {d : Nat} {l0 l1 l2 : oV} {S : List oV} {σ : oSg} {Q : Option oV → (Nat → oC) → Prop} : oE d 209 9 [l0, l1, l2] S σ Q = oE d 209 11 [l0, l1, l2] (.inl (82) :: S) σ Q := pBip f_209_9 (by decide)
theorem f_209_11 : oFet 209 11 = some (.iconst 0, 1) := by decide +kernel
theorem s_209_11 {d : Nat} {l0 l1 l2 : oV} {S : List oV} {σ : oSg} {Q : Option oV → (Nat → oC) → Prop} : oE d 209 11 [l0, l1, l2] S σ Q = oE d 209 12 [l0, l1, l2] (.inl (0) :: S) σ Q := pKst f_209_11 (by decide)
theorem f_209_12 : oFet 209 12 = some (.iastore, 1) := by decide +kernel
theorem s_209_12 {d : Nat} {l0 l1 l2 : oV} {a : Nat} {i v : Int} {S : List oV} {σ : oSg} {Q : Option oV → (Nat → oC) → Prop} (hk : oAk a = some 0) (h0 : 0 ≤ i) (h1 : i < (oLn a : Int)) : oE d 209 12 [l0, l1, l2] (.inl v :: .inl i :: .inr (.inr (.inl a)) :: S) σ Q = oE d 209 13 [l0, l1, l2] S (oSA σ a i.toNat v) Q := oIas f_209_12 hk h0 h1
theorem f_209_13 : oFet 209 13 = some (.iconst 0, 1) := by decide +kernel
theorem s_209_13 {d : Nat} {l0 l1 l2 : oV} {S : List oV} {σ : oSg} {Q : Option oV → (Nat → oC) → Prop} : oE d 209 13 [l0, l1, l2] S σ Q = oE d 209 14 [l0, l1, l2] (.inl (0) :: S) σ Q := pKst f_209_13 (by decide)
theorem f_209_14 : oFet 209 14 = some (.ireturn, 1) := by decide +kernel
theorem s_209_14 {d : Nat} {l0 l1 l2 : oV} {x : Int} {σ : oSg} {Q : Option oV → (Nat → oC) → Prop} : oE d 209 14 [l0, l1, l2] [.inl x] σ Q = Q (some (.inl x)) (oBld σ) := oIret f_209_14 rt_209
theorem f_209_15 : oFet 209 15 = some (.iload_n 1, 1) := by decide +kernel
theorem s_209_15 {d : Nat} {l0 l2 : oV} {x : Int} {S : List oV} {σ : oSg} {Q : Option oV → (Nat → oC) → Prop} : oE d 209 15 [l0, .inl x, l2] S σ Q = oE d 209 16 [l0, .inl x, l2] (.inl x :: S) σ Q := pLdN (k := 1) f_209_15 rfl rfl rfl
theorem f_209_16 : oFet 209 16 = some (.iconst 0, 1) := by decide +kernel
theorem s_209_16 {d : Nat} {l0 l1 l2 : oV} {S : List oV} {σ : oSg} {Q : Option oV → (Nat → oC) → Prop} : oE d 209 16 [l0, l1, l2] S σ Q = oE d 209 17 [l0, l1, l2] (.inl (0) :: S) σ Q := pKst f_209_16 (by decide)
theorem f_209_17 : oFet 209 17 = some (.iconst 3, 1) := by decide +kernel
theorem s_209_17 {d : Nat} {l0 l1 l2 : oV} {S : List oV} {σ : oSg} {Q : Option oV → (Nat → oC) → Prop} : oE d 209 17 [l0, l1, l2] S σ Q = oE d 209 18 [l0, l1, l2] (.inl (3) :: S) σ Q := pKst f_209_17 (by decide)
theorem f_209_18 : oFet 209 18 = some (.invokestatic 57, 3) := by decide +kernel
theorem c_209_18 {d : Nat} {l0 l1 l2 : oV} {x0 x1 x2 : oV} {v : Option oV} {τ : oSg} {S : List oV} {σ : oSg} {Q : Option oV → (Nat → oC) → Prop} (hm : oMi d 146 [x0, x1, x2] σ v τ) (hs : oSmall S = true) : oE d 209 18 [l0, l1, l2] (x2 :: x1 :: x0 :: S) σ Q = oE d 209 21 [l0, l1, l2] (v.toList ++ S) τ Q := pCallS f_209_18 ow_209 lk_11_57 mt_146 rfl rfl rfl hs hm
theorem f_209_21 : oFet 209 21 = some (.ifCond .eq 16, 3) := by decide +kernel
theorem s_209_21 {d : Nat} {l0 l1 l2 : oV} {x : Int} {S : List oV} {σ : oSg} {Q : Option oV → (Nat → oC) → Prop} : oE d 209 21 [l0, l1, l2] (.inl x :: S) σ Q = if x = 0 then oE d 209 37 [l0, l1, l2] S σ Q else oE d 209 24 [l0, l1, l2] S σ Q := oIfEq f_209_21 (by decide)
theorem f_209_24 : oFet 209 24 = some (.iload_n 1, 1) := by decide +kernel
theorem s_209_24 {d : Nat} {l0 l2 : oV} {x : Int} {S : List oV} {σ : oSg} {Q : Option oV → (Nat → oC) → Prop} : oE d 209 24 [l0, .inl x, l2] S σ Q = oE d 209 25 [l0, .inl x, l2] (.inl x :: S) σ Q := pLdN (k := 1) f_209_24 rfl rfl rfl
theorem f_209_25 : oFet 209 25 = some (.iconst 2, 1) := by decide +kernel
theorem s_209_25 {d : Nat} {l0 l1 l2 : oV} {S : List oV} {σ : oSg} {Q : Option oV → (Nat → oC) → Prop} : oE d 209 25 [l0, l1, l2] S σ Q = oE d 209 26 [l0, l1, l2] (.inl (2) :: S) σ Q := pKst f_209_25 (by decide)
theorem f_209_26 : oFet 209 26 = some (.if_icmp .ge 13, 3) := by decide +kernel
theorem s_209_26 {d : Nat} {l0 l1 l2 : oV} {x y : Int} {S : List oV} {σ : oSg} {Q : Option oV → (Nat → oC) → Prop} : oE d 209 26 [l0, l1, l2] (.inl y :: .inl x :: S) σ Q = if y ≤ x then oE d 209 39 [l0, l1, l2] S σ Q else oE d 209 29 [l0, l1, l2] S σ Q := oCmpGe f_209_26 (by decide)
theorem f_209_29 : oFet 209 29 = some (.aload_n 0, 1) := by decide +kernel
theorem s_209_29 {d : Nat} {l1 l2 : oV} {a : Nat} {S : List oV} {σ : oSg} {Q : Option oV → (Nat → oC) → Prop} : oE d 209 29 [.inr (.inr (.inl a)), l1, l2] S σ Q = oE d 209 30 [.inr (.inr (.inl a)), l1, l2] (.inr (.inr (.inl a)) :: S) σ Q := pLdN (k := 0) f_209_29 rfl rfl rfl
theorem f_209_30 : oFet 209 30 = some (.iload_n 2, 1) := by decide +kernel
theorem s_209_30 {d : Nat} {l0 l1 : oV} {x : Int} {S : List oV} {σ : oSg} {Q : Option oV → (Nat → oC) → Prop} : oE d 209 30 [l0, l1, .inl x] S σ Q = oE d 209 31 [l0, l1, .inl x] (.inl x :: S) σ Q := pLdN (k := 2) f_209_30 rfl rfl rfl
theorem f_209_31 : oFet 209 31 = some (.invokevirtual 61, 3) := by decide +kernel
theorem c_209_31 {d : Nat} {l0 l1 l2 : oV} {x0 : oV} {a : Nat} {v : Option oV} {τ : oSg} {S : List oV} {σ : oSg} {Q : Option oV → (Nat → oC) → Prop} (hm : oMi d 145 [.inr (.inr (.inl a)), x0] σ v τ) (hk : oKd a = some 11) (hs : oSmall S = true) : oE d 209 31 [l0, l1, l2] (x0 :: .inr (.inr (.inl a)) :: S) σ Q = oE d 209 34 [l0, l1, l2] (v.toList ++ S) τ Q := pCallV f_209_31 ow_209 lk_11_61 mt_145 rfl rfl rfl hk hs hm
theorem f_209_34 : oFet 209 34 = some (.ifCond .ne 5, 3) := by decide +kernel
theorem s_209_34 {d : Nat} {l0 l1 l2 : oV} {x : Int} {S : List oV} {σ : oSg} {Q : Option oV → (Nat → oC) → Prop} : oE d 209 34 [l0, l1, l2] (.inl x :: S) σ Q = if ¬ x = 0 then oE d 209 39 [l0, l1, l2] S σ Q else oE d 209 37 [l0, l1, l2] S σ Q := oIfNe f_209_34 (by decide)
theorem f_209_37 : oFet 209 37 = some (.iconst (-1), 1) := by decide +kernel
theorem s_209_37 {d : Nat} {l0 l1 l2 : oV} {S : List oV} {σ : oSg} {Q : Option oV → (Nat → oC) → Prop} : oE d 209 37 [l0, l1, l2] S σ Q = oE d 209 38 [l0, l1, l2] (.inl (-1) :: S) σ Q := pKst f_209_37 (by decide)
theorem f_209_38 : oFet 209 38 = some (.ireturn, 1) := by decide +kernel
theorem s_209_38 {d : Nat} {l0 l1 l2 : oV} {x : Int} {σ : oSg} {Q : Option oV → (Nat → oC) → Prop} : oE d 209 38 [l0, l1, l2] [.inl x] σ Q = Q (some (.inl x)) (oBld σ) := oIret f_209_38 rt_209
theorem f_209_39 : oFet 209 39 = some (.iload_n 1, 1) := by decide +kernel
theorem s_209_39 {d : Nat} {l0 l2 : oV} {x : Int} {S : List oV} {σ : oSg} {Q : Option oV → (Nat → oC) → Prop} : oE d 209 39 [l0, .inl x, l2] S σ Q = oE d 209 40 [l0, .inl x, l2] (.inl x :: S) σ Q := pLdN (k := 1) f_209_39 rfl rfl rfl
theorem f_209_40 : oFet 209 40 = some (.iconst 2, 1) := by decide +kernel
theorem s_209_40 {d : Nat} {l0 l1 l2 : oV} {S : List oV} {σ : oSg} {Q : Option oV → (Nat → oC) → Prop} : oE d 209 40 [l0, l1, l2] S σ Q = oE d 209 41 [l0, l1, l2] (.inl (2) :: S) σ Q := pKst f_209_40 (by decide)
theorem f_209_41 : oFet 209 41 = some (.if_icmp .ne 16, 3) := by decide +kernel
theorem s_209_41 {d : Nat} {l0 l1 l2 : oV} {x y : Int} {S : List oV} {σ : oSg} {Q : Option oV → (Nat → oC) → Prop} : oE d 209 41 [l0, l1, l2] (.inl y :: .inl x :: S) σ Q = if ¬ x = y then oE d 209 57 [l0, l1, l2] S σ Q else oE d 209 44 [l0, l1, l2] S σ Q := oCmpNe f_209_41 (by decide)
theorem f_209_44 : oFet 209 44 = some (.iload_n 2, 1) := by decide +kernel
theorem s_209_44 {d : Nat} {l0 l1 : oV} {x : Int} {S : List oV} {σ : oSg} {Q : Option oV → (Nat → oC) → Prop} : oE d 209 44 [l0, l1, .inl x] S σ Q = oE d 209 45 [l0, l1, .inl x] (.inl x :: S) σ Q := pLdN (k := 2) f_209_44 rfl rfl rfl
theorem f_209_45 : oFet 209 45 = some (.iconst 0, 1) := by decide +kernel
theorem s_209_45 {d : Nat} {l0 l1 l2 : oV} {S : List oV} {σ : oSg} {Q : Option oV → (Nat → oC) → Prop} : oE d 209 45 [l0, l1, l2] S σ Q = oE d 209 46 [l0, l1, l2] (.inl (0) :: S) σ Q := pKst f_209_45 (by decide)
theorem f_209_46 : oFet 209 46 = some (.bipush 20, 2) := by decide +kernel
theorem s_209_46 {d : Nat} {l0 l1 l2 : oV} {S : List oV} {σ : oSg} {Q : Option oV → (Nat → oC) → Prop} : oE d 209 46 [l0, l1, l2] S σ Q = oE d 209 48 [l0, l1, l2] (.inl (20) :: S) σ Q := pBip f_209_46 (by decide)
theorem f_209_48 : oFet 209 48 = some (.invokestatic 57, 3) := by decide +kernel
theorem c_209_48 {d : Nat} {l0 l1 l2 : oV} {x0 x1 x2 : oV} {v : Option oV} {τ : oSg} {S : List oV} {σ : oSg} {Q : Option oV → (Nat → oC) → Prop} (hm : oMi d 146 [x0, x1, x2] σ v τ) (hs : oSmall S = true) : oE d 209 48 [l0, l1, l2] (x2 :: x1 :: x0 :: S) σ Q = oE d 209 51 [l0, l1, l2] (v.toList ++ S) τ Q := pCallS f_209_48 ow_209 lk_11_57 mt_146 rfl rfl rfl hs hm
theorem f_209_51 : oFet 209 51 = some (.ifCond .ne 6, 3) := by decide +kernel
theorem s_209_51 {d : Nat} {l0 l1 l2 : oV} {x : Int} {S : List oV} {σ : oSg} {Q : Option oV → (Nat → oC) → Prop} : oE d 209 51 [l0, l1, l2] (.inl x :: S) σ Q = if ¬ x = 0 then oE d 209 57 [l0, l1, l2] S σ Q else oE d 209 54 [l0, l1, l2] S σ Q := oIfNe f_209_51 (by decide)
theorem f_209_54 : oFet 209 54 = some (.bipush (-2), 2) := by decide +kernel
theorem s_209_54 {d : Nat} {l0 l1 l2 : oV} {S : List oV} {σ : oSg} {Q : Option oV → (Nat → oC) → Prop} : oE d 209 54 [l0, l1, l2] S σ Q = oE d 209 56 [l0, l1, l2] (.inl (-2) :: S) σ Q := pBip f_209_54 (by decide)
theorem f_209_56 : oFet 209 56 = some (.ireturn, 1) := by decide +kernel
theorem s_209_56 {d : Nat} {l0 l1 l2 : oV} {x : Int} {σ : oSg} {Q : Option oV → (Nat → oC) → Prop} : oE d 209 56 [l0, l1, l2] [.inl x] σ Q = Q (some (.inl x)) (oBld σ) := oIret f_209_56 rt_209
theorem f_209_57 : oFet 209 57 = some (.aload_n 0, 1) := by decide +kernel
theorem s_209_57 {d : Nat} {l1 l2 : oV} {a : Nat} {S : List oV} {σ : oSg} {Q : Option oV → (Nat → oC) → Prop} : oE d 209 57 [.inr (.inr (.inl a)), l1, l2] S σ Q = oE d 209 58 [.inr (.inr (.inl a)), l1, l2] (.inr (.inr (.inl a)) :: S) σ Q := pLdN (k := 0) f_209_57 rfl rfl rfl
theorem f_209_58 : oFet 209 58 = some (.getfield 11, 3) := by decide +kernel
theorem s_209_58 {d : Nat} {l0 l1 l2 : oV} {a : Nat} {S : List oV} {σ : oSg} {Q : Option oV → (Nat → oC) → Prop} (hk : oKd a = some 11) : oE d 209 58 [l0, l1, l2] (.inr (.inr (.inl a)) :: S) σ Q = oE d 209 61 [l0, l1, l2] (.inr (.inr (.inl (oRf a 0))) :: S) σ Q := pGfR f_209_58 ow_209 fl_11_11 rfl (by decide) hk
theorem f_209_61 : oFet 209 61 = some (.bipush 82, 2) := by decide +kernel
theorem s_209_61 {d : Nat} {l0 l1 l2 : oV} {S : List oV} {σ : oSg} {Q : Option oV → (Nat → oC) → Prop} : oE d 209 61 [l0, l1, l2] S σ Q = oE d 209 63 [l0, l1, l2] (.inl (82) :: S) σ Q := pBip f_209_61 (by decide)
theorem f_209_63 : oFet 209 63 = some (.iaload, 1) := by decide +kernel
theorem s_209_63 {d : Nat} {l0 l1 l2 : oV} {a : Nat} {i : Int} {S : List oV} {σ : oSg} {Q : Option oV → (Nat → oC) → Prop} (hk : oAk a = some 0) (h0 : 0 ≤ i) (h1 : i < (oLn a : Int)) : oE d 209 63 [l0, l1, l2] (.inl i :: .inr (.inr (.inl a)) :: S) σ Q = oE d 209 64 [l0, l1, l2] (.inl (σ.2 a i.toNat) :: S) σ Q := oIal f_209_63 hk h0 h1
theorem f_209_64 : oFet 209 64 = some (.bipush 8, 2) := by decide +kernel
theorem s_209_64 {d : Nat} {l0 l1 l2 : oV} {S : List oV} {σ : oSg} {Q : Option oV → (Nat → oC) → Prop} : oE d 209 64 [l0, l1, l2] S σ Q = oE d 209 66 [l0, l1, l2] (.inl (8) :: S) σ Q := pBip f_209_64 (by decide)
theorem f_209_66 : oFet 209 66 = some (.if_icmp .ne 6, 3) := by decide +kernel
theorem s_209_66 {d : Nat} {l0 l1 l2 : oV} {x y : Int} {S : List oV} {σ : oSg} {Q : Option oV → (Nat → oC) → Prop} : oE d 209 66 [l0, l1, l2] (.inl y :: .inl x :: S) σ Q = if ¬ x = y then oE d 209 72 [l0, l1, l2] S σ Q else oE d 209 69 [l0, l1, l2] S σ Q := oCmpNe f_209_66 (by decide)
theorem f_209_69 : oFet 209 69 = some (.bipush (-4), 2) := by decide +kernel
theorem s_209_69 {d : Nat} {l0 l1 l2 : oV} {S : List oV} {σ : oSg} {Q : Option oV → (Nat → oC) → Prop} : oE d 209 69 [l0, l1, l2] S σ Q = oE d 209 71 [l0, l1, l2] (.inl (-4) :: S) σ Q := pBip f_209_69 (by decide)
theorem f_209_71 : oFet 209 71 = some (.ireturn, 1) := by decide +kernel
theorem s_209_71 {d : Nat} {l0 l1 l2 : oV} {x : Int} {σ : oSg} {Q : Option oV → (Nat → oC) → Prop} : oE d 209 71 [l0, l1, l2] [.inl x] σ Q = Q (some (.inl x)) (oBld σ) := oIret f_209_71 rt_209
theorem f_209_72 : oFet 209 72 = some (.aload_n 0, 1) := by decide +kernel
theorem s_209_72 {d : Nat} {l1 l2 : oV} {a : Nat} {S : List oV} {σ : oSg} {Q : Option oV → (Nat → oC) → Prop} : oE d 209 72 [.inr (.inr (.inl a)), l1, l2] S σ Q = oE d 209 73 [.inr (.inr (.inl a)), l1, l2] (.inr (.inr (.inl a)) :: S) σ Q := pLdN (k := 0) f_209_72 rfl rfl rfl
theorem f_209_73 : oFet 209 73 = some (.getfield 11, 3) := by decide +kernel
theorem s_209_73 {d : Nat} {l0 l1 l2 : oV} {a : Nat} {S : List oV} {σ : oSg} {Q : Option oV → (Nat → oC) → Prop} (hk : oKd a = some 11) : oE d 209 73 [l0, l1, l2] (.inr (.inr (.inl a)) :: S) σ Q = oE d 209 76 [l0, l1, l2] (.inr (.inr (.inl (oRf a 0))) :: S) σ Q := pGfR f_209_73 ow_209 fl_11_11 rfl (by decide) hk
theorem f_209_76 : oFet 209 76 = some (.bipush 83, 2) := by decide +kernel
theorem s_209_76 {d : Nat} {l0 l1 l2 : oV} {S : List oV} {σ : oSg} {Q : Option oV → (Nat → oC) → Prop} : oE d 209 76 [l0, l1, l2] S σ Q = oE d 209 78 [l0, l1, l2] (.inl (83) :: S) σ Q := pBip f_209_76 (by decide)
theorem f_209_78 : oFet 209 78 = some (.aload_n 0, 1) := by decide +kernel
theorem s_209_78 {d : Nat} {l1 l2 : oV} {a : Nat} {S : List oV} {σ : oSg} {Q : Option oV → (Nat → oC) → Prop} : oE d 209 78 [.inr (.inr (.inl a)), l1, l2] S σ Q = oE d 209 79 [.inr (.inr (.inl a)), l1, l2] (.inr (.inr (.inl a)) :: S) σ Q := pLdN (k := 0) f_209_78 rfl rfl rfl
theorem f_209_79 : oFet 209 79 = some (.getfield 11, 3) := by decide +kernel
theorem s_209_79 {d : Nat} {l0 l1 l2 : oV} {a : Nat} {S : List oV} {σ : oSg} {Q : Option oV → (Nat → oC) → Prop} (hk : oKd a = some 11) : oE d 209 79 [l0, l1, l2] (.inr (.inr (.inl a)) :: S) σ Q = oE d 209 82 [l0, l1, l2] (.inr (.inr (.inl (oRf a 0))) :: S) σ Q := pGfR f_209_79 ow_209 fl_11_11 rfl (by decide) hk
theorem f_209_82 : oFet 209 82 = some (.bipush 82, 2) := by decide +kernel
theorem s_209_82 {d : Nat} {l0 l1 l2 : oV} {S : List oV} {σ : oSg} {Q : Option oV → (Nat → oC) → Prop} : oE d 209 82 [l0, l1, l2] S σ Q = oE d 209 84 [l0, l1, l2] (.inl (82) :: S) σ Q := pBip f_209_82 (by decide)
theorem f_209_84 : oFet 209 84 = some (.iaload, 1) := by decide +kernel
theorem s_209_84 {d : Nat} {l0 l1 l2 : oV} {a : Nat} {i : Int} {S : List oV} {σ : oSg} {Q : Option oV → (Nat → oC) → Prop} (hk : oAk a = some 0) (h0 : 0 ≤ i) (h1 : i < (oLn a : Int)) : oE d 209 84 [l0, l1, l2] (.inl i :: .inr (.inr (.inl a)) :: S) σ Q = oE d 209 85 [l0, l1, l2] (.inl (σ.2 a i.toNat) :: S) σ Q := oIal f_209_84 hk h0 h1
theorem f_209_85 : oFet 209 85 = some (.iadd, 1) := by decide +kernel
theorem s_209_85 {d : Nat} {l0 l1 l2 : oV} {x y : Int} {S : List oV} {σ : oSg} {Q : Option oV → (Nat → oC) → Prop} : oE d 209 85 [l0, l1, l2] (.inl y :: .inl x :: S) σ Q = oE d 209 86 [l0, l1, l2] (.inl (oAdd x y) :: S) σ Q := oS3 f_209_85 rfl rfl rfl
theorem f_209_86 : oFet 209 86 = some (.iload_n 1, 1) := by decide +kernel
theorem s_209_86 {d : Nat} {l0 l2 : oV} {x : Int} {S : List oV} {σ : oSg} {Q : Option oV → (Nat → oC) → Prop} : oE d 209 86 [l0, .inl x, l2] S σ Q = oE d 209 87 [l0, .inl x, l2] (.inl x :: S) σ Q := pLdN (k := 1) f_209_86 rfl rfl rfl
theorem f_209_87 : oFet 209 87 = some (.iastore, 1) := by decide +kernel
theorem s_209_87 {d : Nat} {l0 l1 l2 : oV} {a : Nat} {i v : Int} {S : List oV} {σ : oSg} {Q : Option oV → (Nat → oC) → Prop} (hk : oAk a = some 0) (h0 : 0 ≤ i) (h1 : i < (oLn a : Int)) : oE d 209 87 [l0, l1, l2] (.inl v :: .inl i :: .inr (.inr (.inl a)) :: S) σ Q = oE d 209 88 [l0, l1, l2] S (oSA σ a i.toNat v) Q := oIas f_209_87 hk h0 h1
theorem f_209_88 : oFet 209 88 = some (.aload_n 0, 1) := by decide +kernel
theorem s_209_88 {d : Nat} {l1 l2 : oV} {a : Nat} {S : List oV} {σ : oSg} {Q : Option oV → (Nat → oC) → Prop} : oE d 209 88 [.inr (.inr (.inl a)), l1, l2] S σ Q = oE d 209 89 [.inr (.inr (.inl a)), l1, l2] (.inr (.inr (.inl a)) :: S) σ Q := pLdN (k := 0) f_209_88 rfl rfl rfl
theorem f_209_89 : oFet 209 89 = some (.getfield 11, 3) := by decide +kernel
theorem s_209_89 {d : Nat} {l0 l1 l2 : oV} {a : Nat} {S : List oV} {σ : oSg} {Q : Option oV → (Nat → oC) → Prop} (hk : oKd a = some 11) : oE d 209 89 [l0, l1, l2] (.inr (.inr (.inl a)) :: S) σ Q = oE d 209 92 [l0, l1, l2] (.inr (.inr (.inl (oRf a 0))) :: S) σ Q := pGfR f_209_89 ow_209 fl_11_11 rfl (by decide) hk
theorem f_209_92 : oFet 209 92 = some (.bipush 91, 2) := by decide +kernel
theorem s_209_92 {d : Nat} {l0 l1 l2 : oV} {S : List oV} {σ : oSg} {Q : Option oV → (Nat → oC) → Prop} : oE d 209 92 [l0, l1, l2] S σ Q = oE d 209 94 [l0, l1, l2] (.inl (91) :: S) σ Q := pBip f_209_92 (by decide)
theorem f_209_94 : oFet 209 94 = some (.aload_n 0, 1) := by decide +kernel
theorem s_209_94 {d : Nat} {l1 l2 : oV} {a : Nat} {S : List oV} {σ : oSg} {Q : Option oV → (Nat → oC) → Prop} : oE d 209 94 [.inr (.inr (.inl a)), l1, l2] S σ Q = oE d 209 95 [.inr (.inr (.inl a)), l1, l2] (.inr (.inr (.inl a)) :: S) σ Q := pLdN (k := 0) f_209_94 rfl rfl rfl
theorem f_209_95 : oFet 209 95 = some (.getfield 11, 3) := by decide +kernel
theorem s_209_95 {d : Nat} {l0 l1 l2 : oV} {a : Nat} {S : List oV} {σ : oSg} {Q : Option oV → (Nat → oC) → Prop} (hk : oKd a = some 11) : oE d 209 95 [l0, l1, l2] (.inr (.inr (.inl a)) :: S) σ Q = oE d 209 98 [l0, l1, l2] (.inr (.inr (.inl (oRf a 0))) :: S) σ Q := pGfR f_209_95 ow_209 fl_11_11 rfl (by decide) hk
theorem f_209_98 : oFet 209 98 = some (.bipush 82, 2) := by decide +kernel
theorem s_209_98 {d : Nat} {l0 l1 l2 : oV} {S : List oV} {σ : oSg} {Q : Option oV → (Nat → oC) → Prop} : oE d 209 98 [l0, l1, l2] S σ Q = oE d 209 100 [l0, l1, l2] (.inl (82) :: S) σ Q := pBip f_209_98 (by decide)
theorem f_209_100 : oFet 209 100 = some (.iaload, 1) := by decide +kernel
theorem s_209_100 {d : Nat} {l0 l1 l2 : oV} {a : Nat} {i : Int} {S : List oV} {σ : oSg} {Q : Option oV → (Nat → oC) → Prop} (hk : oAk a = some 0) (h0 : 0 ≤ i) (h1 : i < (oLn a : Int)) : oE d 209 100 [l0, l1, l2] (.inl i :: .inr (.inr (.inl a)) :: S) σ Q = oE d 209 101 [l0, l1, l2] (.inl (σ.2 a i.toNat) :: S) σ Q := oIal f_209_100 hk h0 h1
theorem f_209_101 : oFet 209 101 = some (.iadd, 1) := by decide +kernel
theorem s_209_101 {d : Nat} {l0 l1 l2 : oV} {x y : Int} {S : List oV} {σ : oSg} {Q : Option oV → (Nat → oC) → Prop} : oE d 209 101 [l0, l1, l2] (.inl y :: .inl x :: S) σ Q = oE d 209 102 [l0, l1, l2] (.inl (oAdd x y) :: S) σ Q := oS3 f_209_101 rfl rfl rfl
theorem f_209_102 : oFet 209 102 = some (.iload_n 2, 1) := by decide +kernel
theorem s_209_102 {d : Nat} {l0 l1 : oV} {x : Int} {S : List oV} {σ : oSg} {Q : Option oV → (Nat → oC) → Prop} : oE d 209 102 [l0, l1, .inl x] S σ Q = oE d 209 103 [l0, l1, .inl x] (.inl x :: S) σ Q := pLdN (k := 2) f_209_102 rfl rfl rfl
theorem f_209_103 : oFet 209 103 = some (.iastore, 1) := by decide +kernel
theorem s_209_103 {d : Nat} {l0 l1 l2 : oV} {a : Nat} {i v : Int} {S : List oV} {σ : oSg} {Q : Option oV → (Nat → oC) → Prop} (hk : oAk a = some 0) (h0 : 0 ≤ i) (h1 : i < (oLn a : Int)) : oE d 209 103 [l0, l1, l2] (.inl v :: .inl i :: .inr (.inr (.inl a)) :: S) σ Q = oE d 209 104 [l0, l1, l2] S (oSA σ a i.toNat v) Q := oIas f_209_103 hk h0 h1
theorem f_209_104 : oFet 209 104 = some (.aload_n 0, 1) := by decide +kernel
theorem s_209_104 {d : Nat} {l1 l2 : oV} {a : Nat} {S : List oV} {σ : oSg} {Q : Option oV → (Nat → oC) → Prop} : oE d 209 104 [.inr (.inr (.inl a)), l1, l2] S σ Q = oE d 209 105 [.inr (.inr (.inl a)), l1, l2] (.inr (.inr (.inl a)) :: S) σ Q := pLdN (k := 0) f_209_104 rfl rfl rfl
theorem f_209_105 : oFet 209 105 = some (.getfield 11, 3) := by decide +kernel
theorem s_209_105 {d : Nat} {l0 l1 l2 : oV} {a : Nat} {S : List oV} {σ : oSg} {Q : Option oV → (Nat → oC) → Prop} (hk : oKd a = some 11) : oE d 209 105 [l0, l1, l2] (.inr (.inr (.inl a)) :: S) σ Q = oE d 209 108 [l0, l1, l2] (.inr (.inr (.inl (oRf a 0))) :: S) σ Q := pGfR f_209_105 ow_209 fl_11_11 rfl (by decide) hk
theorem f_209_108 : oFet 209 108 = some (.bipush 82, 2) := by decide +kernel
theorem s_209_108 {d : Nat} {l0 l1 l2 : oV} {S : List oV} {σ : oSg} {Q : Option oV → (Nat → oC) → Prop} : oE d 209 108 [l0, l1, l2] S σ Q = oE d 209 110 [l0, l1, l2] (.inl (82) :: S) σ Q := pBip f_209_108 (by decide)
theorem f_209_110 : oFet 209 110 = some (.dup2, 1) := by decide +kernel
theorem s_209_110 {d : Nat} {l0 l1 l2 : oV} {x : Int} {a : Nat} {S : List oV} {σ : oSg} {Q : Option oV → (Nat → oC) → Prop} : oE d 209 110 [l0, l1, l2] (.inl x :: .inr (.inr (.inl a)) :: S) σ Q = oE d 209 111 [l0, l1, l2] (.inl x :: .inr (.inr (.inl a)) :: .inl x :: .inr (.inr (.inl a)) :: S) σ Q := pDup2 f_209_110 rfl rfl
theorem f_209_111 : oFet 209 111 = some (.iaload, 1) := by decide +kernel
theorem s_209_111 {d : Nat} {l0 l1 l2 : oV} {a : Nat} {i : Int} {S : List oV} {σ : oSg} {Q : Option oV → (Nat → oC) → Prop} (hk : oAk a = some 0) (h0 : 0 ≤ i) (h1 : i < (oLn a : Int)) : oE d 209 111 [l0, l1, l2] (.inl i :: .inr (.inr (.inl a)) :: S) σ Q = oE d 209 112 [l0, l1, l2] (.inl (σ.2 a i.toNat) :: S) σ Q := oIal f_209_111 hk h0 h1
theorem f_209_112 : oFet 209 112 = some (.iconst 1, 1) := by decide +kernel
theorem s_209_112 {d : Nat} {l0 l1 l2 : oV} {S : List oV} {σ : oSg} {Q : Option oV → (Nat → oC) → Prop} : oE d 209 112 [l0, l1, l2] S σ Q = oE d 209 113 [l0, l1, l2] (.inl (1) :: S) σ Q := pKst f_209_112 (by decide)
theorem f_209_113 : oFet 209 113 = some (.iadd, 1) := by decide +kernel
theorem s_209_113 {d : Nat} {l0 l1 l2 : oV} {x y : Int} {S : List oV} {σ : oSg} {Q : Option oV → (Nat → oC) → Prop} : oE d 209 113 [l0, l1, l2] (.inl y :: .inl x :: S) σ Q = oE d 209 114 [l0, l1, l2] (.inl (oAdd x y) :: S) σ Q := oS3 f_209_113 rfl rfl rfl
theorem f_209_114 : oFet 209 114 = some (.iastore, 1) := by decide +kernel
theorem s_209_114 {d : Nat} {l0 l1 l2 : oV} {a : Nat} {i v : Int} {S : List oV} {σ : oSg} {Q : Option oV → (Nat → oC) → Prop} (hk : oAk a = some 0) (h0 : 0 ≤ i) (h1 : i < (oLn a : Int)) : oE d 209 114 [l0, l1, l2] (.inl v :: .inl i :: .inr (.inr (.inl a)) :: S) σ Q = oE d 209 115 [l0, l1, l2] S (oSA σ a i.toNat v) Q := oIas f_209_114 hk h0 h1
theorem f_209_115 : oFet 209 115 = some (.aload_n 0, 1) := by decide +kernel
theorem s_209_115 {d : Nat} {l1 l2 : oV} {a : Nat} {S : List oV} {σ : oSg} {Q : Option oV → (Nat → oC) → Prop} : oE d 209 115 [.inr (.inr (.inl a)), l1, l2] S σ Q = oE d 209 116 [.inr (.inr (.inl a)), l1, l2] (.inr (.inr (.inl a)) :: S) σ Q := pLdN (k := 0) f_209_115 rfl rfl rfl
theorem f_209_116 : oFet 209 116 = some (.getfield 11, 3) := by decide +kernel
theorem s_209_116 {d : Nat} {l0 l1 l2 : oV} {a : Nat} {S : List oV} {σ : oSg} {Q : Option oV → (Nat → oC) → Prop} (hk : oKd a = some 11) : oE d 209 116 [l0, l1, l2] (.inr (.inr (.inl a)) :: S) σ Q = oE d 209 119 [l0, l1, l2] (.inr (.inr (.inl (oRf a 0))) :: S) σ Q := pGfR f_209_116 ow_209 fl_11_11 rfl (by decide) hk
theorem f_209_119 : oFet 209 119 = some (.bipush 82, 2) := by decide +kernel
theorem s_209_119 {d : Nat} {l0 l1 l2 : oV} {S : List oV} {σ : oSg} {Q : Option oV → (Nat → oC) → Prop} : oE d 209 119 [l0, l1, l2] S σ Q = oE d 209 121 [l0, l1, l2] (.inl (82) :: S) σ Q := pBip f_209_119 (by decide)
theorem f_209_121 : oFet 209 121 = some (.iaload, 1) := by decide +kernel
theorem s_209_121 {d : Nat} {l0 l1 l2 : oV} {a : Nat} {i : Int} {S : List oV} {σ : oSg} {Q : Option oV → (Nat → oC) → Prop} (hk : oAk a = some 0) (h0 : 0 ≤ i) (h1 : i < (oLn a : Int)) : oE d 209 121 [l0, l1, l2] (.inl i :: .inr (.inr (.inl a)) :: S) σ Q = oE d 209 122 [l0, l1, l2] (.inl (σ.2 a i.toNat) :: S) σ Q := oIal f_209_121 hk h0 h1
theorem f_209_122 : oFet 209 122 = some (.ireturn, 1) := by decide +kernel
theorem s_209_122 {d : Nat} {l0 l1 l2 : oV} {x : Int} {σ : oSg} {Q : Option oV → (Nat → oC) → Prop} : oE d 209 122 [l0, l1, l2] [.inl x] σ Q = Q (some (.inl x)) (oBld σ) := oIret f_209_122 rt_209
theorem ow_210 : (oMt 210).2.2.2.2.1 = 11 := by decide +kernel
theorem rt_210 : (oMt 210).2.2.2.1 = some .int := by decide +kernel
theorem nl_210 : (oMt 210).2.2.1 = 4 := by decide +kernel
theorem f_210_0 : oFet 210 0 = some (.iload_n 1, 1) := by decide +kernel
theorem s_210_0 {d : Nat} {l0 l2 l3 : oV} {x : Int} {S : List oV} {σ : oSg} {Q : Option oV → (Nat → oC) → Prop} : oE d 210 0 [l0, .inl x, l2, l3] S σ Q = oE d 210 1 [l0, .inl x, l2, l3] (.inl x :: S) σ Q := pLdN (k := 1) f_210_0 rfl rfl rfl
theorem f_210_1 : oFet 210 1 = some (.iconst 0, 1) := by decide +kernel
theorem s_210_1 {d : Nat} {l0 l1 l2 l3 : oV} {S : List oV} {σ : oSg} {Q : Option oV → (Nat → oC) → Prop} : oE d 210 1 [l0, l1, l2, l3] S σ Q = oE d 210 2 [l0, l1, l2, l3] (.inl (0) :: S) σ Q := pKst f_210_1 (by decide)
theorem f_210_2 : oFet 210 2 = some (.iconst 2, 1) := by decide +kernel
theorem s_210_2 {d : Nat} {l0 l1 l2 l3 : oV} {S : List oV} {σ : oSg} {Q : Option oV → (Nat → oC) → Prop} : oE d 210 2 [l0, l1, l2, l3] S σ Q = oE d 210 3 [l0, l1, l2, l3] (.inl (2) :: S) σ Q := pKst f_210_2 (by decide)
theorem f_210_3 : oFet 210 3 = some (.invokestatic 57, 3) := by decide +kernel
theorem c_210_3 {d : Nat} {l0 l1 l2 l3 : oV} {x0 x1 x2 : oV} {v : Option oV} {τ : oSg} {S : List oV} {σ : oSg} {Q : Option oV → (Nat → oC) → Prop} (hm : oMi d 146 [x0, x1, x2] σ v τ) (hs : oSmall S = true) : oE d 210 3 [l0, l1, l2, l3] (x2 :: x1 :: x0 :: S) σ Q = oE d 210 6 [l0, l1, l2, l3] (v.toList ++ S) τ Q := pCallS f_210_3 ow_210 lk_11_57 mt_146 rfl rfl rfl hs hm
theorem f_210_6 : oFet 210 6 = some (.ifCond .ne 5, 3) := by decide +kernel
theorem s_210_6 {d : Nat} {l0 l1 l2 l3 : oV} {x : Int} {S : List oV} {σ : oSg} {Q : Option oV → (Nat → oC) → Prop} : oE d 210 6 [l0, l1, l2, l3] (.inl x :: S) σ Q = if ¬ x = 0 then oE d 210 11 [l0, l1, l2, l3] S σ Q else oE d 210 9 [l0, l1, l2, l3] S σ Q := oIfNe f_210_6 (by decide)
theorem f_210_9 : oFet 210 9 = some (.iconst (-1), 1) := by decide +kernel
theorem s_210_9 {d : Nat} {l0 l1 l2 l3 : oV} {S : List oV} {σ : oSg} {Q : Option oV → (Nat → oC) → Prop} : oE d 210 9 [l0, l1, l2, l3] S σ Q = oE d 210 10 [l0, l1, l2, l3] (.inl (-1) :: S) σ Q := pKst f_210_9 (by decide)
theorem f_210_10 : oFet 210 10 = some (.ireturn, 1) := by decide +kernel
theorem s_210_10 {d : Nat} {l0 l1 l2 l3 : oV} {x : Int} {σ : oSg} {Q : Option oV → (Nat → oC) → Prop} : oE d 210 10 [l0, l1, l2, l3] [.inl x] σ Q = Q (some (.inl x)) (oBld σ) := oIret f_210_10 rt_210
theorem f_210_11 : oFet 210 11 = some (.aload_n 0, 1) := by decide +kernel
theorem s_210_11 {d : Nat} {l1 l2 l3 : oV} {a : Nat} {S : List oV} {σ : oSg} {Q : Option oV → (Nat → oC) → Prop} : oE d 210 11 [.inr (.inr (.inl a)), l1, l2, l3] S σ Q = oE d 210 12 [.inr (.inr (.inl a)), l1, l2, l3] (.inr (.inr (.inl a)) :: S) σ Q := pLdN (k := 0) f_210_11 rfl rfl rfl
theorem f_210_12 : oFet 210 12 = some (.iconst 0, 1) := by decide +kernel
theorem s_210_12 {d : Nat} {l0 l1 l2 l3 : oV} {S : List oV} {σ : oSg} {Q : Option oV → (Nat → oC) → Prop} : oE d 210 12 [l0, l1, l2, l3] S σ Q = oE d 210 13 [l0, l1, l2, l3] (.inl (0) :: S) σ Q := pKst f_210_12 (by decide)
theorem f_210_13 : oFet 210 13 = some (.iconst (-1), 1) := by decide +kernel
theorem s_210_13 {d : Nat} {l0 l1 l2 l3 : oV} {S : List oV} {σ : oSg} {Q : Option oV → (Nat → oC) → Prop} : oE d 210 13 [l0, l1, l2, l3] S σ Q = oE d 210 14 [l0, l1, l2, l3] (.inl (-1) :: S) σ Q := pKst f_210_13 (by decide)
theorem f_210_14 : oFet 210 14 = some (.invokevirtual 105, 3) := by decide +kernel
theorem c_210_14 {d : Nat} {l0 l1 l2 l3 : oV} {x0 x1 : oV} {a : Nat} {v : Option oV} {τ : oSg} {S : List oV} {σ : oSg} {Q : Option oV → (Nat → oC) → Prop} (hm : oMi d 159 [.inr (.inr (.inl a)), x0, x1] σ v τ) (hk : oKd a = some 11) (hs : oSmall S = true) : oE d 210 14 [l0, l1, l2, l3] (x1 :: x0 :: .inr (.inr (.inl a)) :: S) σ Q = oE d 210 17 [l0, l1, l2, l3] (v.toList ++ S) τ Q := pCallV f_210_14 ow_210 lk_11_105 mt_159 rfl rfl rfl hk hs hm
theorem f_210_17 : oFet 210 17 = some (.aload_n 0, 1) := by decide +kernel
theorem s_210_17 {d : Nat} {l1 l2 l3 : oV} {a : Nat} {S : List oV} {σ : oSg} {Q : Option oV → (Nat → oC) → Prop} : oE d 210 17 [.inr (.inr (.inl a)), l1, l2, l3] S σ Q = oE d 210 18 [.inr (.inr (.inl a)), l1, l2, l3] (.inr (.inr (.inl a)) :: S) σ Q := pLdN (k := 0) f_210_17 rfl rfl rfl
theorem f_210_18 : oFet 210 18 = some (.getfield 33, 3) := by decide +kernel
theorem s_210_18 {d : Nat} {l0 l1 l2 l3 : oV} {a : Nat} {S : List oV} {σ : oSg} {Q : Option oV → (Nat → oC) → Prop} (hk : oKd a = some 11) : oE d 210 18 [l0, l1, l2, l3] (.inr (.inr (.inl a)) :: S) σ Q = oE d 210 21 [l0, l1, l2, l3] (.inr (.inr (.inl (oRf a 13))) :: S) σ Q := pGfR f_210_18 ow_210 fl_11_33 rfl (by decide) hk
theorem f_210_21 : oFet 210 21 = some (.iconst 0, 1) := by decide +kernel
theorem s_210_21 {d : Nat} {l0 l1 l2 l3 : oV} {S : List oV} {σ : oSg} {Q : Option oV → (Nat → oC) → Prop} : oE d 210 21 [l0, l1, l2, l3] S σ Q = oE d 210 22 [l0, l1, l2, l3] (.inl (0) :: S) σ Q := pKst f_210_21 (by decide)
theorem f_210_22 : oFet 210 22 = some (.aload_n 0, 1) := by decide +kernel
theorem s_210_22 {d : Nat} {l1 l2 l3 : oV} {a : Nat} {S : List oV} {σ : oSg} {Q : Option oV → (Nat → oC) → Prop} : oE d 210 22 [.inr (.inr (.inl a)), l1, l2, l3] S σ Q = oE d 210 23 [.inr (.inr (.inl a)), l1, l2, l3] (.inr (.inr (.inl a)) :: S) σ Q := pLdN (k := 0) f_210_22 rfl rfl rfl
theorem f_210_23 : oFet 210 23 = some (.getfield 39, 3) := by decide +kernel
theorem s_210_23 {d : Nat} {l0 l1 l2 l3 : oV} {a : Nat} {S : List oV} {σ : oSg} {Q : Option oV → (Nat → oC) → Prop} (hk : oKd a = some 11) : oE d 210 23 [l0, l1, l2, l3] (.inr (.inr (.inl a)) :: S) σ Q = oE d 210 26 [l0, l1, l2, l3] (.inr (.inr (.inl (oRf a 19))) :: S) σ Q := pGfR f_210_23 ow_210 fl_11_39 rfl (by decide) hk
theorem f_210_26 : oFet 210 26 = some (.iconst 0, 1) := by decide +kernel
theorem s_210_26 {d : Nat} {l0 l1 l2 l3 : oV} {S : List oV} {σ : oSg} {Q : Option oV → (Nat → oC) → Prop} : oE d 210 26 [l0, l1, l2, l3] S σ Q = oE d 210 27 [l0, l1, l2, l3] (.inl (0) :: S) σ Q := pKst f_210_26 (by decide)
theorem f_210_27 : oFet 210 27 = some (.bipush 7, 2) := by decide +kernel
theorem s_210_27 {d : Nat} {l0 l1 l2 l3 : oV} {S : List oV} {σ : oSg} {Q : Option oV → (Nat → oC) → Prop} : oE d 210 27 [l0, l1, l2, l3] S σ Q = oE d 210 29 [l0, l1, l2, l3] (.inl (7) :: S) σ Q := pBip f_210_27 (by decide)
theorem f_210_29 : oFet 210 29 = some (.invokestatic 69, 3) := by decide +kernel
theorem s_210_29 {d : Nat} {l0 l1 l2 l3 : oV} {a b : Nat} {sp dp n : Int} {S : List oV} {σ : oSg} {Q : Option oV → (Nat → oC) → Prop} (ha : oAk a = some 0) (hb : oAk b = some 0) (hs : oSmall S = true) (g1 : 0 ≤ sp) (g2 : 0 ≤ dp) (g3 : 0 ≤ n) (g4 : sp + n ≤ (oLn a : Int)) (g5 : dp + n ≤ (oLn b : Int)) : oE d 210 29 [l0, l1, l2, l3] (.inl n :: .inl dp :: .inr (.inr (.inl b)) :: .inl sp :: .inr (.inr (.inl a)) :: S) σ Q = oE d 210 32 [l0, l1, l2, l3] S (oCp σ a sp b dp n) Q := pCpy f_210_29 ow_210 lk_11_69 ha hb (by decide) hs g1 g2 g3 g4 g5
theorem f_210_32 : oFet 210 32 = some (.aload_n 0, 1) := by decide +kernel
theorem s_210_32 {d : Nat} {l1 l2 l3 : oV} {a : Nat} {S : List oV} {σ : oSg} {Q : Option oV → (Nat → oC) → Prop} : oE d 210 32 [.inr (.inr (.inl a)), l1, l2, l3] S σ Q = oE d 210 33 [.inr (.inr (.inl a)), l1, l2, l3] (.inr (.inr (.inl a)) :: S) σ Q := pLdN (k := 0) f_210_32 rfl rfl rfl
theorem f_210_33 : oFet 210 33 = some (.invokevirtual 254, 3) := by decide +kernel
theorem c_210_33 {d : Nat} {l0 l1 l2 l3 : oV} {a : Nat} {v : Option oV} {τ : oSg} {S : List oV} {σ : oSg} {Q : Option oV → (Nat → oC) → Prop} (hm : oMi d 211 [.inr (.inr (.inl a))] σ v τ) (hk : oKd a = some 11) (hs : oSmall S = true) : oE d 210 33 [l0, l1, l2, l3] (.inr (.inr (.inl a)) :: S) σ Q = oE d 210 36 [l0, l1, l2, l3] (v.toList ++ S) τ Q := pCallV f_210_33 ow_210 lk_11_254 mt_211 rfl rfl rfl hk hs hm
theorem f_210_36 : oFet 210 36 = some (.iconst 0, 1) := by decide +kernel
theorem s_210_36 {d : Nat} {l0 l1 l2 l3 : oV} {S : List oV} {σ : oSg} {Q : Option oV → (Nat → oC) → Prop} : oE d 210 36 [l0, l1, l2, l3] S σ Q = oE d 210 37 [l0, l1, l2, l3] (.inl (0) :: S) σ Q := pKst f_210_36 (by decide)
theorem f_210_37 : oFet 210 37 = some (.istore_n 2, 1) := by decide +kernel
theorem s_210_37 {d : Nat} {l0 l1 l2 l3 : oV} {x : Int} {S : List oV} {σ : oSg} {Q : Option oV → (Nat → oC) → Prop} (c2 : oCat l2 = 1) (c1 : oCat l1 = 1)  : oE d 210 37 [l0, l1, l2, l3] (.inl x :: S) σ Q = oE d 210 38 [l0, l1, .inl x, l3] S σ Q := pSt (i := 2) f_210_37 rfl rfl (show (2 : Nat) < 4 by decide) (oC1n c1) (oC1n c2) rfl
theorem f_210_38 : oFet 210 38 = some (.iload_n 2, 1) := by decide +kernel
theorem s_210_38 {d : Nat} {l0 l1 l3 : oV} {x : Int} {S : List oV} {σ : oSg} {Q : Option oV → (Nat → oC) → Prop} : oE d 210 38 [l0, l1, .inl x, l3] S σ Q = oE d 210 39 [l0, l1, .inl x, l3] (.inl x :: S) σ Q := pLdN (k := 2) f_210_38 rfl rfl rfl
theorem f_210_39 : oFet 210 39 = some (.aload_n 0, 1) := by decide +kernel
theorem s_210_39 {d : Nat} {l1 l2 l3 : oV} {a : Nat} {S : List oV} {σ : oSg} {Q : Option oV → (Nat → oC) → Prop} : oE d 210 39 [.inr (.inr (.inl a)), l1, l2, l3] S σ Q = oE d 210 40 [.inr (.inr (.inl a)), l1, l2, l3] (.inr (.inr (.inl a)) :: S) σ Q := pLdN (k := 0) f_210_39 rfl rfl rfl
theorem f_210_40 : oFet 210 40 = some (.getfield 11, 3) := by decide +kernel
theorem s_210_40 {d : Nat} {l0 l1 l2 l3 : oV} {a : Nat} {S : List oV} {σ : oSg} {Q : Option oV → (Nat → oC) → Prop} (hk : oKd a = some 11) : oE d 210 40 [l0, l1, l2, l3] (.inr (.inr (.inl a)) :: S) σ Q = oE d 210 43 [l0, l1, l2, l3] (.inr (.inr (.inl (oRf a 0))) :: S) σ Q := pGfR f_210_40 ow_210 fl_11_11 rfl (by decide) hk
theorem f_210_43 : oFet 210 43 = some (.bipush 82, 2) := by decide +kernel
theorem s_210_43 {d : Nat} {l0 l1 l2 l3 : oV} {S : List oV} {σ : oSg} {Q : Option oV → (Nat → oC) → Prop} : oE d 210 43 [l0, l1, l2, l3] S σ Q = oE d 210 45 [l0, l1, l2, l3] (.inl (82) :: S) σ Q := pBip f_210_43 (by decide)
theorem f_210_45 : oFet 210 45 = some (.iaload, 1) := by decide +kernel
theorem s_210_45 {d : Nat} {l0 l1 l2 l3 : oV} {a : Nat} {i : Int} {S : List oV} {σ : oSg} {Q : Option oV → (Nat → oC) → Prop} (hk : oAk a = some 0) (h0 : 0 ≤ i) (h1 : i < (oLn a : Int)) : oE d 210 45 [l0, l1, l2, l3] (.inl i :: .inr (.inr (.inl a)) :: S) σ Q = oE d 210 46 [l0, l1, l2, l3] (.inl (σ.2 a i.toNat) :: S) σ Q := oIal f_210_45 hk h0 h1
theorem f_210_46 : oFet 210 46 = some (.if_icmp .ge 31, 3) := by decide +kernel
theorem s_210_46 {d : Nat} {l0 l1 l2 l3 : oV} {x y : Int} {S : List oV} {σ : oSg} {Q : Option oV → (Nat → oC) → Prop} : oE d 210 46 [l0, l1, l2, l3] (.inl y :: .inl x :: S) σ Q = if y ≤ x then oE d 210 77 [l0, l1, l2, l3] S σ Q else oE d 210 49 [l0, l1, l2, l3] S σ Q := oCmpGe f_210_46 (by decide)
theorem f_210_49 : oFet 210 49 = some (.aload_n 0, 1) := by decide +kernel
theorem s_210_49 {d : Nat} {l1 l2 l3 : oV} {a : Nat} {S : List oV} {σ : oSg} {Q : Option oV → (Nat → oC) → Prop} : oE d 210 49 [.inr (.inr (.inl a)), l1, l2, l3] S σ Q = oE d 210 50 [.inr (.inr (.inl a)), l1, l2, l3] (.inr (.inr (.inl a)) :: S) σ Q := pLdN (k := 0) f_210_49 rfl rfl rfl
theorem f_210_50 : oFet 210 50 = some (.aload_n 0, 1) := by decide +kernel
theorem s_210_50 {d : Nat} {l1 l2 l3 : oV} {a : Nat} {S : List oV} {σ : oSg} {Q : Option oV → (Nat → oC) → Prop} : oE d 210 50 [.inr (.inr (.inl a)), l1, l2, l3] S σ Q = oE d 210 51 [.inr (.inr (.inl a)), l1, l2, l3] (.inr (.inr (.inl a)) :: S) σ Q := pLdN (k := 0) f_210_50 rfl rfl rfl
theorem f_210_51 : oFet 210 51 = some (.getfield 11, 3) := by decide +kernel
theorem s_210_51 {d : Nat} {l0 l1 l2 l3 : oV} {a : Nat} {S : List oV} {σ : oSg} {Q : Option oV → (Nat → oC) → Prop} (hk : oKd a = some 11) : oE d 210 51 [l0, l1, l2, l3] (.inr (.inr (.inl a)) :: S) σ Q = oE d 210 54 [l0, l1, l2, l3] (.inr (.inr (.inl (oRf a 0))) :: S) σ Q := pGfR f_210_51 ow_210 fl_11_11 rfl (by decide) hk
theorem f_210_54 : oFet 210 54 = some (.bipush 83, 2) := by decide +kernel
theorem s_210_54 {d : Nat} {l0 l1 l2 l3 : oV} {S : List oV} {σ : oSg} {Q : Option oV → (Nat → oC) → Prop} : oE d 210 54 [l0, l1, l2, l3] S σ Q = oE d 210 56 [l0, l1, l2, l3] (.inl (83) :: S) σ Q := pBip f_210_54 (by decide)
theorem f_210_56 : oFet 210 56 = some (.iload_n 2, 1) := by decide +kernel
theorem s_210_56 {d : Nat} {l0 l1 l3 : oV} {x : Int} {S : List oV} {σ : oSg} {Q : Option oV → (Nat → oC) → Prop} : oE d 210 56 [l0, l1, .inl x, l3] S σ Q = oE d 210 57 [l0, l1, .inl x, l3] (.inl x :: S) σ Q := pLdN (k := 2) f_210_56 rfl rfl rfl
theorem f_210_57 : oFet 210 57 = some (.iadd, 1) := by decide +kernel
theorem s_210_57 {d : Nat} {l0 l1 l2 l3 : oV} {x y : Int} {S : List oV} {σ : oSg} {Q : Option oV → (Nat → oC) → Prop} : oE d 210 57 [l0, l1, l2, l3] (.inl y :: .inl x :: S) σ Q = oE d 210 58 [l0, l1, l2, l3] (.inl (oAdd x y) :: S) σ Q := oS3 f_210_57 rfl rfl rfl
theorem f_210_58 : oFet 210 58 = some (.iaload, 1) := by decide +kernel
theorem s_210_58 {d : Nat} {l0 l1 l2 l3 : oV} {a : Nat} {i : Int} {S : List oV} {σ : oSg} {Q : Option oV → (Nat → oC) → Prop} (hk : oAk a = some 0) (h0 : 0 ≤ i) (h1 : i < (oLn a : Int)) : oE d 210 58 [l0, l1, l2, l3] (.inl i :: .inr (.inr (.inl a)) :: S) σ Q = oE d 210 59 [l0, l1, l2, l3] (.inl (σ.2 a i.toNat) :: S) σ Q := oIal f_210_58 hk h0 h1
theorem f_210_59 : oFet 210 59 = some (.aload_n 0, 1) := by decide +kernel
theorem s_210_59 {d : Nat} {l1 l2 l3 : oV} {a : Nat} {S : List oV} {σ : oSg} {Q : Option oV → (Nat → oC) → Prop} : oE d 210 59 [.inr (.inr (.inl a)), l1, l2, l3] S σ Q = oE d 210 60 [.inr (.inr (.inl a)), l1, l2, l3] (.inr (.inr (.inl a)) :: S) σ Q := pLdN (k := 0) f_210_59 rfl rfl rfl
theorem f_210_60 : oFet 210 60 = some (.getfield 11, 3) := by decide +kernel
theorem s_210_60 {d : Nat} {l0 l1 l2 l3 : oV} {a : Nat} {S : List oV} {σ : oSg} {Q : Option oV → (Nat → oC) → Prop} (hk : oKd a = some 11) : oE d 210 60 [l0, l1, l2, l3] (.inr (.inr (.inl a)) :: S) σ Q = oE d 210 63 [l0, l1, l2, l3] (.inr (.inr (.inl (oRf a 0))) :: S) σ Q := pGfR f_210_60 ow_210 fl_11_11 rfl (by decide) hk
theorem f_210_63 : oFet 210 63 = some (.bipush 91, 2) := by decide +kernel
theorem s_210_63 {d : Nat} {l0 l1 l2 l3 : oV} {S : List oV} {σ : oSg} {Q : Option oV → (Nat → oC) → Prop} : oE d 210 63 [l0, l1, l2, l3] S σ Q = oE d 210 65 [l0, l1, l2, l3] (.inl (91) :: S) σ Q := pBip f_210_63 (by decide)
theorem f_210_65 : oFet 210 65 = some (.iload_n 2, 1) := by decide +kernel
theorem s_210_65 {d : Nat} {l0 l1 l3 : oV} {x : Int} {S : List oV} {σ : oSg} {Q : Option oV → (Nat → oC) → Prop} : oE d 210 65 [l0, l1, .inl x, l3] S σ Q = oE d 210 66 [l0, l1, .inl x, l3] (.inl x :: S) σ Q := pLdN (k := 2) f_210_65 rfl rfl rfl
theorem f_210_66 : oFet 210 66 = some (.iadd, 1) := by decide +kernel
theorem s_210_66 {d : Nat} {l0 l1 l2 l3 : oV} {x y : Int} {S : List oV} {σ : oSg} {Q : Option oV → (Nat → oC) → Prop} : oE d 210 66 [l0, l1, l2, l3] (.inl y :: .inl x :: S) σ Q = oE d 210 67 [l0, l1, l2, l3] (.inl (oAdd x y) :: S) σ Q := oS3 f_210_66 rfl rfl rfl
theorem f_210_67 : oFet 210 67 = some (.iaload, 1) := by decide +kernel
theorem s_210_67 {d : Nat} {l0 l1 l2 l3 : oV} {a : Nat} {i : Int} {S : List oV} {σ : oSg} {Q : Option oV → (Nat → oC) → Prop} (hk : oAk a = some 0) (h0 : 0 ≤ i) (h1 : i < (oLn a : Int)) : oE d 210 67 [l0, l1, l2, l3] (.inl i :: .inr (.inr (.inl a)) :: S) σ Q = oE d 210 68 [l0, l1, l2, l3] (.inl (σ.2 a i.toNat) :: S) σ Q := oIal f_210_67 hk h0 h1
theorem f_210_68 : oFet 210 68 = some (.invokevirtual 257, 3) := by decide +kernel
theorem c_210_68 {d : Nat} {l0 l1 l2 l3 : oV} {x0 x1 : oV} {a : Nat} {v : Option oV} {τ : oSg} {S : List oV} {σ : oSg} {Q : Option oV → (Nat → oC) → Prop} (hm : oMi d 212 [.inr (.inr (.inl a)), x0, x1] σ v τ) (hk : oKd a = some 11) (hs : oSmall S = true) : oE d 210 68 [l0, l1, l2, l3] (x1 :: x0 :: .inr (.inr (.inl a)) :: S) σ Q = oE d 210 71 [l0, l1, l2, l3] (v.toList ++ S) τ Q := pCallV f_210_68 ow_210 lk_11_257 mt_212 rfl rfl rfl hk hs hm
theorem f_210_71 : oFet 210 71 = some (.iinc 2 1, 3) := by decide +kernel
theorem s_210_71 {d : Nat} {l0 l1 l3 : oV} {x : Int} {S : List oV} {σ : oSg} {Q : Option oV → (Nat → oC) → Prop} (c1 : oCat l1 = 1)  : oE d 210 71 [l0, l1, .inl x, l3] S σ Q = oE d 210 74 [l0, l1, .inl (oAdd x (1)), l3] S σ Q := pInc f_210_71 rfl (show (2 : Nat) < 4 by decide) (oC1n c1) (oC1n (v := .inl x) rfl) rfl
theorem f_210_74 : oFet 210 74 = some (.goto (-36), 3) := by decide +kernel
theorem s_210_74 {d : Nat} {l0 l1 l2 l3 : oV} {S : List oV} {σ : oSg} {Q : Option oV → (Nat → oC) → Prop} : oE d 210 74 [l0, l1, l2, l3] S σ Q = oE d 210 38 [l0, l1, l2, l3] S σ Q := pGoto f_210_74 (by decide)
theorem f_210_77 : oFet 210 77 = some (.aload_n 0, 1) := by decide +kernel
theorem s_210_77 {d : Nat} {l1 l2 l3 : oV} {a : Nat} {S : List oV} {σ : oSg} {Q : Option oV → (Nat → oC) → Prop} : oE d 210 77 [.inr (.inr (.inl a)), l1, l2, l3] S σ Q = oE d 210 78 [.inr (.inr (.inl a)), l1, l2, l3] (.inr (.inr (.inl a)) :: S) σ Q := pLdN (k := 0) f_210_77 rfl rfl rfl
theorem f_210_78 : oFet 210 78 = some (.iload_n 1, 1) := by decide +kernel
theorem s_210_78 {d : Nat} {l0 l2 l3 : oV} {x : Int} {S : List oV} {σ : oSg} {Q : Option oV → (Nat → oC) → Prop} : oE d 210 78 [l0, .inl x, l2, l3] S σ Q = oE d 210 79 [l0, .inl x, l2, l3] (.inl x :: S) σ Q := pLdN (k := 1) f_210_78 rfl rfl rfl
theorem f_210_79 : oFet 210 79 = some (.iconst 1, 1) := by decide +kernel
theorem s_210_79 {d : Nat} {l0 l1 l2 l3 : oV} {S : List oV} {σ : oSg} {Q : Option oV → (Nat → oC) → Prop} : oE d 210 79 [l0, l1, l2, l3] S σ Q = oE d 210 80 [l0, l1, l2, l3] (.inl (1) :: S) σ Q := pKst f_210_79 (by decide)
theorem f_210_80 : oFet 210 80 = some (.if_icmp .ne 7, 3) := by decide +kernel
theorem s_210_80 {d : Nat} {l0 l1 l2 l3 : oV} {x y : Int} {S : List oV} {σ : oSg} {Q : Option oV → (Nat → oC) → Prop} : oE d 210 80 [l0, l1, l2, l3] (.inl y :: .inl x :: S) σ Q = if ¬ x = y then oE d 210 87 [l0, l1, l2, l3] S σ Q else oE d 210 83 [l0, l1, l2, l3] S σ Q := oCmpNe f_210_80 (by decide)
theorem f_210_83 : oFet 210 83 = some (.iconst 1, 1) := by decide +kernel
theorem s_210_83 {d : Nat} {l0 l1 l2 l3 : oV} {S : List oV} {σ : oSg} {Q : Option oV → (Nat → oC) → Prop} : oE d 210 83 [l0, l1, l2, l3] S σ Q = oE d 210 84 [l0, l1, l2, l3] (.inl (1) :: S) σ Q := pKst f_210_83 (by decide)
theorem f_210_84 : oFet 210 84 = some (.goto 4, 3) := by decide +kernel
theorem s_210_84 {d : Nat} {l0 l1 l2 l3 : oV} {S : List oV} {σ : oSg} {Q : Option oV → (Nat → oC) → Prop} : oE d 210 84 [l0, l1, l2, l3] S σ Q = oE d 210 88 [l0, l1, l2, l3] S σ Q := pGoto f_210_84 (by decide)
theorem f_210_87 : oFet 210 87 = some (.iconst 0, 1) := by decide +kernel
theorem s_210_87 {d : Nat} {l0 l1 l2 l3 : oV} {S : List oV} {σ : oSg} {Q : Option oV → (Nat → oC) → Prop} : oE d 210 87 [l0, l1, l2, l3] S σ Q = oE d 210 88 [l0, l1, l2, l3] (.inl (0) :: S) σ Q := pKst f_210_87 (by decide)
theorem f_210_88 : oFet 210 88 = some (.iconst (-1), 1) := by decide +kernel
theorem s_210_88 {d : Nat} {l0 l1 l2 l3 : oV} {S : List oV} {σ : oSg} {Q : Option oV → (Nat → oC) → Prop} : oE d 210 88 [l0, l1, l2, l3] S σ Q = oE d 210 89 [l0, l1, l2, l3] (.inl (-1) :: S) σ Q := pKst f_210_88 (by decide)
theorem f_210_89 : oFet 210 89 = some (.invokevirtual 105, 3) := by decide +kernel
theorem c_210_89 {d : Nat} {l0 l1 l2 l3 : oV} {x0 x1 : oV} {a : Nat} {v : Option oV} {τ : oSg} {S : List oV} {σ : oSg} {Q : Option oV → (Nat → oC) → Prop} (hm : oMi d 159 [.inr (.inr (.inl a)), x0, x1] σ v τ) (hk : oKd a = some 11) (hs : oSmall S = true) : oE d 210 89 [l0, l1, l2, l3] (x1 :: x0 :: .inr (.inr (.inl a)) :: S) σ Q = oE d 210 92 [l0, l1, l2, l3] (v.toList ++ S) τ Q := pCallV f_210_89 ow_210 lk_11_105 mt_159 rfl rfl rfl hk hs hm
theorem f_210_92 : oFet 210 92 = some (.aload_n 0, 1) := by decide +kernel
theorem s_210_92 {d : Nat} {l1 l2 l3 : oV} {a : Nat} {S : List oV} {σ : oSg} {Q : Option oV → (Nat → oC) → Prop} : oE d 210 92 [.inr (.inr (.inl a)), l1, l2, l3] S σ Q = oE d 210 93 [.inr (.inr (.inl a)), l1, l2, l3] (.inr (.inr (.inl a)) :: S) σ Q := pLdN (k := 0) f_210_92 rfl rfl rfl
theorem f_210_93 : oFet 210 93 = some (.invokevirtual 260, 3) := by decide +kernel
theorem c_210_93 {d : Nat} {l0 l1 l2 l3 : oV} {a : Nat} {v : Option oV} {τ : oSg} {S : List oV} {σ : oSg} {Q : Option oV → (Nat → oC) → Prop} (hm : oMi d 213 [.inr (.inr (.inl a))] σ v τ) (hk : oKd a = some 11) (hs : oSmall S = true) : oE d 210 93 [l0, l1, l2, l3] (.inr (.inr (.inl a)) :: S) σ Q = oE d 210 96 [l0, l1, l2, l3] (v.toList ++ S) τ Q := pCallV f_210_93 ow_210 lk_11_260 mt_213 rfl rfl rfl hk hs hm
theorem f_210_96 : oFet 210 96 = some (.iload_n 1, 1) := by decide +kernel
theorem s_210_96 {d : Nat} {l0 l2 l3 : oV} {x : Int} {S : List oV} {σ : oSg} {Q : Option oV → (Nat → oC) → Prop} : oE d 210 96 [l0, .inl x, l2, l3] S σ Q = oE d 210 97 [l0, .inl x, l2, l3] (.inl x :: S) σ Q := pLdN (k := 1) f_210_96 rfl rfl rfl
theorem f_210_97 : oFet 210 97 = some (.iconst 2, 1) := by decide +kernel
theorem s_210_97 {d : Nat} {l0 l1 l2 l3 : oV} {S : List oV} {σ : oSg} {Q : Option oV → (Nat → oC) → Prop} : oE d 210 97 [l0, l1, l2, l3] S σ Q = oE d 210 98 [l0, l1, l2, l3] (.inl (2) :: S) σ Q := pKst f_210_97 (by decide)
theorem f_210_98 : oFet 210 98 = some (.if_icmp .ge 19, 3) := by decide +kernel
theorem s_210_98 {d : Nat} {l0 l1 l2 l3 : oV} {x y : Int} {S : List oV} {σ : oSg} {Q : Option oV → (Nat → oC) → Prop} : oE d 210 98 [l0, l1, l2, l3] (.inl y :: .inl x :: S) σ Q = if y ≤ x then oE d 210 117 [l0, l1, l2, l3] S σ Q else oE d 210 101 [l0, l1, l2, l3] S σ Q := oCmpGe f_210_98 (by decide)
theorem f_210_101 : oFet 210 101 = some (.iload_n 1, 1) := by decide +kernel
theorem s_210_101 {d : Nat} {l0 l2 l3 : oV} {x : Int} {S : List oV} {σ : oSg} {Q : Option oV → (Nat → oC) → Prop} : oE d 210 101 [l0, .inl x, l2, l3] S σ Q = oE d 210 102 [l0, .inl x, l2, l3] (.inl x :: S) σ Q := pLdN (k := 1) f_210_101 rfl rfl rfl
theorem f_210_102 : oFet 210 102 = some (.ifCond .ne 10, 3) := by decide +kernel
theorem s_210_102 {d : Nat} {l0 l1 l2 l3 : oV} {x : Int} {S : List oV} {σ : oSg} {Q : Option oV → (Nat → oC) → Prop} : oE d 210 102 [l0, l1, l2, l3] (.inl x :: S) σ Q = if ¬ x = 0 then oE d 210 112 [l0, l1, l2, l3] S σ Q else oE d 210 105 [l0, l1, l2, l3] S σ Q := oIfNe f_210_102 (by decide)
theorem f_210_105 : oFet 210 105 = some (.aload_n 0, 1) := by decide +kernel
theorem s_210_105 {d : Nat} {l1 l2 l3 : oV} {a : Nat} {S : List oV} {σ : oSg} {Q : Option oV → (Nat → oC) → Prop} : oE d 210 105 [.inr (.inr (.inl a)), l1, l2, l3] S σ Q = oE d 210 106 [.inr (.inr (.inl a)), l1, l2, l3] (.inr (.inr (.inl a)) :: S) σ Q := pLdN (k := 0) f_210_105 rfl rfl rfl
theorem f_210_106 : oFet 210 106 = some (.getfield 180, 3) := by decide +kernel
theorem s_210_106 {d : Nat} {l0 l1 l2 l3 : oV} {a : Nat} {S : List oV} {σ : oSg} {Q : Option oV → (Nat → oC) → Prop} (hk : oKd a = some 11) : oE d 210 106 [l0, l1, l2, l3] (.inr (.inr (.inl a)) :: S) σ Q = oE d 210 109 [l0, l1, l2, l3] (.inl (σ.1 a 15) :: S) σ Q := pGfI f_210_106 ow_210 fl_11_180 rfl (by decide) hk
theorem f_210_109 : oFet 210 109 = some (.goto 7, 3) := by decide +kernel
theorem s_210_109 {d : Nat} {l0 l1 l2 l3 : oV} {S : List oV} {σ : oSg} {Q : Option oV → (Nat → oC) → Prop} : oE d 210 109 [l0, l1, l2, l3] S σ Q = oE d 210 116 [l0, l1, l2, l3] S σ Q := pGoto f_210_109 (by decide)
theorem f_210_112 : oFet 210 112 = some (.aload_n 0, 1) := by decide +kernel
theorem s_210_112 {d : Nat} {l1 l2 l3 : oV} {a : Nat} {S : List oV} {σ : oSg} {Q : Option oV → (Nat → oC) → Prop} : oE d 210 112 [.inr (.inr (.inl a)), l1, l2, l3] S σ Q = oE d 210 113 [.inr (.inr (.inl a)), l1, l2, l3] (.inr (.inr (.inl a)) :: S) σ Q := pLdN (k := 0) f_210_112 rfl rfl rfl
theorem f_210_113 : oFet 210 113 = some (.getfield 177, 3) := by decide +kernel
theorem s_210_113 {d : Nat} {l0 l1 l2 l3 : oV} {a : Nat} {S : List oV} {σ : oSg} {Q : Option oV → (Nat → oC) → Prop} (hk : oKd a = some 11) : oE d 210 113 [l0, l1, l2, l3] (.inr (.inr (.inl a)) :: S) σ Q = oE d 210 116 [l0, l1, l2, l3] (.inl (σ.1 a 14) :: S) σ Q := pGfI f_210_113 ow_210 fl_11_177 rfl (by decide) hk
theorem f_210_116 : oFet 210 116 = some (.ireturn, 1) := by decide +kernel
theorem s_210_116 {d : Nat} {l0 l1 l2 l3 : oV} {x : Int} {σ : oSg} {Q : Option oV → (Nat → oC) → Prop} : oE d 210 116 [l0, l1, l2, l3] [.inl x] σ Q = Q (some (.inl x)) (oBld σ) := oIret f_210_116 rt_210
theorem f_210_117 : oFet 210 117 = some (.iconst 0, 1) := by decide +kernel
theorem s_210_117 {d : Nat} {l0 l1 l2 l3 : oV} {S : List oV} {σ : oSg} {Q : Option oV → (Nat → oC) → Prop} : oE d 210 117 [l0, l1, l2, l3] S σ Q = oE d 210 118 [l0, l1, l2, l3] (.inl (0) :: S) σ Q := pKst f_210_117 (by decide)
theorem f_210_118 : oFet 210 118 = some (.istore_n 2, 1) := by decide +kernel
theorem s_210_118 {d : Nat} {l0 l1 l2 l3 : oV} {x : Int} {S : List oV} {σ : oSg} {Q : Option oV → (Nat → oC) → Prop} (c2 : oCat l2 = 1) (c1 : oCat l1 = 1)  : oE d 210 118 [l0, l1, l2, l3] (.inl x :: S) σ Q = oE d 210 119 [l0, l1, .inl x, l3] S σ Q := pSt (i := 2) f_210_118 rfl rfl (show (2 : Nat) < 4 by decide) (oC1n c1) (oC1n c2) rfl
theorem f_210_119 : oFet 210 119 = some (.iconst 0, 1) := by decide +kernel
theorem s_210_119 {d : Nat} {l0 l1 l2 l3 : oV} {S : List oV} {σ : oSg} {Q : Option oV → (Nat → oC) → Prop} : oE d 210 119 [l0, l1, l2, l3] S σ Q = oE d 210 120 [l0, l1, l2, l3] (.inl (0) :: S) σ Q := pKst f_210_119 (by decide)
theorem f_210_120 : oFet 210 120 = some (.istore_n 3, 1) := by decide +kernel
theorem s_210_120 {d : Nat} {l0 l1 l2 l3 : oV} {x : Int} {S : List oV} {σ : oSg} {Q : Option oV → (Nat → oC) → Prop} (c3 : oCat l3 = 1) (c2 : oCat l2 = 1)  : oE d 210 120 [l0, l1, l2, l3] (.inl x :: S) σ Q = oE d 210 121 [l0, l1, l2, .inl x] S σ Q := pSt (i := 3) f_210_120 rfl rfl (show (3 : Nat) < 4 by decide) (oC1n c2) (oC1n c3) rfl
theorem f_210_121 : oFet 210 121 = some (.iload_n 3, 1) := by decide +kernel
theorem s_210_121 {d : Nat} {l0 l1 l2 : oV} {x : Int} {S : List oV} {σ : oSg} {Q : Option oV → (Nat → oC) → Prop} : oE d 210 121 [l0, l1, l2, .inl x] S σ Q = oE d 210 122 [l0, l1, l2, .inl x] (.inl x :: S) σ Q := pLdN (k := 3) f_210_121 rfl rfl rfl
theorem f_210_122 : oFet 210 122 = some (.aload_n 0, 1) := by decide +kernel
theorem s_210_122 {d : Nat} {l1 l2 l3 : oV} {a : Nat} {S : List oV} {σ : oSg} {Q : Option oV → (Nat → oC) → Prop} : oE d 210 122 [.inr (.inr (.inl a)), l1, l2, l3] S σ Q = oE d 210 123 [.inr (.inr (.inl a)), l1, l2, l3] (.inr (.inr (.inl a)) :: S) σ Q := pLdN (k := 0) f_210_122 rfl rfl rfl
theorem f_210_123 : oFet 210 123 = some (.getfield 11, 3) := by decide +kernel
theorem s_210_123 {d : Nat} {l0 l1 l2 l3 : oV} {a : Nat} {S : List oV} {σ : oSg} {Q : Option oV → (Nat → oC) → Prop} (hk : oKd a = some 11) : oE d 210 123 [l0, l1, l2, l3] (.inr (.inr (.inl a)) :: S) σ Q = oE d 210 126 [l0, l1, l2, l3] (.inr (.inr (.inl (oRf a 0))) :: S) σ Q := pGfR f_210_123 ow_210 fl_11_11 rfl (by decide) hk
theorem f_210_126 : oFet 210 126 = some (.iconst 0, 1) := by decide +kernel
theorem s_210_126 {d : Nat} {l0 l1 l2 l3 : oV} {S : List oV} {σ : oSg} {Q : Option oV → (Nat → oC) → Prop} : oE d 210 126 [l0, l1, l2, l3] S σ Q = oE d 210 127 [l0, l1, l2, l3] (.inl (0) :: S) σ Q := pKst f_210_126 (by decide)
theorem f_210_127 : oFet 210 127 = some (.iaload, 1) := by decide +kernel
theorem s_210_127 {d : Nat} {l0 l1 l2 l3 : oV} {a : Nat} {i : Int} {S : List oV} {σ : oSg} {Q : Option oV → (Nat → oC) → Prop} (hk : oAk a = some 0) (h0 : 0 ≤ i) (h1 : i < (oLn a : Int)) : oE d 210 127 [l0, l1, l2, l3] (.inl i :: .inr (.inr (.inl a)) :: S) σ Q = oE d 210 128 [l0, l1, l2, l3] (.inl (σ.2 a i.toNat) :: S) σ Q := oIal f_210_127 hk h0 h1
theorem f_210_128 : oFet 210 128 = some (.if_icmp .ge 27, 3) := by decide +kernel
theorem s_210_128 {d : Nat} {l0 l1 l2 l3 : oV} {x y : Int} {S : List oV} {σ : oSg} {Q : Option oV → (Nat → oC) → Prop} : oE d 210 128 [l0, l1, l2, l3] (.inl y :: .inl x :: S) σ Q = if y ≤ x then oE d 210 155 [l0, l1, l2, l3] S σ Q else oE d 210 131 [l0, l1, l2, l3] S σ Q := oCmpGe f_210_128 (by decide)
theorem f_210_131 : oFet 210 131 = some (.aload_n 0, 1) := by decide +kernel
theorem s_210_131 {d : Nat} {l1 l2 l3 : oV} {a : Nat} {S : List oV} {σ : oSg} {Q : Option oV → (Nat → oC) → Prop} : oE d 210 131 [.inr (.inr (.inl a)), l1, l2, l3] S σ Q = oE d 210 132 [.inr (.inr (.inl a)), l1, l2, l3] (.inr (.inr (.inl a)) :: S) σ Q := pLdN (k := 0) f_210_131 rfl rfl rfl
theorem f_210_132 : oFet 210 132 = some (.getfield 33, 3) := by decide +kernel
theorem s_210_132 {d : Nat} {l0 l1 l2 l3 : oV} {a : Nat} {S : List oV} {σ : oSg} {Q : Option oV → (Nat → oC) → Prop} (hk : oKd a = some 11) : oE d 210 132 [l0, l1, l2, l3] (.inr (.inr (.inl a)) :: S) σ Q = oE d 210 135 [l0, l1, l2, l3] (.inr (.inr (.inl (oRf a 13))) :: S) σ Q := pGfR f_210_132 ow_210 fl_11_33 rfl (by decide) hk
theorem f_210_135 : oFet 210 135 = some (.iload_n 3, 1) := by decide +kernel
theorem s_210_135 {d : Nat} {l0 l1 l2 : oV} {x : Int} {S : List oV} {σ : oSg} {Q : Option oV → (Nat → oC) → Prop} : oE d 210 135 [l0, l1, l2, .inl x] S σ Q = oE d 210 136 [l0, l1, l2, .inl x] (.inl x :: S) σ Q := pLdN (k := 3) f_210_135 rfl rfl rfl
theorem f_210_136 : oFet 210 136 = some (.iaload, 1) := by decide +kernel
theorem s_210_136 {d : Nat} {l0 l1 l2 l3 : oV} {a : Nat} {i : Int} {S : List oV} {σ : oSg} {Q : Option oV → (Nat → oC) → Prop} (hk : oAk a = some 0) (h0 : 0 ≤ i) (h1 : i < (oLn a : Int)) : oE d 210 136 [l0, l1, l2, l3] (.inl i :: .inr (.inr (.inl a)) :: S) σ Q = oE d 210 137 [l0, l1, l2, l3] (.inl (σ.2 a i.toNat) :: S) σ Q := oIal f_210_136 hk h0 h1
theorem f_210_137 : oFet 210 137 = some (.aload_n 0, 1) := by decide +kernel
theorem s_210_137 {d : Nat} {l1 l2 l3 : oV} {a : Nat} {S : List oV} {σ : oSg} {Q : Option oV → (Nat → oC) → Prop} : oE d 210 137 [.inr (.inr (.inl a)), l1, l2, l3] S σ Q = oE d 210 138 [.inr (.inr (.inl a)), l1, l2, l3] (.inr (.inr (.inl a)) :: S) σ Q := pLdN (k := 0) f_210_137 rfl rfl rfl
theorem f_210_138 : oFet 210 138 = some (.getfield 39, 3) := by decide +kernel
theorem s_210_138 {d : Nat} {l0 l1 l2 l3 : oV} {a : Nat} {S : List oV} {σ : oSg} {Q : Option oV → (Nat → oC) → Prop} (hk : oKd a = some 11) : oE d 210 138 [l0, l1, l2, l3] (.inr (.inr (.inl a)) :: S) σ Q = oE d 210 141 [l0, l1, l2, l3] (.inr (.inr (.inl (oRf a 19))) :: S) σ Q := pGfR f_210_138 ow_210 fl_11_39 rfl (by decide) hk
theorem f_210_141 : oFet 210 141 = some (.iload_n 3, 1) := by decide +kernel
theorem s_210_141 {d : Nat} {l0 l1 l2 : oV} {x : Int} {S : List oV} {σ : oSg} {Q : Option oV → (Nat → oC) → Prop} : oE d 210 141 [l0, l1, l2, .inl x] S σ Q = oE d 210 142 [l0, l1, l2, .inl x] (.inl x :: S) σ Q := pLdN (k := 3) f_210_141 rfl rfl rfl
theorem f_210_142 : oFet 210 142 = some (.iaload, 1) := by decide +kernel
theorem s_210_142 {d : Nat} {l0 l1 l2 l3 : oV} {a : Nat} {i : Int} {S : List oV} {σ : oSg} {Q : Option oV → (Nat → oC) → Prop} (hk : oAk a = some 0) (h0 : 0 ≤ i) (h1 : i < (oLn a : Int)) : oE d 210 142 [l0, l1, l2, l3] (.inl i :: .inr (.inr (.inl a)) :: S) σ Q = oE d 210 143 [l0, l1, l2, l3] (.inl (σ.2 a i.toNat) :: S) σ Q := oIal f_210_142 hk h0 h1
theorem f_210_143 : oFet 210 143 = some (.if_icmp .eq 6, 3) := by decide +kernel
theorem s_210_143 {d : Nat} {l0 l1 l2 l3 : oV} {x y : Int} {S : List oV} {σ : oSg} {Q : Option oV → (Nat → oC) → Prop} : oE d 210 143 [l0, l1, l2, l3] (.inl y :: .inl x :: S) σ Q = if x = y then oE d 210 149 [l0, l1, l2, l3] S σ Q else oE d 210 146 [l0, l1, l2, l3] S σ Q := oCmpEq f_210_143 (by decide)
theorem f_210_146 : oFet 210 146 = some (.iinc 2 1, 3) := by decide +kernel
theorem s_210_146 {d : Nat} {l0 l1 l3 : oV} {x : Int} {S : List oV} {σ : oSg} {Q : Option oV → (Nat → oC) → Prop} (c1 : oCat l1 = 1)  : oE d 210 146 [l0, l1, .inl x, l3] S σ Q = oE d 210 149 [l0, l1, .inl (oAdd x (1)), l3] S σ Q := pInc f_210_146 rfl (show (2 : Nat) < 4 by decide) (oC1n c1) (oC1n (v := .inl x) rfl) rfl
theorem f_210_149 : oFet 210 149 = some (.iinc 3 1, 3) := by decide +kernel
theorem s_210_149 {d : Nat} {l0 l1 l2 : oV} {x : Int} {S : List oV} {σ : oSg} {Q : Option oV → (Nat → oC) → Prop} (c2 : oCat l2 = 1)  : oE d 210 149 [l0, l1, l2, .inl x] S σ Q = oE d 210 152 [l0, l1, l2, .inl (oAdd x (1))] S σ Q := pInc f_210_149 rfl (show (3 : Nat) < 4 by decide) (oC1n c2) (oC1n (v := .inl x) rfl) rfl
theorem f_210_152 : oFet 210 152 = some (.goto (-31), 3) := by decide +kernel
theorem s_210_152 {d : Nat} {l0 l1 l2 l3 : oV} {S : List oV} {σ : oSg} {Q : Option oV → (Nat → oC) → Prop} : oE d 210 152 [l0, l1, l2, l3] S σ Q = oE d 210 121 [l0, l1, l2, l3] S σ Q := pGoto f_210_152 (by decide)
theorem f_210_155 : oFet 210 155 = some (.iload_n 2, 1) := by decide +kernel
theorem s_210_155 {d : Nat} {l0 l1 l3 : oV} {x : Int} {S : List oV} {σ : oSg} {Q : Option oV → (Nat → oC) → Prop} : oE d 210 155 [l0, l1, .inl x, l3] S σ Q = oE d 210 156 [l0, l1, .inl x, l3] (.inl x :: S) σ Q := pLdN (k := 2) f_210_155 rfl rfl rfl
theorem f_210_156 : oFet 210 156 = some (.ireturn, 1) := by decide +kernel
theorem s_210_156 {d : Nat} {l0 l1 l2 l3 : oV} {x : Int} {σ : oSg} {Q : Option oV → (Nat → oC) → Prop} : oE d 210 156 [l0, l1, l2, l3] [.inl x] σ Q = Q (some (.inl x)) (oBld σ) := oIret f_210_156 rt_210
theorem ow_211 : (oMt 211).2.2.2.2.1 = 11 := by decide +kernel
theorem rt_211 : (oMt 211).2.2.2.1 = none := by decide +kernel
theorem nl_211 : (oMt 211).2.2.1 = 1 := by decide +kernel
theorem f_211_0 : oFet 211 0 = some (.aload_n 0, 1) := by decide +kernel
theorem s_211_0 {d : Nat} {a : Nat} {S : List oV} {σ : oSg} {Q : Option oV → (Nat → oC) → Prop} : oE d 211 0 [.inr (.inr (.inl a))] S σ Q = oE d 211 1 [.inr (.inr (.inl a))] (.inr (.inr (.inl a)) :: S) σ Q := pLdN (k := 0) f_211_0 rfl rfl rfl
theorem f_211_1 : oFet 211 1 = some (.getfield 11, 3) := by decide +kernel
theorem s_211_1 {d : Nat} {l0 : oV} {a : Nat} {S : List oV} {σ : oSg} {Q : Option oV → (Nat → oC) → Prop} (hk : oKd a = some 11) : oE d 211 1 [l0] (.inr (.inr (.inl a)) :: S) σ Q = oE d 211 4 [l0] (.inr (.inr (.inl (oRf a 0))) :: S) σ Q := pGfR f_211_1 ow_211 fl_11_11 rfl (by decide) hk
theorem f_211_4 : oFet 211 4 = some (.iconst 0, 1) := by decide +kernel
theorem s_211_4 {d : Nat} {l0 : oV} {S : List oV} {σ : oSg} {Q : Option oV → (Nat → oC) → Prop} : oE d 211 4 [l0] S σ Q = oE d 211 5 [l0] (.inl (0) :: S) σ Q := pKst f_211_4 (by decide)
theorem f_211_5 : oFet 211 5 = some (.aload_n 0, 1) := by decide +kernel
theorem s_211_5 {d : Nat} {a : Nat} {S : List oV} {σ : oSg} {Q : Option oV → (Nat → oC) → Prop} : oE d 211 5 [.inr (.inr (.inl a))] S σ Q = oE d 211 6 [.inr (.inr (.inl a))] (.inr (.inr (.inl a)) :: S) σ Q := pLdN (k := 0) f_211_5 rfl rfl rfl
theorem f_211_6 : oFet 211 6 = some (.getfield 18, 3) := by decide +kernel
theorem s_211_6 {d : Nat} {l0 : oV} {a : Nat} {S : List oV} {σ : oSg} {Q : Option oV → (Nat → oC) → Prop} (hk : oKd a = some 11) : oE d 211 6 [l0] (.inr (.inr (.inl a)) :: S) σ Q = oE d 211 9 [l0] (.inr (.inr (.inl (oRf a 2))) :: S) σ Q := pGfR f_211_6 ow_211 fl_11_18 rfl (by decide) hk
theorem f_211_9 : oFet 211 9 = some (.iconst 0, 1) := by decide +kernel
theorem s_211_9 {d : Nat} {l0 : oV} {S : List oV} {σ : oSg} {Q : Option oV → (Nat → oC) → Prop} : oE d 211 9 [l0] S σ Q = oE d 211 10 [l0] (.inl (0) :: S) σ Q := pKst f_211_9 (by decide)
theorem f_211_10 : oFet 211 10 = some (.bipush 116, 2) := by decide +kernel
theorem s_211_10 {d : Nat} {l0 : oV} {S : List oV} {σ : oSg} {Q : Option oV → (Nat → oC) → Prop} : oE d 211 10 [l0] S σ Q = oE d 211 12 [l0] (.inl (116) :: S) σ Q := pBip f_211_10 (by decide)
theorem f_211_12 : oFet 211 12 = some (.invokestatic 69, 3) := by decide +kernel
theorem s_211_12 {d : Nat} {l0 : oV} {a b : Nat} {sp dp n : Int} {S : List oV} {σ : oSg} {Q : Option oV → (Nat → oC) → Prop} (ha : oAk a = some 0) (hb : oAk b = some 0) (hs : oSmall S = true) (g1 : 0 ≤ sp) (g2 : 0 ≤ dp) (g3 : 0 ≤ n) (g4 : sp + n ≤ (oLn a : Int)) (g5 : dp + n ≤ (oLn b : Int)) : oE d 211 12 [l0] (.inl n :: .inl dp :: .inr (.inr (.inl b)) :: .inl sp :: .inr (.inr (.inl a)) :: S) σ Q = oE d 211 15 [l0] S (oCp σ a sp b dp n) Q := pCpy f_211_12 ow_211 lk_11_69 ha hb (by decide) hs g1 g2 g3 g4 g5
theorem f_211_15 : oFet 211 15 = some (.return_, 1) := by decide +kernel
theorem s_211_15 {d : Nat} {l0 : oV} {σ : oSg} {Q : Option oV → (Nat → oC) → Prop} : oE d 211 15 [l0] [] σ Q = Q none (oBld σ) := oVret f_211_15 rt_211
theorem ow_212 : (oMt 212).2.2.2.2.1 = 11 := by decide +kernel
theorem rt_212 : (oMt 212).2.2.2.1 = none := by decide +kernel
theorem nl_212 : (oMt 212).2.2.1 = 7 := by decide +kernel
theorem f_212_0 : oFet 212 0 = some (.iconst 0, 1) := by decide +kernel
theorem s_212_0 {d : Nat} {l0 l1 l2 l3 l4 l5 l6 : oV} {S : List oV} {σ : oSg} {Q : Option oV → (Nat → oC) → Prop} : oE d 212 0 [l0, l1, l2, l3, l4, l5, l6] S σ Q = oE d 212 1 [l0, l1, l2, l3, l4, l5, l6] (.inl (0) :: S) σ Q := pKst f_212_0 (by decide)
theorem f_212_1 : oFet 212 1 = some (.istore_n 3, 1) := by decide +kernel
theorem s_212_1 {d : Nat} {l0 l1 l2 l3 l4 l5 l6 : oV} {x : Int} {S : List oV} {σ : oSg} {Q : Option oV → (Nat → oC) → Prop} (c3 : oCat l3 = 1) (c2 : oCat l2 = 1)  : oE d 212 1 [l0, l1, l2, l3, l4, l5, l6] (.inl x :: S) σ Q = oE d 212 2 [l0, l1, l2, .inl x, l4, l5, l6] S σ Q := pSt (i := 3) f_212_1 rfl rfl (show (3 : Nat) < 7 by decide) (oC1n c2) (oC1n c3) rfl
theorem f_212_2 : oFet 212 2 = some (.iload_n 3, 1) := by decide +kernel
theorem s_212_2 {d : Nat} {l0 l1 l2 l4 l5 l6 : oV} {x : Int} {S : List oV} {σ : oSg} {Q : Option oV → (Nat → oC) → Prop} : oE d 212 2 [l0, l1, l2, .inl x, l4, l5, l6] S σ Q = oE d 212 3 [l0, l1, l2, .inl x, l4, l5, l6] (.inl x :: S) σ Q := pLdN (k := 3) f_212_2 rfl rfl rfl
theorem f_212_3 : oFet 212 3 = some (.aload_n 0, 1) := by decide +kernel
theorem s_212_3 {d : Nat} {l1 l2 l3 l4 l5 l6 : oV} {a : Nat} {S : List oV} {σ : oSg} {Q : Option oV → (Nat → oC) → Prop} : oE d 212 3 [.inr (.inr (.inl a)), l1, l2, l3, l4, l5, l6] S σ Q = oE d 212 4 [.inr (.inr (.inl a)), l1, l2, l3, l4, l5, l6] (.inr (.inr (.inl a)) :: S) σ Q := pLdN (k := 0) f_212_3 rfl rfl rfl
theorem f_212_4 : oFet 212 4 = some (.getfield 11, 3) := by decide +kernel
theorem s_212_4 {d : Nat} {l0 l1 l2 l3 l4 l5 l6 : oV} {a : Nat} {S : List oV} {σ : oSg} {Q : Option oV → (Nat → oC) → Prop} (hk : oKd a = some 11) : oE d 212 4 [l0, l1, l2, l3, l4, l5, l6] (.inr (.inr (.inl a)) :: S) σ Q = oE d 212 7 [l0, l1, l2, l3, l4, l5, l6] (.inr (.inr (.inl (oRf a 0))) :: S) σ Q := pGfR f_212_4 ow_212 fl_11_11 rfl (by decide) hk
theorem f_212_7 : oFet 212 7 = some (.iconst 0, 1) := by decide +kernel
theorem s_212_7 {d : Nat} {l0 l1 l2 l3 l4 l5 l6 : oV} {S : List oV} {σ : oSg} {Q : Option oV → (Nat → oC) → Prop} : oE d 212 7 [l0, l1, l2, l3, l4, l5, l6] S σ Q = oE d 212 8 [l0, l1, l2, l3, l4, l5, l6] (.inl (0) :: S) σ Q := pKst f_212_7 (by decide)
theorem f_212_8 : oFet 212 8 = some (.iaload, 1) := by decide +kernel
theorem s_212_8 {d : Nat} {l0 l1 l2 l3 l4 l5 l6 : oV} {a : Nat} {i : Int} {S : List oV} {σ : oSg} {Q : Option oV → (Nat → oC) → Prop} (hk : oAk a = some 0) (h0 : 0 ≤ i) (h1 : i < (oLn a : Int)) : oE d 212 8 [l0, l1, l2, l3, l4, l5, l6] (.inl i :: .inr (.inr (.inl a)) :: S) σ Q = oE d 212 9 [l0, l1, l2, l3, l4, l5, l6] (.inl (σ.2 a i.toNat) :: S) σ Q := oIal f_212_8 hk h0 h1
theorem f_212_9 : oFet 212 9 = some (.if_icmp .ge 141, 3) := by decide +kernel
theorem s_212_9 {d : Nat} {l0 l1 l2 l3 l4 l5 l6 : oV} {x y : Int} {S : List oV} {σ : oSg} {Q : Option oV → (Nat → oC) → Prop} : oE d 212 9 [l0, l1, l2, l3, l4, l5, l6] (.inl y :: .inl x :: S) σ Q = if y ≤ x then oE d 212 150 [l0, l1, l2, l3, l4, l5, l6] S σ Q else oE d 212 12 [l0, l1, l2, l3, l4, l5, l6] S σ Q := oCmpGe f_212_9 (by decide)
theorem f_212_12 : oFet 212 12 = some (.iload_n 3, 1) := by decide +kernel
theorem s_212_12 {d : Nat} {l0 l1 l2 l4 l5 l6 : oV} {x : Int} {S : List oV} {σ : oSg} {Q : Option oV → (Nat → oC) → Prop} : oE d 212 12 [l0, l1, l2, .inl x, l4, l5, l6] S σ Q = oE d 212 13 [l0, l1, l2, .inl x, l4, l5, l6] (.inl x :: S) σ Q := pLdN (k := 3) f_212_12 rfl rfl rfl
theorem f_212_13 : oFet 212 13 = some (.iconst 1, 1) := by decide +kernel
theorem s_212_13 {d : Nat} {l0 l1 l2 l3 l4 l5 l6 : oV} {S : List oV} {σ : oSg} {Q : Option oV → (Nat → oC) → Prop} : oE d 212 13 [l0, l1, l2, l3, l4, l5, l6] S σ Q = oE d 212 14 [l0, l1, l2, l3, l4, l5, l6] (.inl (1) :: S) σ Q := pKst f_212_13 (by decide)
theorem f_212_14 : oFet 212 14 = some (.iadd, 1) := by decide +kernel
theorem s_212_14 {d : Nat} {l0 l1 l2 l3 l4 l5 l6 : oV} {x y : Int} {S : List oV} {σ : oSg} {Q : Option oV → (Nat → oC) → Prop} : oE d 212 14 [l0, l1, l2, l3, l4, l5, l6] (.inl y :: .inl x :: S) σ Q = oE d 212 15 [l0, l1, l2, l3, l4, l5, l6] (.inl (oAdd x y) :: S) σ Q := oS3 f_212_14 rfl rfl rfl
theorem f_212_15 : oFet 212 15 = some (.istore 4, 2) := by decide +kernel
theorem s_212_15 {d : Nat} {l0 l1 l2 l3 l4 l5 l6 : oV} {x : Int} {S : List oV} {σ : oSg} {Q : Option oV → (Nat → oC) → Prop} (c4 : oCat l4 = 1) (c3 : oCat l3 = 1)  : oE d 212 15 [l0, l1, l2, l3, l4, l5, l6] (.inl x :: S) σ Q = oE d 212 17 [l0, l1, l2, l3, .inl x, l5, l6] S σ Q := pSt (i := 4) f_212_15 rfl rfl (show (4 : Nat) < 7 by decide) (oC1n c3) (oC1n c4) rfl
theorem f_212_17 : oFet 212 17 = some (.iload 4, 2) := by decide +kernel
theorem s_212_17 {d : Nat} {l0 l1 l2 l3 l5 l6 : oV} {x : Int} {S : List oV} {σ : oSg} {Q : Option oV → (Nat → oC) → Prop} : oE d 212 17 [l0, l1, l2, l3, .inl x, l5, l6] S σ Q = oE d 212 19 [l0, l1, l2, l3, .inl x, l5, l6] (.inl x :: S) σ Q := pLd (i := 4) f_212_17 rfl rfl rfl
theorem f_212_19 : oFet 212 19 = some (.aload_n 0, 1) := by decide +kernel
theorem s_212_19 {d : Nat} {l1 l2 l3 l4 l5 l6 : oV} {a : Nat} {S : List oV} {σ : oSg} {Q : Option oV → (Nat → oC) → Prop} : oE d 212 19 [.inr (.inr (.inl a)), l1, l2, l3, l4, l5, l6] S σ Q = oE d 212 20 [.inr (.inr (.inl a)), l1, l2, l3, l4, l5, l6] (.inr (.inr (.inl a)) :: S) σ Q := pLdN (k := 0) f_212_19 rfl rfl rfl
theorem f_212_20 : oFet 212 20 = some (.getfield 11, 3) := by decide +kernel
theorem s_212_20 {d : Nat} {l0 l1 l2 l3 l4 l5 l6 : oV} {a : Nat} {S : List oV} {σ : oSg} {Q : Option oV → (Nat → oC) → Prop} (hk : oKd a = some 11) : oE d 212 20 [l0, l1, l2, l3, l4, l5, l6] (.inr (.inr (.inl a)) :: S) σ Q = oE d 212 23 [l0, l1, l2, l3, l4, l5, l6] (.inr (.inr (.inl (oRf a 0))) :: S) σ Q := pGfR f_212_20 ow_212 fl_11_11 rfl (by decide) hk
theorem f_212_23 : oFet 212 23 = some (.iconst 0, 1) := by decide +kernel
theorem s_212_23 {d : Nat} {l0 l1 l2 l3 l4 l5 l6 : oV} {S : List oV} {σ : oSg} {Q : Option oV → (Nat → oC) → Prop} : oE d 212 23 [l0, l1, l2, l3, l4, l5, l6] S σ Q = oE d 212 24 [l0, l1, l2, l3, l4, l5, l6] (.inl (0) :: S) σ Q := pKst f_212_23 (by decide)
theorem f_212_24 : oFet 212 24 = some (.iaload, 1) := by decide +kernel
theorem s_212_24 {d : Nat} {l0 l1 l2 l3 l4 l5 l6 : oV} {a : Nat} {i : Int} {S : List oV} {σ : oSg} {Q : Option oV → (Nat → oC) → Prop} (hk : oAk a = some 0) (h0 : 0 ≤ i) (h1 : i < (oLn a : Int)) : oE d 212 24 [l0, l1, l2, l3, l4, l5, l6] (.inl i :: .inr (.inr (.inl a)) :: S) σ Q = oE d 212 25 [l0, l1, l2, l3, l4, l5, l6] (.inl (σ.2 a i.toNat) :: S) σ Q := oIal f_212_24 hk h0 h1
theorem f_212_25 : oFet 212 25 = some (.if_icmp .ge 119, 3) := by decide +kernel
theorem s_212_25 {d : Nat} {l0 l1 l2 l3 l4 l5 l6 : oV} {x y : Int} {S : List oV} {σ : oSg} {Q : Option oV → (Nat → oC) → Prop} : oE d 212 25 [l0, l1, l2, l3, l4, l5, l6] (.inl y :: .inl x :: S) σ Q = if y ≤ x then oE d 212 144 [l0, l1, l2, l3, l4, l5, l6] S σ Q else oE d 212 28 [l0, l1, l2, l3, l4, l5, l6] S σ Q := oCmpGe f_212_25 (by decide)
theorem f_212_28 : oFet 212 28 = some (.aload_n 0, 1) := by decide +kernel
theorem s_212_28 {d : Nat} {l1 l2 l3 l4 l5 l6 : oV} {a : Nat} {S : List oV} {σ : oSg} {Q : Option oV → (Nat → oC) → Prop} : oE d 212 28 [.inr (.inr (.inl a)), l1, l2, l3, l4, l5, l6] S σ Q = oE d 212 29 [.inr (.inr (.inl a)), l1, l2, l3, l4, l5, l6] (.inr (.inr (.inl a)) :: S) σ Q := pLdN (k := 0) f_212_28 rfl rfl rfl
theorem f_212_29 : oFet 212 29 = some (.iload_n 3, 1) := by decide +kernel
theorem s_212_29 {d : Nat} {l0 l1 l2 l4 l5 l6 : oV} {x : Int} {S : List oV} {σ : oSg} {Q : Option oV → (Nat → oC) → Prop} : oE d 212 29 [l0, l1, l2, .inl x, l4, l5, l6] S σ Q = oE d 212 30 [l0, l1, l2, .inl x, l4, l5, l6] (.inl x :: S) σ Q := pLdN (k := 3) f_212_29 rfl rfl rfl
theorem f_212_30 : oFet 212 30 = some (.iload 4, 2) := by decide +kernel
theorem s_212_30 {d : Nat} {l0 l1 l2 l3 l5 l6 : oV} {x : Int} {S : List oV} {σ : oSg} {Q : Option oV → (Nat → oC) → Prop} : oE d 212 30 [l0, l1, l2, l3, .inl x, l5, l6] S σ Q = oE d 212 32 [l0, l1, l2, l3, .inl x, l5, l6] (.inl x :: S) σ Q := pLd (i := 4) f_212_30 rfl rfl rfl
theorem f_212_32 : oFet 212 32 = some (.invokevirtual 65, 3) := by decide +kernel
theorem c_212_32 {d : Nat} {l0 l1 l2 l3 l4 l5 l6 : oV} {x0 x1 : oV} {a : Nat} {v : Option oV} {τ : oSg} {S : List oV} {σ : oSg} {Q : Option oV → (Nat → oC) → Prop} (hm : oMi d 147 [.inr (.inr (.inl a)), x0, x1] σ v τ) (hk : oKd a = some 11) (hs : oSmall S = true) : oE d 212 32 [l0, l1, l2, l3, l4, l5, l6] (x1 :: x0 :: .inr (.inr (.inl a)) :: S) σ Q = oE d 212 35 [l0, l1, l2, l3, l4, l5, l6] (v.toList ++ S) τ Q := pCallV f_212_32 ow_212 lk_11_65 mt_147 rfl rfl rfl hk hs hm
theorem f_212_35 : oFet 212 35 = some (.istore 5, 2) := by decide +kernel
theorem s_212_35 {d : Nat} {l0 l1 l2 l3 l4 l5 l6 : oV} {x : Int} {S : List oV} {σ : oSg} {Q : Option oV → (Nat → oC) → Prop} (c5 : oCat l5 = 1) (c4 : oCat l4 = 1)  : oE d 212 35 [l0, l1, l2, l3, l4, l5, l6] (.inl x :: S) σ Q = oE d 212 37 [l0, l1, l2, l3, l4, .inl x, l6] S σ Q := pSt (i := 5) f_212_35 rfl rfl (show (5 : Nat) < 7 by decide) (oC1n c4) (oC1n c5) rfl
theorem f_212_37 : oFet 212 37 = some (.iload_n 3, 1) := by decide +kernel
theorem s_212_37 {d : Nat} {l0 l1 l2 l4 l5 l6 : oV} {x : Int} {S : List oV} {σ : oSg} {Q : Option oV → (Nat → oC) → Prop} : oE d 212 37 [l0, l1, l2, .inl x, l4, l5, l6] S σ Q = oE d 212 38 [l0, l1, l2, .inl x, l4, l5, l6] (.inl x :: S) σ Q := pLdN (k := 3) f_212_37 rfl rfl rfl
theorem f_212_38 : oFet 212 38 = some (.iload_n 2, 1) := by decide +kernel
theorem s_212_38 {d : Nat} {l0 l1 l3 l4 l5 l6 : oV} {x : Int} {S : List oV} {σ : oSg} {Q : Option oV → (Nat → oC) → Prop} : oE d 212 38 [l0, l1, .inl x, l3, l4, l5, l6] S σ Q = oE d 212 39 [l0, l1, .inl x, l3, l4, l5, l6] (.inl x :: S) σ Q := pLdN (k := 2) f_212_38 rfl rfl rfl
theorem f_212_39 : oFet 212 39 = some (.if_icmp .eq 9, 3) := by decide +kernel
theorem s_212_39 {d : Nat} {l0 l1 l2 l3 l4 l5 l6 : oV} {x y : Int} {S : List oV} {σ : oSg} {Q : Option oV → (Nat → oC) → Prop} : oE d 212 39 [l0, l1, l2, l3, l4, l5, l6] (.inl y :: .inl x :: S) σ Q = if x = y then oE d 212 48 [l0, l1, l2, l3, l4, l5, l6] S σ Q else oE d 212 42 [l0, l1, l2, l3, l4, l5, l6] S σ Q := oCmpEq f_212_39 (by decide)
theorem f_212_42 : oFet 212 42 = some (.iload 4, 2) := by decide +kernel
theorem s_212_42 {d : Nat} {l0 l1 l2 l3 l5 l6 : oV} {x : Int} {S : List oV} {σ : oSg} {Q : Option oV → (Nat → oC) → Prop} : oE d 212 42 [l0, l1, l2, l3, .inl x, l5, l6] S σ Q = oE d 212 44 [l0, l1, l2, l3, .inl x, l5, l6] (.inl x :: S) σ Q := pLd (i := 4) f_212_42 rfl rfl rfl
theorem f_212_44 : oFet 212 44 = some (.iload_n 2, 1) := by decide +kernel
theorem s_212_44 {d : Nat} {l0 l1 l3 l4 l5 l6 : oV} {x : Int} {S : List oV} {σ : oSg} {Q : Option oV → (Nat → oC) → Prop} : oE d 212 44 [l0, l1, .inl x, l3, l4, l5, l6] S σ Q = oE d 212 45 [l0, l1, .inl x, l3, l4, l5, l6] (.inl x :: S) σ Q := pLdN (k := 2) f_212_44 rfl rfl rfl
theorem f_212_45 : oFet 212 45 = some (.if_icmp .ne 7, 3) := by decide +kernel
theorem s_212_45 {d : Nat} {l0 l1 l2 l3 l4 l5 l6 : oV} {x y : Int} {S : List oV} {σ : oSg} {Q : Option oV → (Nat → oC) → Prop} : oE d 212 45 [l0, l1, l2, l3, l4, l5, l6] (.inl y :: .inl x :: S) σ Q = if ¬ x = y then oE d 212 52 [l0, l1, l2, l3, l4, l5, l6] S σ Q else oE d 212 48 [l0, l1, l2, l3, l4, l5, l6] S σ Q := oCmpNe f_212_45 (by decide)
theorem f_212_48 : oFet 212 48 = some (.iconst 1, 1) := by decide +kernel
theorem s_212_48 {d : Nat} {l0 l1 l2 l3 l4 l5 l6 : oV} {S : List oV} {σ : oSg} {Q : Option oV → (Nat → oC) → Prop} : oE d 212 48 [l0, l1, l2, l3, l4, l5, l6] S σ Q = oE d 212 49 [l0, l1, l2, l3, l4, l5, l6] (.inl (1) :: S) σ Q := pKst f_212_48 (by decide)
theorem f_212_49 : oFet 212 49 = some (.goto 4, 3) := by decide +kernel
theorem s_212_49 {d : Nat} {l0 l1 l2 l3 l4 l5 l6 : oV} {S : List oV} {σ : oSg} {Q : Option oV → (Nat → oC) → Prop} : oE d 212 49 [l0, l1, l2, l3, l4, l5, l6] S σ Q = oE d 212 53 [l0, l1, l2, l3, l4, l5, l6] S σ Q := pGoto f_212_49 (by decide)
theorem f_212_52 : oFet 212 52 = some (.iconst 0, 1) := by decide +kernel
theorem s_212_52 {d : Nat} {l0 l1 l2 l3 l4 l5 l6 : oV} {S : List oV} {σ : oSg} {Q : Option oV → (Nat → oC) → Prop} : oE d 212 52 [l0, l1, l2, l3, l4, l5, l6] S σ Q = oE d 212 53 [l0, l1, l2, l3, l4, l5, l6] (.inl (0) :: S) σ Q := pKst f_212_52 (by decide)
theorem f_212_53 : oFet 212 53 = some (.istore 6, 2) := by decide +kernel
theorem s_212_53 {d : Nat} {l0 l1 l2 l3 l4 l5 l6 : oV} {x : Int} {S : List oV} {σ : oSg} {Q : Option oV → (Nat → oC) → Prop} (c6 : oCat l6 = 1) (c5 : oCat l5 = 1)  : oE d 212 53 [l0, l1, l2, l3, l4, l5, l6] (.inl x :: S) σ Q = oE d 212 55 [l0, l1, l2, l3, l4, l5, .inl x] S σ Q := pSt (i := 6) f_212_53 rfl rfl (show (6 : Nat) < 7 by decide) (oC1n c5) (oC1n c6) rfl
theorem f_212_55 : oFet 212 55 = some (.iload_n 1, 1) := by decide +kernel
theorem s_212_55 {d : Nat} {l0 l2 l3 l4 l5 l6 : oV} {x : Int} {S : List oV} {σ : oSg} {Q : Option oV → (Nat → oC) → Prop} : oE d 212 55 [l0, .inl x, l2, l3, l4, l5, l6] S σ Q = oE d 212 56 [l0, .inl x, l2, l3, l4, l5, l6] (.inl x :: S) σ Q := pLdN (k := 1) f_212_55 rfl rfl rfl
theorem f_212_56 : oFet 212 56 = some (.ifCond .ne 8, 3) := by decide +kernel
theorem s_212_56 {d : Nat} {l0 l1 l2 l3 l4 l5 l6 : oV} {x : Int} {S : List oV} {σ : oSg} {Q : Option oV → (Nat → oC) → Prop} : oE d 212 56 [l0, l1, l2, l3, l4, l5, l6] (.inl x :: S) σ Q = if ¬ x = 0 then oE d 212 64 [l0, l1, l2, l3, l4, l5, l6] S σ Q else oE d 212 59 [l0, l1, l2, l3, l4, l5, l6] S σ Q := oIfNe f_212_56 (by decide)
theorem f_212_59 : oFet 212 59 = some (.iload 6, 2) := by decide +kernel
theorem s_212_59 {d : Nat} {l0 l1 l2 l3 l4 l5 : oV} {x : Int} {S : List oV} {σ : oSg} {Q : Option oV → (Nat → oC) → Prop} : oE d 212 59 [l0, l1, l2, l3, l4, l5, .inl x] S σ Q = oE d 212 61 [l0, l1, l2, l3, l4, l5, .inl x] (.inl x :: S) σ Q := pLd (i := 6) f_212_59 rfl rfl rfl
theorem f_212_61 : oFet 212 61 = some (.ifCond .ne 14, 3) := by decide +kernel
theorem s_212_61 {d : Nat} {l0 l1 l2 l3 l4 l5 l6 : oV} {x : Int} {S : List oV} {σ : oSg} {Q : Option oV → (Nat → oC) → Prop} : oE d 212 61 [l0, l1, l2, l3, l4, l5, l6] (.inl x :: S) σ Q = if ¬ x = 0 then oE d 212 75 [l0, l1, l2, l3, l4, l5, l6] S σ Q else oE d 212 64 [l0, l1, l2, l3, l4, l5, l6] S σ Q := oIfNe f_212_61 (by decide)
theorem f_212_64 : oFet 212 64 = some (.iload_n 1, 1) := by decide +kernel
theorem s_212_64 {d : Nat} {l0 l2 l3 l4 l5 l6 : oV} {x : Int} {S : List oV} {σ : oSg} {Q : Option oV → (Nat → oC) → Prop} : oE d 212 64 [l0, .inl x, l2, l3, l4, l5, l6] S σ Q = oE d 212 65 [l0, .inl x, l2, l3, l4, l5, l6] (.inl x :: S) σ Q := pLdN (k := 1) f_212_64 rfl rfl rfl
theorem f_212_65 : oFet 212 65 = some (.iconst 2, 1) := by decide +kernel
theorem s_212_65 {d : Nat} {l0 l1 l2 l3 l4 l5 l6 : oV} {S : List oV} {σ : oSg} {Q : Option oV → (Nat → oC) → Prop} : oE d 212 65 [l0, l1, l2, l3, l4, l5, l6] S σ Q = oE d 212 66 [l0, l1, l2, l3, l4, l5, l6] (.inl (2) :: S) σ Q := pKst f_212_65 (by decide)
theorem f_212_66 : oFet 212 66 = some (.if_icmp .ne 20, 3) := by decide +kernel
theorem s_212_66 {d : Nat} {l0 l1 l2 l3 l4 l5 l6 : oV} {x y : Int} {S : List oV} {σ : oSg} {Q : Option oV → (Nat → oC) → Prop} : oE d 212 66 [l0, l1, l2, l3, l4, l5, l6] (.inl y :: .inl x :: S) σ Q = if ¬ x = y then oE d 212 86 [l0, l1, l2, l3, l4, l5, l6] S σ Q else oE d 212 69 [l0, l1, l2, l3, l4, l5, l6] S σ Q := oCmpNe f_212_66 (by decide)
theorem f_212_69 : oFet 212 69 = some (.iload 5, 2) := by decide +kernel
theorem s_212_69 {d : Nat} {l0 l1 l2 l3 l4 l6 : oV} {x : Int} {S : List oV} {σ : oSg} {Q : Option oV → (Nat → oC) → Prop} : oE d 212 69 [l0, l1, l2, l3, l4, .inl x, l6] S σ Q = oE d 212 71 [l0, l1, l2, l3, l4, .inl x, l6] (.inl x :: S) σ Q := pLd (i := 5) f_212_69 rfl rfl rfl
theorem f_212_71 : oFet 212 71 = some (.iload_n 2, 1) := by decide +kernel
theorem s_212_71 {d : Nat} {l0 l1 l3 l4 l5 l6 : oV} {x : Int} {S : List oV} {σ : oSg} {Q : Option oV → (Nat → oC) → Prop} : oE d 212 71 [l0, l1, .inl x, l3, l4, l5, l6] S σ Q = oE d 212 72 [l0, l1, .inl x, l3, l4, l5, l6] (.inl x :: S) σ Q := pLdN (k := 2) f_212_71 rfl rfl rfl
theorem f_212_72 : oFet 212 72 = some (.if_icmp .ge 14, 3) := by decide +kernel
theorem s_212_72 {d : Nat} {l0 l1 l2 l3 l4 l5 l6 : oV} {x y : Int} {S : List oV} {σ : oSg} {Q : Option oV → (Nat → oC) → Prop} : oE d 212 72 [l0, l1, l2, l3, l4, l5, l6] (.inl y :: .inl x :: S) σ Q = if y ≤ x then oE d 212 86 [l0, l1, l2, l3, l4, l5, l6] S σ Q else oE d 212 75 [l0, l1, l2, l3, l4, l5, l6] S σ Q := oCmpGe f_212_72 (by decide)
theorem f_212_75 : oFet 212 75 = some (.aload_n 0, 1) := by decide +kernel
theorem s_212_75 {d : Nat} {l1 l2 l3 l4 l5 l6 : oV} {a : Nat} {S : List oV} {σ : oSg} {Q : Option oV → (Nat → oC) → Prop} : oE d 212 75 [.inr (.inr (.inl a)), l1, l2, l3, l4, l5, l6] S σ Q = oE d 212 76 [.inr (.inr (.inl a)), l1, l2, l3, l4, l5, l6] (.inr (.inr (.inl a)) :: S) σ Q := pLdN (k := 0) f_212_75 rfl rfl rfl
theorem f_212_76 : oFet 212 76 = some (.iload_n 3, 1) := by decide +kernel
theorem s_212_76 {d : Nat} {l0 l1 l2 l4 l5 l6 : oV} {x : Int} {S : List oV} {σ : oSg} {Q : Option oV → (Nat → oC) → Prop} : oE d 212 76 [l0, l1, l2, .inl x, l4, l5, l6] S σ Q = oE d 212 77 [l0, l1, l2, .inl x, l4, l5, l6] (.inl x :: S) σ Q := pLdN (k := 3) f_212_76 rfl rfl rfl
theorem f_212_77 : oFet 212 77 = some (.iload 4, 2) := by decide +kernel
theorem s_212_77 {d : Nat} {l0 l1 l2 l3 l5 l6 : oV} {x : Int} {S : List oV} {σ : oSg} {Q : Option oV → (Nat → oC) → Prop} : oE d 212 77 [l0, l1, l2, l3, .inl x, l5, l6] S σ Q = oE d 212 79 [l0, l1, l2, l3, .inl x, l5, l6] (.inl x :: S) σ Q := pLd (i := 4) f_212_77 rfl rfl rfl
theorem f_212_79 : oFet 212 79 = some (.iconst 0, 1) := by decide +kernel
theorem s_212_79 {d : Nat} {l0 l1 l2 l3 l4 l5 l6 : oV} {S : List oV} {σ : oSg} {Q : Option oV → (Nat → oC) → Prop} : oE d 212 79 [l0, l1, l2, l3, l4, l5, l6] S σ Q = oE d 212 80 [l0, l1, l2, l3, l4, l5, l6] (.inl (0) :: S) σ Q := pKst f_212_79 (by decide)
theorem f_212_80 : oFet 212 80 = some (.invokevirtual 83, 3) := by decide +kernel
theorem c_212_80 {d : Nat} {l0 l1 l2 l3 l4 l5 l6 : oV} {x0 x1 x2 : oV} {a : Nat} {v : Option oV} {τ : oSg} {S : List oV} {σ : oSg} {Q : Option oV → (Nat → oC) → Prop} (hm : oMi d 148 [.inr (.inr (.inl a)), x0, x1, x2] σ v τ) (hk : oKd a = some 11) (hs : oSmall S = true) : oE d 212 80 [l0, l1, l2, l3, l4, l5, l6] (x2 :: x1 :: x0 :: .inr (.inr (.inl a)) :: S) σ Q = oE d 212 83 [l0, l1, l2, l3, l4, l5, l6] (v.toList ++ S) τ Q := pCallV f_212_80 ow_212 lk_11_83 mt_148 rfl rfl rfl hk hs hm
theorem f_212_83 : oFet 212 83 = some (.goto 55, 3) := by decide +kernel
theorem s_212_83 {d : Nat} {l0 l1 l2 l3 l4 l5 l6 : oV} {S : List oV} {σ : oSg} {Q : Option oV → (Nat → oC) → Prop} : oE d 212 83 [l0, l1, l2, l3, l4, l5, l6] S σ Q = oE d 212 138 [l0, l1, l2, l3, l4, l5, l6] S σ Q := pGoto f_212_83 (by decide)
theorem f_212_86 : oFet 212 86 = some (.iload_n 1, 1) := by decide +kernel
theorem s_212_86 {d : Nat} {l0 l2 l3 l4 l5 l6 : oV} {x : Int} {S : List oV} {σ : oSg} {Q : Option oV → (Nat → oC) → Prop} : oE d 212 86 [l0, .inl x, l2, l3, l4, l5, l6] S σ Q = oE d 212 87 [l0, .inl x, l2, l3, l4, l5, l6] (.inl x :: S) σ Q := pLdN (k := 1) f_212_86 rfl rfl rfl
theorem f_212_87 : oFet 212 87 = some (.iconst 1, 1) := by decide +kernel
theorem s_212_87 {d : Nat} {l0 l1 l2 l3 l4 l5 l6 : oV} {S : List oV} {σ : oSg} {Q : Option oV → (Nat → oC) → Prop} : oE d 212 87 [l0, l1, l2, l3, l4, l5, l6] S σ Q = oE d 212 88 [l0, l1, l2, l3, l4, l5, l6] (.inl (1) :: S) σ Q := pKst f_212_87 (by decide)
theorem f_212_88 : oFet 212 88 = some (.if_icmp .ne 32, 3) := by decide +kernel
theorem s_212_88 {d : Nat} {l0 l1 l2 l3 l4 l5 l6 : oV} {x y : Int} {S : List oV} {σ : oSg} {Q : Option oV → (Nat → oC) → Prop} : oE d 212 88 [l0, l1, l2, l3, l4, l5, l6] (.inl y :: .inl x :: S) σ Q = if ¬ x = y then oE d 212 120 [l0, l1, l2, l3, l4, l5, l6] S σ Q else oE d 212 91 [l0, l1, l2, l3, l4, l5, l6] S σ Q := oCmpNe f_212_88 (by decide)
theorem f_212_91 : oFet 212 91 = some (.iload 6, 2) := by decide +kernel
theorem s_212_91 {d : Nat} {l0 l1 l2 l3 l4 l5 : oV} {x : Int} {S : List oV} {σ : oSg} {Q : Option oV → (Nat → oC) → Prop} : oE d 212 91 [l0, l1, l2, l3, l4, l5, .inl x] S σ Q = oE d 212 93 [l0, l1, l2, l3, l4, l5, .inl x] (.inl x :: S) σ Q := pLd (i := 6) f_212_91 rfl rfl rfl
theorem f_212_93 : oFet 212 93 = some (.ifCond .eq 27, 3) := by decide +kernel
theorem s_212_93 {d : Nat} {l0 l1 l2 l3 l4 l5 l6 : oV} {x : Int} {S : List oV} {σ : oSg} {Q : Option oV → (Nat → oC) → Prop} : oE d 212 93 [l0, l1, l2, l3, l4, l5, l6] (.inl x :: S) σ Q = if x = 0 then oE d 212 120 [l0, l1, l2, l3, l4, l5, l6] S σ Q else oE d 212 96 [l0, l1, l2, l3, l4, l5, l6] S σ Q := oIfEq f_212_93 (by decide)
theorem f_212_96 : oFet 212 96 = some (.iload 5, 2) := by decide +kernel
theorem s_212_96 {d : Nat} {l0 l1 l2 l3 l4 l6 : oV} {x : Int} {S : List oV} {σ : oSg} {Q : Option oV → (Nat → oC) → Prop} : oE d 212 96 [l0, l1, l2, l3, l4, .inl x, l6] S σ Q = oE d 212 98 [l0, l1, l2, l3, l4, .inl x, l6] (.inl x :: S) σ Q := pLd (i := 5) f_212_96 rfl rfl rfl
theorem f_212_98 : oFet 212 98 = some (.ifCond .le 22, 3) := by decide +kernel
theorem s_212_98 {d : Nat} {l0 l1 l2 l3 l4 l5 l6 : oV} {x : Int} {S : List oV} {σ : oSg} {Q : Option oV → (Nat → oC) → Prop} : oE d 212 98 [l0, l1, l2, l3, l4, l5, l6] (.inl x :: S) σ Q = if x ≤ 0 then oE d 212 120 [l0, l1, l2, l3, l4, l5, l6] S σ Q else oE d 212 101 [l0, l1, l2, l3, l4, l5, l6] S σ Q := oIfLe f_212_98 (by decide)
theorem f_212_101 : oFet 212 101 = some (.aload_n 0, 1) := by decide +kernel
theorem s_212_101 {d : Nat} {l1 l2 l3 l4 l5 l6 : oV} {a : Nat} {S : List oV} {σ : oSg} {Q : Option oV → (Nat → oC) → Prop} : oE d 212 101 [.inr (.inr (.inl a)), l1, l2, l3, l4, l5, l6] S σ Q = oE d 212 102 [.inr (.inr (.inl a)), l1, l2, l3, l4, l5, l6] (.inr (.inr (.inl a)) :: S) σ Q := pLdN (k := 0) f_212_101 rfl rfl rfl
theorem f_212_102 : oFet 212 102 = some (.iload_n 3, 1) := by decide +kernel
theorem s_212_102 {d : Nat} {l0 l1 l2 l4 l5 l6 : oV} {x : Int} {S : List oV} {σ : oSg} {Q : Option oV → (Nat → oC) → Prop} : oE d 212 102 [l0, l1, l2, .inl x, l4, l5, l6] S σ Q = oE d 212 103 [l0, l1, l2, .inl x, l4, l5, l6] (.inl x :: S) σ Q := pLdN (k := 3) f_212_102 rfl rfl rfl
theorem f_212_103 : oFet 212 103 = some (.iload 4, 2) := by decide +kernel
theorem s_212_103 {d : Nat} {l0 l1 l2 l3 l5 l6 : oV} {x : Int} {S : List oV} {σ : oSg} {Q : Option oV → (Nat → oC) → Prop} : oE d 212 103 [l0, l1, l2, l3, .inl x, l5, l6] S σ Q = oE d 212 105 [l0, l1, l2, l3, .inl x, l5, l6] (.inl x :: S) σ Q := pLd (i := 4) f_212_103 rfl rfl rfl
theorem f_212_105 : oFet 212 105 = some (.bipush 20, 2) := by decide +kernel
theorem s_212_105 {d : Nat} {l0 l1 l2 l3 l4 l5 l6 : oV} {S : List oV} {σ : oSg} {Q : Option oV → (Nat → oC) → Prop} : oE d 212 105 [l0, l1, l2, l3, l4, l5, l6] S σ Q = oE d 212 107 [l0, l1, l2, l3, l4, l5, l6] (.inl (20) :: S) σ Q := pBip f_212_105 (by decide)
theorem f_212_107 : oFet 212 107 = some (.iload 5, 2) := by decide +kernel
theorem s_212_107 {d : Nat} {l0 l1 l2 l3 l4 l6 : oV} {x : Int} {S : List oV} {σ : oSg} {Q : Option oV → (Nat → oC) → Prop} : oE d 212 107 [l0, l1, l2, l3, l4, .inl x, l6] S σ Q = oE d 212 109 [l0, l1, l2, l3, l4, .inl x, l6] (.inl x :: S) σ Q := pLd (i := 5) f_212_107 rfl rfl rfl
theorem f_212_109 : oFet 212 109 = some (.iconst 1, 1) := by decide +kernel
theorem s_212_109 {d : Nat} {l0 l1 l2 l3 l4 l5 l6 : oV} {S : List oV} {σ : oSg} {Q : Option oV → (Nat → oC) → Prop} : oE d 212 109 [l0, l1, l2, l3, l4, l5, l6] S σ Q = oE d 212 110 [l0, l1, l2, l3, l4, l5, l6] (.inl (1) :: S) σ Q := pKst f_212_109 (by decide)
theorem f_212_110 : oFet 212 110 = some (.iadd, 1) := by decide +kernel
theorem s_212_110 {d : Nat} {l0 l1 l2 l3 l4 l5 l6 : oV} {x y : Int} {S : List oV} {σ : oSg} {Q : Option oV → (Nat → oC) → Prop} : oE d 212 110 [l0, l1, l2, l3, l4, l5, l6] (.inl y :: .inl x :: S) σ Q = oE d 212 111 [l0, l1, l2, l3, l4, l5, l6] (.inl (oAdd x y) :: S) σ Q := oS3 f_212_110 rfl rfl rfl
theorem f_212_111 : oFet 212 111 = some (.invokestatic 251, 3) := by decide +kernel
theorem s_212_111 {d : Nat} {l0 l1 l2 l3 l4 l5 l6 : oV} {x y : Int} {S : List oV} {σ : oSg} {Q : Option oV → (Nat → oC) → Prop} (hs : oSmall S = true) : oE d 212 111 [l0, l1, l2, l3, l4, l5, l6] (.inl y :: .inl x :: S) σ Q = oE d 212 114 [l0, l1, l2, l3, l4, l5, l6] (.inl (if y < x then y else x) :: S) σ Q := pMin f_212_111 ow_212 lk_11_251 hs
theorem f_212_114 : oFet 212 114 = some (.invokevirtual 83, 3) := by decide +kernel
theorem c_212_114 {d : Nat} {l0 l1 l2 l3 l4 l5 l6 : oV} {x0 x1 x2 : oV} {a : Nat} {v : Option oV} {τ : oSg} {S : List oV} {σ : oSg} {Q : Option oV → (Nat → oC) → Prop} (hm : oMi d 148 [.inr (.inr (.inl a)), x0, x1, x2] σ v τ) (hk : oKd a = some 11) (hs : oSmall S = true) : oE d 212 114 [l0, l1, l2, l3, l4, l5, l6] (x2 :: x1 :: x0 :: .inr (.inr (.inl a)) :: S) σ Q = oE d 212 117 [l0, l1, l2, l3, l4, l5, l6] (v.toList ++ S) τ Q := pCallV f_212_114 ow_212 lk_11_83 mt_148 rfl rfl rfl hk hs hm
theorem f_212_117 : oFet 212 117 = some (.goto 21, 3) := by decide +kernel
theorem s_212_117 {d : Nat} {l0 l1 l2 l3 l4 l5 l6 : oV} {S : List oV} {σ : oSg} {Q : Option oV → (Nat → oC) → Prop} : oE d 212 117 [l0, l1, l2, l3, l4, l5, l6] S σ Q = oE d 212 138 [l0, l1, l2, l3, l4, l5, l6] S σ Q := pGoto f_212_117 (by decide)
theorem f_212_120 : oFet 212 120 = some (.iload_n 1, 1) := by decide +kernel
theorem s_212_120 {d : Nat} {l0 l2 l3 l4 l5 l6 : oV} {x : Int} {S : List oV} {σ : oSg} {Q : Option oV → (Nat → oC) → Prop} : oE d 212 120 [l0, .inl x, l2, l3, l4, l5, l6] S σ Q = oE d 212 121 [l0, .inl x, l2, l3, l4, l5, l6] (.inl x :: S) σ Q := pLdN (k := 1) f_212_120 rfl rfl rfl
theorem f_212_121 : oFet 212 121 = some (.iconst 3, 1) := by decide +kernel
theorem s_212_121 {d : Nat} {l0 l1 l2 l3 l4 l5 l6 : oV} {S : List oV} {σ : oSg} {Q : Option oV → (Nat → oC) → Prop} : oE d 212 121 [l0, l1, l2, l3, l4, l5, l6] S σ Q = oE d 212 122 [l0, l1, l2, l3, l4, l5, l6] (.inl (3) :: S) σ Q := pKst f_212_121 (by decide)
theorem f_212_122 : oFet 212 122 = some (.if_icmp .ne 16, 3) := by decide +kernel
theorem s_212_122 {d : Nat} {l0 l1 l2 l3 l4 l5 l6 : oV} {x y : Int} {S : List oV} {σ : oSg} {Q : Option oV → (Nat → oC) → Prop} : oE d 212 122 [l0, l1, l2, l3, l4, l5, l6] (.inl y :: .inl x :: S) σ Q = if ¬ x = y then oE d 212 138 [l0, l1, l2, l3, l4, l5, l6] S σ Q else oE d 212 125 [l0, l1, l2, l3, l4, l5, l6] S σ Q := oCmpNe f_212_122 (by decide)
theorem f_212_125 : oFet 212 125 = some (.iload 5, 2) := by decide +kernel
theorem s_212_125 {d : Nat} {l0 l1 l2 l3 l4 l6 : oV} {x : Int} {S : List oV} {σ : oSg} {Q : Option oV → (Nat → oC) → Prop} : oE d 212 125 [l0, l1, l2, l3, l4, .inl x, l6] S σ Q = oE d 212 127 [l0, l1, l2, l3, l4, .inl x, l6] (.inl x :: S) σ Q := pLd (i := 5) f_212_125 rfl rfl rfl
theorem f_212_127 : oFet 212 127 = some (.ifCond .le 11, 3) := by decide +kernel
theorem s_212_127 {d : Nat} {l0 l1 l2 l3 l4 l5 l6 : oV} {x : Int} {S : List oV} {σ : oSg} {Q : Option oV → (Nat → oC) → Prop} : oE d 212 127 [l0, l1, l2, l3, l4, l5, l6] (.inl x :: S) σ Q = if x ≤ 0 then oE d 212 138 [l0, l1, l2, l3, l4, l5, l6] S σ Q else oE d 212 130 [l0, l1, l2, l3, l4, l5, l6] S σ Q := oIfLe f_212_127 (by decide)
theorem f_212_130 : oFet 212 130 = some (.aload_n 0, 1) := by decide +kernel
theorem s_212_130 {d : Nat} {l1 l2 l3 l4 l5 l6 : oV} {a : Nat} {S : List oV} {σ : oSg} {Q : Option oV → (Nat → oC) → Prop} : oE d 212 130 [.inr (.inr (.inl a)), l1, l2, l3, l4, l5, l6] S σ Q = oE d 212 131 [.inr (.inr (.inl a)), l1, l2, l3, l4, l5, l6] (.inr (.inr (.inl a)) :: S) σ Q := pLdN (k := 0) f_212_130 rfl rfl rfl
theorem f_212_131 : oFet 212 131 = some (.iload_n 3, 1) := by decide +kernel
theorem s_212_131 {d : Nat} {l0 l1 l2 l4 l5 l6 : oV} {x : Int} {S : List oV} {σ : oSg} {Q : Option oV → (Nat → oC) → Prop} : oE d 212 131 [l0, l1, l2, .inl x, l4, l5, l6] S σ Q = oE d 212 132 [l0, l1, l2, .inl x, l4, l5, l6] (.inl x :: S) σ Q := pLdN (k := 3) f_212_131 rfl rfl rfl
theorem f_212_132 : oFet 212 132 = some (.iload 4, 2) := by decide +kernel
theorem s_212_132 {d : Nat} {l0 l1 l2 l3 l5 l6 : oV} {x : Int} {S : List oV} {σ : oSg} {Q : Option oV → (Nat → oC) → Prop} : oE d 212 132 [l0, l1, l2, l3, .inl x, l5, l6] S σ Q = oE d 212 134 [l0, l1, l2, l3, .inl x, l5, l6] (.inl x :: S) σ Q := pLd (i := 4) f_212_132 rfl rfl rfl
theorem f_212_134 : oFet 212 134 = some (.iconst 1, 1) := by decide +kernel
theorem s_212_134 {d : Nat} {l0 l1 l2 l3 l4 l5 l6 : oV} {S : List oV} {σ : oSg} {Q : Option oV → (Nat → oC) → Prop} : oE d 212 134 [l0, l1, l2, l3, l4, l5, l6] S σ Q = oE d 212 135 [l0, l1, l2, l3, l4, l5, l6] (.inl (1) :: S) σ Q := pKst f_212_134 (by decide)
theorem f_212_135 : oFet 212 135 = some (.invokevirtual 83, 3) := by decide +kernel
theorem c_212_135 {d : Nat} {l0 l1 l2 l3 l4 l5 l6 : oV} {x0 x1 x2 : oV} {a : Nat} {v : Option oV} {τ : oSg} {S : List oV} {σ : oSg} {Q : Option oV → (Nat → oC) → Prop} (hm : oMi d 148 [.inr (.inr (.inl a)), x0, x1, x2] σ v τ) (hk : oKd a = some 11) (hs : oSmall S = true) : oE d 212 135 [l0, l1, l2, l3, l4, l5, l6] (x2 :: x1 :: x0 :: .inr (.inr (.inl a)) :: S) σ Q = oE d 212 138 [l0, l1, l2, l3, l4, l5, l6] (v.toList ++ S) τ Q := pCallV f_212_135 ow_212 lk_11_83 mt_148 rfl rfl rfl hk hs hm
theorem f_212_138 : oFet 212 138 = some (.iinc 4 1, 3) := by decide +kernel
theorem s_212_138 {d : Nat} {l0 l1 l2 l3 l5 l6 : oV} {x : Int} {S : List oV} {σ : oSg} {Q : Option oV → (Nat → oC) → Prop} (c3 : oCat l3 = 1)  : oE d 212 138 [l0, l1, l2, l3, .inl x, l5, l6] S σ Q = oE d 212 141 [l0, l1, l2, l3, .inl (oAdd x (1)), l5, l6] S σ Q := pInc f_212_138 rfl (show (4 : Nat) < 7 by decide) (oC1n c3) (oC1n (v := .inl x) rfl) rfl
theorem f_212_141 : oFet 212 141 = some (.goto (-124), 3) := by decide +kernel
theorem s_212_141 {d : Nat} {l0 l1 l2 l3 l4 l5 l6 : oV} {S : List oV} {σ : oSg} {Q : Option oV → (Nat → oC) → Prop} : oE d 212 141 [l0, l1, l2, l3, l4, l5, l6] S σ Q = oE d 212 17 [l0, l1, l2, l3, l4, l5, l6] S σ Q := pGoto f_212_141 (by decide)
theorem f_212_144 : oFet 212 144 = some (.iinc 3 1, 3) := by decide +kernel
theorem s_212_144 {d : Nat} {l0 l1 l2 l4 l5 l6 : oV} {x : Int} {S : List oV} {σ : oSg} {Q : Option oV → (Nat → oC) → Prop} (c2 : oCat l2 = 1)  : oE d 212 144 [l0, l1, l2, .inl x, l4, l5, l6] S σ Q = oE d 212 147 [l0, l1, l2, .inl (oAdd x (1)), l4, l5, l6] S σ Q := pInc f_212_144 rfl (show (3 : Nat) < 7 by decide) (oC1n c2) (oC1n (v := .inl x) rfl) rfl
theorem f_212_147 : oFet 212 147 = some (.goto (-145), 3) := by decide +kernel
theorem s_212_147 {d : Nat} {l0 l1 l2 l3 l4 l5 l6 : oV} {S : List oV} {σ : oSg} {Q : Option oV → (Nat → oC) → Prop} : oE d 212 147 [l0, l1, l2, l3, l4, l5, l6] S σ Q = oE d 212 2 [l0, l1, l2, l3, l4, l5, l6] S σ Q := pGoto f_212_147 (by decide)
theorem f_212_150 : oFet 212 150 = some (.return_, 1) := by decide +kernel
theorem s_212_150 {d : Nat} {l0 l1 l2 l3 l4 l5 l6 : oV} {σ : oSg} {Q : Option oV → (Nat → oC) → Prop} : oE d 212 150 [l0, l1, l2, l3, l4, l5, l6] [] σ Q = Q none (oBld σ) := oVret f_212_150 rt_212
theorem ow_213 : (oMt 213).2.2.2.2.1 = 11 := by decide +kernel
theorem rt_213 : (oMt 213).2.2.2.1 = none := by decide +kernel
theorem nl_213 : (oMt 213).2.2.1 = 1 := by decide +kernel
theorem f_213_0 : oFet 213 0 = some (.aload_n 0, 1) := by decide +kernel
theorem s_213_0 {d : Nat} {a : Nat} {S : List oV} {σ : oSg} {Q : Option oV → (Nat → oC) → Prop} : oE d 213 0 [.inr (.inr (.inl a))] S σ Q = oE d 213 1 [.inr (.inr (.inl a))] (.inr (.inr (.inl a)) :: S) σ Q := pLdN (k := 0) f_213_0 rfl rfl rfl
theorem f_213_1 : oFet 213 1 = some (.getfield 18, 3) := by decide +kernel
theorem s_213_1 {d : Nat} {l0 : oV} {a : Nat} {S : List oV} {σ : oSg} {Q : Option oV → (Nat → oC) → Prop} (hk : oKd a = some 11) : oE d 213 1 [l0] (.inr (.inr (.inl a)) :: S) σ Q = oE d 213 4 [l0] (.inr (.inr (.inl (oRf a 2))) :: S) σ Q := pGfR f_213_1 ow_213 fl_11_18 rfl (by decide) hk
theorem f_213_4 : oFet 213 4 = some (.iconst 0, 1) := by decide +kernel
theorem s_213_4 {d : Nat} {l0 : oV} {S : List oV} {σ : oSg} {Q : Option oV → (Nat → oC) → Prop} : oE d 213 4 [l0] S σ Q = oE d 213 5 [l0] (.inl (0) :: S) σ Q := pKst f_213_4 (by decide)
theorem f_213_5 : oFet 213 5 = some (.aload_n 0, 1) := by decide +kernel
theorem s_213_5 {d : Nat} {a : Nat} {S : List oV} {σ : oSg} {Q : Option oV → (Nat → oC) → Prop} : oE d 213 5 [.inr (.inr (.inl a))] S σ Q = oE d 213 6 [.inr (.inr (.inl a))] (.inr (.inr (.inl a)) :: S) σ Q := pLdN (k := 0) f_213_5 rfl rfl rfl
theorem f_213_6 : oFet 213 6 = some (.getfield 11, 3) := by decide +kernel
theorem s_213_6 {d : Nat} {l0 : oV} {a : Nat} {S : List oV} {σ : oSg} {Q : Option oV → (Nat → oC) → Prop} (hk : oKd a = some 11) : oE d 213 6 [l0] (.inr (.inr (.inl a)) :: S) σ Q = oE d 213 9 [l0] (.inr (.inr (.inl (oRf a 0))) :: S) σ Q := pGfR f_213_6 ow_213 fl_11_11 rfl (by decide) hk
theorem f_213_9 : oFet 213 9 = some (.iconst 0, 1) := by decide +kernel
theorem s_213_9 {d : Nat} {l0 : oV} {S : List oV} {σ : oSg} {Q : Option oV → (Nat → oC) → Prop} : oE d 213 9 [l0] S σ Q = oE d 213 10 [l0] (.inl (0) :: S) σ Q := pKst f_213_9 (by decide)
theorem f_213_10 : oFet 213 10 = some (.bipush 116, 2) := by decide +kernel
theorem s_213_10 {d : Nat} {l0 : oV} {S : List oV} {σ : oSg} {Q : Option oV → (Nat → oC) → Prop} : oE d 213 10 [l0] S σ Q = oE d 213 12 [l0] (.inl (116) :: S) σ Q := pBip f_213_10 (by decide)
theorem f_213_12 : oFet 213 12 = some (.invokestatic 69, 3) := by decide +kernel
theorem s_213_12 {d : Nat} {l0 : oV} {a b : Nat} {sp dp n : Int} {S : List oV} {σ : oSg} {Q : Option oV → (Nat → oC) → Prop} (ha : oAk a = some 0) (hb : oAk b = some 0) (hs : oSmall S = true) (g1 : 0 ≤ sp) (g2 : 0 ≤ dp) (g3 : 0 ≤ n) (g4 : sp + n ≤ (oLn a : Int)) (g5 : dp + n ≤ (oLn b : Int)) : oE d 213 12 [l0] (.inl n :: .inl dp :: .inr (.inr (.inl b)) :: .inl sp :: .inr (.inr (.inl a)) :: S) σ Q = oE d 213 15 [l0] S (oCp σ a sp b dp n) Q := pCpy f_213_12 ow_213 lk_11_69 ha hb (by decide) hs g1 g2 g3 g4 g5
theorem f_213_15 : oFet 213 15 = some (.return_, 1) := by decide +kernel
theorem s_213_15 {d : Nat} {l0 : oV} {σ : oSg} {Q : Option oV → (Nat → oC) → Prop} : oE d 213 15 [l0] [] σ Q = Q none (oBld σ) := oVret f_213_15 rt_213
theorem ow_214 : (oMt 214).2.2.2.2.1 = 11 := by decide +kernel
theorem rt_214 : (oMt 214).2.2.2.1 = some .int := by decide +kernel
theorem nl_214 : (oMt 214).2.2.1 = 3 := by decide +kernel
theorem f_214_0 : oFet 214 0 = some (.aload_n 0, 1) := by decide +kernel
theorem s_214_0 {d : Nat} {l1 l2 : oV} {a : Nat} {S : List oV} {σ : oSg} {Q : Option oV → (Nat → oC) → Prop} : oE d 214 0 [.inr (.inr (.inl a)), l1, l2] S σ Q = oE d 214 1 [.inr (.inr (.inl a)), l1, l2] (.inr (.inr (.inl a)) :: S) σ Q := pLdN (k := 0) f_214_0 rfl rfl rfl
theorem f_214_1 : oFet 214 1 = some (.bipush 99, 2) := by decide +kernel
theorem s_214_1 {d : Nat} {l0 l1 l2 : oV} {S : List oV} {σ : oSg} {Q : Option oV → (Nat → oC) → Prop} : oE d 214 1 [l0, l1, l2] S σ Q = oE d 214 3 [l0, l1, l2] (.inl (99) :: S) σ Q := pBip f_214_1 (by decide)
theorem f_214_3 : oFet 214 3 = some (.bipush 8, 2) := by decide +kernel
theorem s_214_3 {d : Nat} {l0 l1 l2 : oV} {S : List oV} {σ : oSg} {Q : Option oV → (Nat → oC) → Prop} : oE d 214 3 [l0, l1, l2] S σ Q = oE d 214 5 [l0, l1, l2] (.inl (8) :: S) σ Q := pBip f_214_3 (by decide)
theorem f_214_5 : oFet 214 5 = some (.iload_n 1, 1) := by decide +kernel
theorem s_214_5 {d : Nat} {l0 l2 : oV} {x : Int} {S : List oV} {σ : oSg} {Q : Option oV → (Nat → oC) → Prop} : oE d 214 5 [l0, .inl x, l2] S σ Q = oE d 214 6 [l0, .inl x, l2] (.inl x :: S) σ Q := pLdN (k := 1) f_214_5 rfl rfl rfl
theorem f_214_6 : oFet 214 6 = some (.iload_n 2, 1) := by decide +kernel
theorem s_214_6 {d : Nat} {l0 l1 : oV} {x : Int} {S : List oV} {σ : oSg} {Q : Option oV → (Nat → oC) → Prop} : oE d 214 6 [l0, l1, .inl x] S σ Q = oE d 214 7 [l0, l1, .inl x] (.inl x :: S) σ Q := pLdN (k := 2) f_214_6 rfl rfl rfl
theorem f_214_7 : oFet 214 7 = some (.invokevirtual 235, 3) := by decide +kernel
theorem c_214_7 {d : Nat} {l0 l1 l2 : oV} {x0 x1 x2 x3 : oV} {a : Nat} {v : Option oV} {τ : oSg} {S : List oV} {σ : oSg} {Q : Option oV → (Nat → oC) → Prop} (hm : oMi d 202 [.inr (.inr (.inl a)), x0, x1, x2, x3] σ v τ) (hk : oKd a = some 11) (hs : oSmall S = true) : oE d 214 7 [l0, l1, l2] (x3 :: x2 :: x1 :: x0 :: .inr (.inr (.inl a)) :: S) σ Q = oE d 214 10 [l0, l1, l2] (v.toList ++ S) τ Q := pCallV f_214_7 ow_214 lk_11_235 mt_202 rfl rfl rfl hk hs hm
theorem f_214_10 : oFet 214 10 = some (.ireturn, 1) := by decide +kernel
theorem s_214_10 {d : Nat} {l0 l1 l2 : oV} {x : Int} {σ : oSg} {Q : Option oV → (Nat → oC) → Prop} : oE d 214 10 [l0, l1, l2] [.inl x] σ Q = Q (some (.inl x)) (oBld σ) := oIret f_214_10 rt_214
theorem ow_215 : (oMt 215).2.2.2.2.1 = 11 := by decide +kernel
theorem rt_215 : (oMt 215).2.2.2.1 = some .int := by decide +kernel
theorem nl_215 : (oMt 215).2.2.1 = 2 := by decide +kernel
theorem f_215_0 : oFet 215 0 = some (.iconst 0, 1) := by decide +kernel
theorem s_215_0 {d : Nat} {l0 l1 : oV} {S : List oV} {σ : oSg} {Q : Option oV → (Nat → oC) → Prop} : oE d 215 0 [l0, l1] S σ Q = oE d 215 1 [l0, l1] (.inl (0) :: S) σ Q := pKst f_215_0 (by decide)
theorem f_215_1 : oFet 215 1 = some (.istore_n 1, 1) := by decide +kernel
theorem s_215_1 {d : Nat} {l0 l1 : oV} {x : Int} {S : List oV} {σ : oSg} {Q : Option oV → (Nat → oC) → Prop} (c1 : oCat l1 = 1) (c0 : oCat l0 = 1)  : oE d 215 1 [l0, l1] (.inl x :: S) σ Q = oE d 215 2 [l0, .inl x] S σ Q := pSt (i := 1) f_215_1 rfl rfl (show (1 : Nat) < 2 by decide) (oC1n c0) (oC1n c1) rfl
theorem f_215_2 : oFet 215 2 = some (.iload_n 1, 1) := by decide +kernel
theorem s_215_2 {d : Nat} {l0 : oV} {x : Int} {S : List oV} {σ : oSg} {Q : Option oV → (Nat → oC) → Prop} : oE d 215 2 [l0, .inl x] S σ Q = oE d 215 3 [l0, .inl x] (.inl x :: S) σ Q := pLdN (k := 1) f_215_2 rfl rfl rfl
theorem f_215_3 : oFet 215 3 = some (.aload_n 0, 1) := by decide +kernel
theorem s_215_3 {d : Nat} {l1 : oV} {a : Nat} {S : List oV} {σ : oSg} {Q : Option oV → (Nat → oC) → Prop} : oE d 215 3 [.inr (.inr (.inl a)), l1] S σ Q = oE d 215 4 [.inr (.inr (.inl a)), l1] (.inr (.inr (.inl a)) :: S) σ Q := pLdN (k := 0) f_215_3 rfl rfl rfl
theorem f_215_4 : oFet 215 4 = some (.getfield 11, 3) := by decide +kernel
theorem s_215_4 {d : Nat} {l0 l1 : oV} {a : Nat} {S : List oV} {σ : oSg} {Q : Option oV → (Nat → oC) → Prop} (hk : oKd a = some 11) : oE d 215 4 [l0, l1] (.inr (.inr (.inl a)) :: S) σ Q = oE d 215 7 [l0, l1] (.inr (.inr (.inl (oRf a 0))) :: S) σ Q := pGfR f_215_4 ow_215 fl_11_11 rfl (by decide) hk
theorem f_215_7 : oFet 215 7 = some (.bipush 99, 2) := by decide +kernel
theorem s_215_7 {d : Nat} {l0 l1 : oV} {S : List oV} {σ : oSg} {Q : Option oV → (Nat → oC) → Prop} : oE d 215 7 [l0, l1] S σ Q = oE d 215 9 [l0, l1] (.inl (99) :: S) σ Q := pBip f_215_7 (by decide)
theorem f_215_9 : oFet 215 9 = some (.iaload, 1) := by decide +kernel
theorem s_215_9 {d : Nat} {l0 l1 : oV} {a : Nat} {i : Int} {S : List oV} {σ : oSg} {Q : Option oV → (Nat → oC) → Prop} (hk : oAk a = some 0) (h0 : 0 ≤ i) (h1 : i < (oLn a : Int)) : oE d 215 9 [l0, l1] (.inl i :: .inr (.inr (.inl a)) :: S) σ Q = oE d 215 10 [l0, l1] (.inl (σ.2 a i.toNat) :: S) σ Q := oIal f_215_9 hk h0 h1
theorem f_215_10 : oFet 215 10 = some (.if_icmp .ge 36, 3) := by decide +kernel
theorem s_215_10 {d : Nat} {l0 l1 : oV} {x y : Int} {S : List oV} {σ : oSg} {Q : Option oV → (Nat → oC) → Prop} : oE d 215 10 [l0, l1] (.inl y :: .inl x :: S) σ Q = if y ≤ x then oE d 215 46 [l0, l1] S σ Q else oE d 215 13 [l0, l1] S σ Q := oCmpGe f_215_10 (by decide)
theorem f_215_13 : oFet 215 13 = some (.aload_n 0, 1) := by decide +kernel
theorem s_215_13 {d : Nat} {l1 : oV} {a : Nat} {S : List oV} {σ : oSg} {Q : Option oV → (Nat → oC) → Prop} : oE d 215 13 [.inr (.inr (.inl a)), l1] S σ Q = oE d 215 14 [.inr (.inr (.inl a)), l1] (.inr (.inr (.inl a)) :: S) σ Q := pLdN (k := 0) f_215_13 rfl rfl rfl
theorem f_215_14 : oFet 215 14 = some (.aload_n 0, 1) := by decide +kernel
theorem s_215_14 {d : Nat} {l1 : oV} {a : Nat} {S : List oV} {σ : oSg} {Q : Option oV → (Nat → oC) → Prop} : oE d 215 14 [.inr (.inr (.inl a)), l1] S σ Q = oE d 215 15 [.inr (.inr (.inl a)), l1] (.inr (.inr (.inl a)) :: S) σ Q := pLdN (k := 0) f_215_14 rfl rfl rfl
theorem f_215_15 : oFet 215 15 = some (.getfield 11, 3) := by decide +kernel
theorem s_215_15 {d : Nat} {l0 l1 : oV} {a : Nat} {S : List oV} {σ : oSg} {Q : Option oV → (Nat → oC) → Prop} (hk : oKd a = some 11) : oE d 215 15 [l0, l1] (.inr (.inr (.inl a)) :: S) σ Q = oE d 215 18 [l0, l1] (.inr (.inr (.inl (oRf a 0))) :: S) σ Q := pGfR f_215_15 ow_215 fl_11_11 rfl (by decide) hk
theorem f_215_18 : oFet 215 18 = some (.bipush 100, 2) := by decide +kernel
theorem s_215_18 {d : Nat} {l0 l1 : oV} {S : List oV} {σ : oSg} {Q : Option oV → (Nat → oC) → Prop} : oE d 215 18 [l0, l1] S σ Q = oE d 215 20 [l0, l1] (.inl (100) :: S) σ Q := pBip f_215_18 (by decide)
theorem f_215_20 : oFet 215 20 = some (.iload_n 1, 1) := by decide +kernel
theorem s_215_20 {d : Nat} {l0 : oV} {x : Int} {S : List oV} {σ : oSg} {Q : Option oV → (Nat → oC) → Prop} : oE d 215 20 [l0, .inl x] S σ Q = oE d 215 21 [l0, .inl x] (.inl x :: S) σ Q := pLdN (k := 1) f_215_20 rfl rfl rfl
theorem f_215_21 : oFet 215 21 = some (.iadd, 1) := by decide +kernel
theorem s_215_21 {d : Nat} {l0 l1 : oV} {x y : Int} {S : List oV} {σ : oSg} {Q : Option oV → (Nat → oC) → Prop} : oE d 215 21 [l0, l1] (.inl y :: .inl x :: S) σ Q = oE d 215 22 [l0, l1] (.inl (oAdd x y) :: S) σ Q := oS3 f_215_21 rfl rfl rfl
theorem f_215_22 : oFet 215 22 = some (.iaload, 1) := by decide +kernel
theorem s_215_22 {d : Nat} {l0 l1 : oV} {a : Nat} {i : Int} {S : List oV} {σ : oSg} {Q : Option oV → (Nat → oC) → Prop} (hk : oAk a = some 0) (h0 : 0 ≤ i) (h1 : i < (oLn a : Int)) : oE d 215 22 [l0, l1] (.inl i :: .inr (.inr (.inl a)) :: S) σ Q = oE d 215 23 [l0, l1] (.inl (σ.2 a i.toNat) :: S) σ Q := oIal f_215_22 hk h0 h1
theorem f_215_23 : oFet 215 23 = some (.invokevirtual 75, 3) := by decide +kernel
theorem c_215_23 {d : Nat} {l0 l1 : oV} {x0 : oV} {a : Nat} {v : Option oV} {τ : oSg} {S : List oV} {σ : oSg} {Q : Option oV → (Nat → oC) → Prop} (hm : oMi d 149 [.inr (.inr (.inl a)), x0] σ v τ) (hk : oKd a = some 11) (hs : oSmall S = true) : oE d 215 23 [l0, l1] (x0 :: .inr (.inr (.inl a)) :: S) σ Q = oE d 215 26 [l0, l1] (v.toList ++ S) τ Q := pCallV f_215_23 ow_215 lk_11_75 mt_149 rfl rfl rfl hk hs hm
theorem f_215_26 : oFet 215 26 = some (.aload_n 0, 1) := by decide +kernel
theorem s_215_26 {d : Nat} {l1 : oV} {a : Nat} {S : List oV} {σ : oSg} {Q : Option oV → (Nat → oC) → Prop} : oE d 215 26 [.inr (.inr (.inl a)), l1] S σ Q = oE d 215 27 [.inr (.inr (.inl a)), l1] (.inr (.inr (.inl a)) :: S) σ Q := pLdN (k := 0) f_215_26 rfl rfl rfl
theorem f_215_27 : oFet 215 27 = some (.getfield 11, 3) := by decide +kernel
theorem s_215_27 {d : Nat} {l0 l1 : oV} {a : Nat} {S : List oV} {σ : oSg} {Q : Option oV → (Nat → oC) → Prop} (hk : oKd a = some 11) : oE d 215 27 [l0, l1] (.inr (.inr (.inl a)) :: S) σ Q = oE d 215 30 [l0, l1] (.inr (.inr (.inl (oRf a 0))) :: S) σ Q := pGfR f_215_27 ow_215 fl_11_11 rfl (by decide) hk
theorem f_215_30 : oFet 215 30 = some (.bipush 108, 2) := by decide +kernel
theorem s_215_30 {d : Nat} {l0 l1 : oV} {S : List oV} {σ : oSg} {Q : Option oV → (Nat → oC) → Prop} : oE d 215 30 [l0, l1] S σ Q = oE d 215 32 [l0, l1] (.inl (108) :: S) σ Q := pBip f_215_30 (by decide)
theorem f_215_32 : oFet 215 32 = some (.iload_n 1, 1) := by decide +kernel
theorem s_215_32 {d : Nat} {l0 : oV} {x : Int} {S : List oV} {σ : oSg} {Q : Option oV → (Nat → oC) → Prop} : oE d 215 32 [l0, .inl x] S σ Q = oE d 215 33 [l0, .inl x] (.inl x :: S) σ Q := pLdN (k := 1) f_215_32 rfl rfl rfl
theorem f_215_33 : oFet 215 33 = some (.iadd, 1) := by decide +kernel
theorem s_215_33 {d : Nat} {l0 l1 : oV} {x y : Int} {S : List oV} {σ : oSg} {Q : Option oV → (Nat → oC) → Prop} : oE d 215 33 [l0, l1] (.inl y :: .inl x :: S) σ Q = oE d 215 34 [l0, l1] (.inl (oAdd x y) :: S) σ Q := oS3 f_215_33 rfl rfl rfl
theorem f_215_34 : oFet 215 34 = some (.iaload, 1) := by decide +kernel
theorem s_215_34 {d : Nat} {l0 l1 : oV} {a : Nat} {i : Int} {S : List oV} {σ : oSg} {Q : Option oV → (Nat → oC) → Prop} (hk : oAk a = some 0) (h0 : 0 ≤ i) (h1 : i < (oLn a : Int)) : oE d 215 34 [l0, l1] (.inl i :: .inr (.inr (.inl a)) :: S) σ Q = oE d 215 35 [l0, l1] (.inl (σ.2 a i.toNat) :: S) σ Q := oIal f_215_34 hk h0 h1
theorem f_215_35 : oFet 215 35 = some (.if_icmp .eq 5, 3) := by decide +kernel
theorem s_215_35 {d : Nat} {l0 l1 : oV} {x y : Int} {S : List oV} {σ : oSg} {Q : Option oV → (Nat → oC) → Prop} : oE d 215 35 [l0, l1] (.inl y :: .inl x :: S) σ Q = if x = y then oE d 215 40 [l0, l1] S σ Q else oE d 215 38 [l0, l1] S σ Q := oCmpEq f_215_35 (by decide)
theorem f_215_38 : oFet 215 38 = some (.iload_n 1, 1) := by decide +kernel
theorem s_215_38 {d : Nat} {l0 : oV} {x : Int} {S : List oV} {σ : oSg} {Q : Option oV → (Nat → oC) → Prop} : oE d 215 38 [l0, .inl x] S σ Q = oE d 215 39 [l0, .inl x] (.inl x :: S) σ Q := pLdN (k := 1) f_215_38 rfl rfl rfl
theorem f_215_39 : oFet 215 39 = some (.ireturn, 1) := by decide +kernel
theorem s_215_39 {d : Nat} {l0 l1 : oV} {x : Int} {σ : oSg} {Q : Option oV → (Nat → oC) → Prop} : oE d 215 39 [l0, l1] [.inl x] σ Q = Q (some (.inl x)) (oBld σ) := oIret f_215_39 rt_215
theorem f_215_40 : oFet 215 40 = some (.iinc 1 1, 3) := by decide +kernel
theorem s_215_40 {d : Nat} {l0 : oV} {x : Int} {S : List oV} {σ : oSg} {Q : Option oV → (Nat → oC) → Prop} (c0 : oCat l0 = 1)  : oE d 215 40 [l0, .inl x] S σ Q = oE d 215 43 [l0, .inl (oAdd x (1))] S σ Q := pInc f_215_40 rfl (show (1 : Nat) < 2 by decide) (oC1n c0) (oC1n (v := .inl x) rfl) rfl
theorem f_215_43 : oFet 215 43 = some (.goto (-41), 3) := by decide +kernel
theorem s_215_43 {d : Nat} {l0 l1 : oV} {S : List oV} {σ : oSg} {Q : Option oV → (Nat → oC) → Prop} : oE d 215 43 [l0, l1] S σ Q = oE d 215 2 [l0, l1] S σ Q := pGoto f_215_43 (by decide)
theorem f_215_46 : oFet 215 46 = some (.bipush (-5), 2) := by decide +kernel
theorem s_215_46 {d : Nat} {l0 l1 : oV} {S : List oV} {σ : oSg} {Q : Option oV → (Nat → oC) → Prop} : oE d 215 46 [l0, l1] S σ Q = oE d 215 48 [l0, l1] (.inl (-5) :: S) σ Q := pBip f_215_46 (by decide)
theorem f_215_48 : oFet 215 48 = some (.ireturn, 1) := by decide +kernel
theorem s_215_48 {d : Nat} {l0 l1 : oV} {x : Int} {σ : oSg} {Q : Option oV → (Nat → oC) → Prop} : oE d 215 48 [l0, l1] [.inl x] σ Q = Q (some (.inl x)) (oBld σ) := oIret f_215_48 rt_215
theorem ow_216 : (oMt 216).2.2.2.2.1 = 11 := by decide +kernel
theorem rt_216 : (oMt 216).2.2.2.1 = some .int := by decide +kernel
theorem nl_216 : (oMt 216).2.2.1 = 4 := by decide +kernel
theorem f_216_0 : oFet 216 0 = some (.iload_n 1, 1) := by decide +kernel
theorem s_216_0 {d : Nat} {l0 l2 l3 : oV} {x : Int} {S : List oV} {σ : oSg} {Q : Option oV → (Nat → oC) → Prop} : oE d 216 0 [l0, .inl x, l2, l3] S σ Q = oE d 216 1 [l0, .inl x, l2, l3] (.inl x :: S) σ Q := pLdN (k := 1) f_216_0 rfl rfl rfl
theorem f_216_1 : oFet 216 1 = some (.invokestatic 263, 3) := by decide +kernel
theorem c_216_1 {d : Nat} {l0 l1 l2 l3 : oV} {x0 : oV} {v : Option oV} {τ : oSg} {S : List oV} {σ : oSg} {Q : Option oV → (Nat → oC) → Prop} (hm : oMi d 217 [x0] σ v τ) (hs : oSmall S = true) : oE d 216 1 [l0, l1, l2, l3] (x0 :: S) σ Q = oE d 216 4 [l0, l1, l2, l3] (v.toList ++ S) τ Q := pCallS f_216_1 ow_216 lk_11_263 mt_217 rfl rfl rfl hs hm
theorem f_216_4 : oFet 216 4 = some (.ifCond .ne 5, 3) := by decide +kernel
theorem s_216_4 {d : Nat} {l0 l1 l2 l3 : oV} {x : Int} {S : List oV} {σ : oSg} {Q : Option oV → (Nat → oC) → Prop} : oE d 216 4 [l0, l1, l2, l3] (.inl x :: S) σ Q = if ¬ x = 0 then oE d 216 9 [l0, l1, l2, l3] S σ Q else oE d 216 7 [l0, l1, l2, l3] S σ Q := oIfNe f_216_4 (by decide)
theorem f_216_7 : oFet 216 7 = some (.iconst (-1), 1) := by decide +kernel
theorem s_216_7 {d : Nat} {l0 l1 l2 l3 : oV} {S : List oV} {σ : oSg} {Q : Option oV → (Nat → oC) → Prop} : oE d 216 7 [l0, l1, l2, l3] S σ Q = oE d 216 8 [l0, l1, l2, l3] (.inl (-1) :: S) σ Q := pKst f_216_7 (by decide)
theorem f_216_8 : oFet 216 8 = some (.ireturn, 1) := by decide +kernel
theorem s_216_8 {d : Nat} {l0 l1 l2 l3 : oV} {x : Int} {σ : oSg} {Q : Option oV → (Nat → oC) → Prop} : oE d 216 8 [l0, l1, l2, l3] [.inl x] σ Q = Q (some (.inl x)) (oBld σ) := oIret f_216_8 rt_216
theorem f_216_9 : oFet 216 9 = some (.aload_n 0, 1) := by decide +kernel
theorem s_216_9 {d : Nat} {l1 l2 l3 : oV} {a : Nat} {S : List oV} {σ : oSg} {Q : Option oV → (Nat → oC) → Prop} : oE d 216 9 [.inr (.inr (.inl a)), l1, l2, l3] S σ Q = oE d 216 10 [.inr (.inr (.inl a)), l1, l2, l3] (.inr (.inr (.inl a)) :: S) σ Q := pLdN (k := 0) f_216_9 rfl rfl rfl
theorem f_216_10 : oFet 216 10 = some (.getfield 42, 3) := by decide +kernel
theorem s_216_10 {d : Nat} {l0 l1 l2 l3 : oV} {a : Nat} {S : List oV} {σ : oSg} {Q : Option oV → (Nat → oC) → Prop} (hk : oKd a = some 11) : oE d 216 10 [l0, l1, l2, l3] (.inr (.inr (.inl a)) :: S) σ Q = oE d 216 13 [l0, l1, l2, l3] (.inr (.inr (.inl (oRf a 20))) :: S) σ Q := pGfR f_216_10 ow_216 fl_11_42 rfl (by decide) hk
theorem f_216_13 : oFet 216 13 = some (.iload_n 1, 1) := by decide +kernel
theorem s_216_13 {d : Nat} {l0 l2 l3 : oV} {x : Int} {S : List oV} {σ : oSg} {Q : Option oV → (Nat → oC) → Prop} : oE d 216 13 [l0, .inl x, l2, l3] S σ Q = oE d 216 14 [l0, .inl x, l2, l3] (.inl x :: S) σ Q := pLdN (k := 1) f_216_13 rfl rfl rfl
theorem f_216_14 : oFet 216 14 = some (.iaload, 1) := by decide +kernel
theorem s_216_14 {d : Nat} {l0 l1 l2 l3 : oV} {a : Nat} {i : Int} {S : List oV} {σ : oSg} {Q : Option oV → (Nat → oC) → Prop} (hk : oAk a = some 0) (h0 : 0 ≤ i) (h1 : i < (oLn a : Int)) : oE d 216 14 [l0, l1, l2, l3] (.inl i :: .inr (.inr (.inl a)) :: S) σ Q = oE d 216 15 [l0, l1, l2, l3] (.inl (σ.2 a i.toNat) :: S) σ Q := oIal f_216_14 hk h0 h1
theorem f_216_15 : oFet 216 15 = some (.iconst (-1), 1) := by decide +kernel
theorem s_216_15 {d : Nat} {l0 l1 l2 l3 : oV} {S : List oV} {σ : oSg} {Q : Option oV → (Nat → oC) → Prop} : oE d 216 15 [l0, l1, l2, l3] S σ Q = oE d 216 16 [l0, l1, l2, l3] (.inl (-1) :: S) σ Q := pKst f_216_15 (by decide)
theorem f_216_16 : oFet 216 16 = some (.if_icmp .eq 16, 3) := by decide +kernel
theorem s_216_16 {d : Nat} {l0 l1 l2 l3 : oV} {x y : Int} {S : List oV} {σ : oSg} {Q : Option oV → (Nat → oC) → Prop} : oE d 216 16 [l0, l1, l2, l3] (.inl y :: .inl x :: S) σ Q = if x = y then oE d 216 32 [l0, l1, l2, l3] S σ Q else oE d 216 19 [l0, l1, l2, l3] S σ Q := oCmpEq f_216_16 (by decide)
theorem f_216_19 : oFet 216 19 = some (.aload_n 0, 1) := by decide +kernel
theorem s_216_19 {d : Nat} {l1 l2 l3 : oV} {a : Nat} {S : List oV} {σ : oSg} {Q : Option oV → (Nat → oC) → Prop} : oE d 216 19 [.inr (.inr (.inl a)), l1, l2, l3] S σ Q = oE d 216 20 [.inr (.inr (.inl a)), l1, l2, l3] (.inr (.inr (.inl a)) :: S) σ Q := pLdN (k := 0) f_216_19 rfl rfl rfl
theorem f_216_20 : oFet 216 20 = some (.getfield 42, 3) := by decide +kernel
theorem s_216_20 {d : Nat} {l0 l1 l2 l3 : oV} {a : Nat} {S : List oV} {σ : oSg} {Q : Option oV → (Nat → oC) → Prop} (hk : oKd a = some 11) : oE d 216 20 [l0, l1, l2, l3] (.inr (.inr (.inl a)) :: S) σ Q = oE d 216 23 [l0, l1, l2, l3] (.inr (.inr (.inl (oRf a 20))) :: S) σ Q := pGfR f_216_20 ow_216 fl_11_42 rfl (by decide) hk
theorem f_216_23 : oFet 216 23 = some (.iload_n 1, 1) := by decide +kernel
theorem s_216_23 {d : Nat} {l0 l2 l3 : oV} {x : Int} {S : List oV} {σ : oSg} {Q : Option oV → (Nat → oC) → Prop} : oE d 216 23 [l0, .inl x, l2, l3] S σ Q = oE d 216 24 [l0, .inl x, l2, l3] (.inl x :: S) σ Q := pLdN (k := 1) f_216_23 rfl rfl rfl
theorem f_216_24 : oFet 216 24 = some (.iaload, 1) := by decide +kernel
theorem s_216_24 {d : Nat} {l0 l1 l2 l3 : oV} {a : Nat} {i : Int} {S : List oV} {σ : oSg} {Q : Option oV → (Nat → oC) → Prop} (hk : oAk a = some 0) (h0 : 0 ≤ i) (h1 : i < (oLn a : Int)) : oE d 216 24 [l0, l1, l2, l3] (.inl i :: .inr (.inr (.inl a)) :: S) σ Q = oE d 216 25 [l0, l1, l2, l3] (.inl (σ.2 a i.toNat) :: S) σ Q := oIal f_216_24 hk h0 h1
theorem f_216_25 : oFet 216 25 = some (.iconst 3, 1) := by decide +kernel
theorem s_216_25 {d : Nat} {l0 l1 l2 l3 : oV} {S : List oV} {σ : oSg} {Q : Option oV → (Nat → oC) → Prop} : oE d 216 25 [l0, l1, l2, l3] S σ Q = oE d 216 26 [l0, l1, l2, l3] (.inl (3) :: S) σ Q := pKst f_216_25 (by decide)
theorem f_216_26 : oFet 216 26 = some (.if_icmp .eq 6, 3) := by decide +kernel
theorem s_216_26 {d : Nat} {l0 l1 l2 l3 : oV} {x y : Int} {S : List oV} {σ : oSg} {Q : Option oV → (Nat → oC) → Prop} : oE d 216 26 [l0, l1, l2, l3] (.inl y :: .inl x :: S) σ Q = if x = y then oE d 216 32 [l0, l1, l2, l3] S σ Q else oE d 216 29 [l0, l1, l2, l3] S σ Q := oCmpEq f_216_26 (by decide)
theorem f_216_29 : oFet 216 29 = some (.bipush (-12), 2) := by decide +kernel
theorem s_216_29 {d : Nat} {l0 l1 l2 l3 : oV} {S : List oV} {σ : oSg} {Q : Option oV → (Nat → oC) → Prop} : oE d 216 29 [l0, l1, l2, l3] S σ Q = oE d 216 31 [l0, l1, l2, l3] (.inl (-12) :: S) σ Q := pBip f_216_29 (by decide)
theorem f_216_31 : oFet 216 31 = some (.ireturn, 1) := by decide +kernel
theorem s_216_31 {d : Nat} {l0 l1 l2 l3 : oV} {x : Int} {σ : oSg} {Q : Option oV → (Nat → oC) → Prop} : oE d 216 31 [l0, l1, l2, l3] [.inl x] σ Q = Q (some (.inl x)) (oBld σ) := oIret f_216_31 rt_216
theorem f_216_32 : oFet 216 32 = some (.iconst 0, 1) := by decide +kernel
theorem s_216_32 {d : Nat} {l0 l1 l2 l3 : oV} {S : List oV} {σ : oSg} {Q : Option oV → (Nat → oC) → Prop} : oE d 216 32 [l0, l1, l2, l3] S σ Q = oE d 216 33 [l0, l1, l2, l3] (.inl (0) :: S) σ Q := pKst f_216_32 (by decide)
theorem f_216_33 : oFet 216 33 = some (.istore_n 3, 1) := by decide +kernel
theorem s_216_33 {d : Nat} {l0 l1 l2 l3 : oV} {x : Int} {S : List oV} {σ : oSg} {Q : Option oV → (Nat → oC) → Prop} (c3 : oCat l3 = 1) (c2 : oCat l2 = 1)  : oE d 216 33 [l0, l1, l2, l3] (.inl x :: S) σ Q = oE d 216 34 [l0, l1, l2, .inl x] S σ Q := pSt (i := 3) f_216_33 rfl rfl (show (3 : Nat) < 4 by decide) (oC1n c2) (oC1n c3) rfl
theorem f_216_34 : oFet 216 34 = some (.iload_n 3, 1) := by decide +kernel
theorem s_216_34 {d : Nat} {l0 l1 l2 : oV} {x : Int} {S : List oV} {σ : oSg} {Q : Option oV → (Nat → oC) → Prop} : oE d 216 34 [l0, l1, l2, .inl x] S σ Q = oE d 216 35 [l0, l1, l2, .inl x] (.inl x :: S) σ Q := pLdN (k := 3) f_216_34 rfl rfl rfl
theorem f_216_35 : oFet 216 35 = some (.aload_n 0, 1) := by decide +kernel
theorem s_216_35 {d : Nat} {l1 l2 l3 : oV} {a : Nat} {S : List oV} {σ : oSg} {Q : Option oV → (Nat → oC) → Prop} : oE d 216 35 [.inr (.inr (.inl a)), l1, l2, l3] S σ Q = oE d 216 36 [.inr (.inr (.inl a)), l1, l2, l3] (.inr (.inr (.inl a)) :: S) σ Q := pLdN (k := 0) f_216_35 rfl rfl rfl
theorem f_216_36 : oFet 216 36 = some (.getfield 11, 3) := by decide +kernel
theorem s_216_36 {d : Nat} {l0 l1 l2 l3 : oV} {a : Nat} {S : List oV} {σ : oSg} {Q : Option oV → (Nat → oC) → Prop} (hk : oKd a = some 11) : oE d 216 36 [l0, l1, l2, l3] (.inr (.inr (.inl a)) :: S) σ Q = oE d 216 39 [l0, l1, l2, l3] (.inr (.inr (.inl (oRf a 0))) :: S) σ Q := pGfR f_216_36 ow_216 fl_11_11 rfl (by decide) hk
theorem f_216_39 : oFet 216 39 = some (.iconst 0, 1) := by decide +kernel
theorem s_216_39 {d : Nat} {l0 l1 l2 l3 : oV} {S : List oV} {σ : oSg} {Q : Option oV → (Nat → oC) → Prop} : oE d 216 39 [l0, l1, l2, l3] S σ Q = oE d 216 40 [l0, l1, l2, l3] (.inl (0) :: S) σ Q := pKst f_216_39 (by decide)
theorem f_216_40 : oFet 216 40 = some (.iaload, 1) := by decide +kernel
theorem s_216_40 {d : Nat} {l0 l1 l2 l3 : oV} {a : Nat} {i : Int} {S : List oV} {σ : oSg} {Q : Option oV → (Nat → oC) → Prop} (hk : oAk a = some 0) (h0 : 0 ≤ i) (h1 : i < (oLn a : Int)) : oE d 216 40 [l0, l1, l2, l3] (.inl i :: .inr (.inr (.inl a)) :: S) σ Q = oE d 216 41 [l0, l1, l2, l3] (.inl (σ.2 a i.toNat) :: S) σ Q := oIal f_216_40 hk h0 h1
theorem f_216_41 : oFet 216 41 = some (.if_icmp .ge 62, 3) := by decide +kernel
theorem s_216_41 {d : Nat} {l0 l1 l2 l3 : oV} {x y : Int} {S : List oV} {σ : oSg} {Q : Option oV → (Nat → oC) → Prop} : oE d 216 41 [l0, l1, l2, l3] (.inl y :: .inl x :: S) σ Q = if y ≤ x then oE d 216 103 [l0, l1, l2, l3] S σ Q else oE d 216 44 [l0, l1, l2, l3] S σ Q := oCmpGe f_216_41 (by decide)
theorem f_216_44 : oFet 216 44 = some (.aload_n 0, 1) := by decide +kernel
theorem s_216_44 {d : Nat} {l1 l2 l3 : oV} {a : Nat} {S : List oV} {σ : oSg} {Q : Option oV → (Nat → oC) → Prop} : oE d 216 44 [.inr (.inr (.inl a)), l1, l2, l3] S σ Q = oE d 216 45 [.inr (.inr (.inl a)), l1, l2, l3] (.inr (.inr (.inl a)) :: S) σ Q := pLdN (k := 0) f_216_44 rfl rfl rfl
theorem f_216_45 : oFet 216 45 = some (.getfield 42, 3) := by decide +kernel
theorem s_216_45 {d : Nat} {l0 l1 l2 l3 : oV} {a : Nat} {S : List oV} {σ : oSg} {Q : Option oV → (Nat → oC) → Prop} (hk : oKd a = some 11) : oE d 216 45 [l0, l1, l2, l3] (.inr (.inr (.inl a)) :: S) σ Q = oE d 216 48 [l0, l1, l2, l3] (.inr (.inr (.inl (oRf a 20))) :: S) σ Q := pGfR f_216_45 ow_216 fl_11_42 rfl (by decide) hk
theorem f_216_48 : oFet 216 48 = some (.iload_n 1, 1) := by decide +kernel
theorem s_216_48 {d : Nat} {l0 l2 l3 : oV} {x : Int} {S : List oV} {σ : oSg} {Q : Option oV → (Nat → oC) → Prop} : oE d 216 48 [l0, .inl x, l2, l3] S σ Q = oE d 216 49 [l0, .inl x, l2, l3] (.inl x :: S) σ Q := pLdN (k := 1) f_216_48 rfl rfl rfl
theorem f_216_49 : oFet 216 49 = some (.iaload, 1) := by decide +kernel
theorem s_216_49 {d : Nat} {l0 l1 l2 l3 : oV} {a : Nat} {i : Int} {S : List oV} {σ : oSg} {Q : Option oV → (Nat → oC) → Prop} (hk : oAk a = some 0) (h0 : 0 ≤ i) (h1 : i < (oLn a : Int)) : oE d 216 49 [l0, l1, l2, l3] (.inl i :: .inr (.inr (.inl a)) :: S) σ Q = oE d 216 50 [l0, l1, l2, l3] (.inl (σ.2 a i.toNat) :: S) σ Q := oIal f_216_49 hk h0 h1
theorem f_216_50 : oFet 216 50 = some (.iconst (-1), 1) := by decide +kernel
theorem s_216_50 {d : Nat} {l0 l1 l2 l3 : oV} {S : List oV} {σ : oSg} {Q : Option oV → (Nat → oC) → Prop} : oE d 216 50 [l0, l1, l2, l3] S σ Q = oE d 216 51 [l0, l1, l2, l3] (.inl (-1) :: S) σ Q := pKst f_216_50 (by decide)
theorem f_216_51 : oFet 216 51 = some (.if_icmp .eq 19, 3) := by decide +kernel
theorem s_216_51 {d : Nat} {l0 l1 l2 l3 : oV} {x y : Int} {S : List oV} {σ : oSg} {Q : Option oV → (Nat → oC) → Prop} : oE d 216 51 [l0, l1, l2, l3] (.inl y :: .inl x :: S) σ Q = if x = y then oE d 216 70 [l0, l1, l2, l3] S σ Q else oE d 216 54 [l0, l1, l2, l3] S σ Q := oCmpEq f_216_51 (by decide)
theorem f_216_54 : oFet 216 54 = some (.iload_n 2, 1) := by decide +kernel
theorem s_216_54 {d : Nat} {l0 l1 l3 : oV} {x : Int} {S : List oV} {σ : oSg} {Q : Option oV → (Nat → oC) → Prop} : oE d 216 54 [l0, l1, .inl x, l3] S σ Q = oE d 216 55 [l0, l1, .inl x, l3] (.inl x :: S) σ Q := pLdN (k := 2) f_216_54 rfl rfl rfl
theorem f_216_55 : oFet 216 55 = some (.ifCond .lt 15, 3) := by decide +kernel
theorem s_216_55 {d : Nat} {l0 l1 l2 l3 : oV} {x : Int} {S : List oV} {σ : oSg} {Q : Option oV → (Nat → oC) → Prop} : oE d 216 55 [l0, l1, l2, l3] (.inl x :: S) σ Q = if x < 0 then oE d 216 70 [l0, l1, l2, l3] S σ Q else oE d 216 58 [l0, l1, l2, l3] S σ Q := oIfLt f_216_55 (by decide)
theorem f_216_58 : oFet 216 58 = some (.iload_n 3, 1) := by decide +kernel
theorem s_216_58 {d : Nat} {l0 l1 l2 : oV} {x : Int} {S : List oV} {σ : oSg} {Q : Option oV → (Nat → oC) → Prop} : oE d 216 58 [l0, l1, l2, .inl x] S σ Q = oE d 216 59 [l0, l1, l2, .inl x] (.inl x :: S) σ Q := pLdN (k := 3) f_216_58 rfl rfl rfl
theorem f_216_59 : oFet 216 59 = some (.aload_n 0, 1) := by decide +kernel
theorem s_216_59 {d : Nat} {l1 l2 l3 : oV} {a : Nat} {S : List oV} {σ : oSg} {Q : Option oV → (Nat → oC) → Prop} : oE d 216 59 [.inr (.inr (.inl a)), l1, l2, l3] S σ Q = oE d 216 60 [.inr (.inr (.inl a)), l1, l2, l3] (.inr (.inr (.inl a)) :: S) σ Q := pLdN (k := 0) f_216_59 rfl rfl rfl
theorem f_216_60 : oFet 216 60 = some (.getfield 45, 3) := by decide +kernel
theorem s_216_60 {d : Nat} {l0 l1 l2 l3 : oV} {a : Nat} {S : List oV} {σ : oSg} {Q : Option oV → (Nat → oC) → Prop} (hk : oKd a = some 11) : oE d 216 60 [l0, l1, l2, l3] (.inr (.inr (.inl a)) :: S) σ Q = oE d 216 63 [l0, l1, l2, l3] (.inr (.inr (.inl (oRf a 21))) :: S) σ Q := pGfR f_216_60 ow_216 fl_11_45 rfl (by decide) hk
theorem f_216_63 : oFet 216 63 = some (.iload_n 1, 1) := by decide +kernel
theorem s_216_63 {d : Nat} {l0 l2 l3 : oV} {x : Int} {S : List oV} {σ : oSg} {Q : Option oV → (Nat → oC) → Prop} : oE d 216 63 [l0, .inl x, l2, l3] S σ Q = oE d 216 64 [l0, .inl x, l2, l3] (.inl x :: S) σ Q := pLdN (k := 1) f_216_63 rfl rfl rfl
theorem f_216_64 : oFet 216 64 = some (.iaload, 1) := by decide +kernel
theorem s_216_64 {d : Nat} {l0 l1 l2 l3 : oV} {a : Nat} {i : Int} {S : List oV} {σ : oSg} {Q : Option oV → (Nat → oC) → Prop} (hk : oAk a = some 0) (h0 : 0 ≤ i) (h1 : i < (oLn a : Int)) : oE d 216 64 [l0, l1, l2, l3] (.inl i :: .inr (.inr (.inl a)) :: S) σ Q = oE d 216 65 [l0, l1, l2, l3] (.inl (σ.2 a i.toNat) :: S) σ Q := oIal f_216_64 hk h0 h1
theorem f_216_65 : oFet 216 65 = some (.iload_n 2, 1) := by decide +kernel
theorem s_216_65 {d : Nat} {l0 l1 l3 : oV} {x : Int} {S : List oV} {σ : oSg} {Q : Option oV → (Nat → oC) → Prop} : oE d 216 65 [l0, l1, .inl x, l3] S σ Q = oE d 216 66 [l0, l1, .inl x, l3] (.inl x :: S) σ Q := pLdN (k := 2) f_216_65 rfl rfl rfl
theorem f_216_66 : oFet 216 66 = some (.isub, 1) := by decide +kernel
theorem s_216_66 {d : Nat} {l0 l1 l2 l3 : oV} {x y : Int} {S : List oV} {σ : oSg} {Q : Option oV → (Nat → oC) → Prop} : oE d 216 66 [l0, l1, l2, l3] (.inl y :: .inl x :: S) σ Q = oE d 216 67 [l0, l1, l2, l3] (.inl (oSub x y) :: S) σ Q := oS3 f_216_66 rfl rfl rfl
theorem f_216_67 : oFet 216 67 = some (.if_icmp .lt 8, 3) := by decide +kernel
theorem s_216_67 {d : Nat} {l0 l1 l2 l3 : oV} {x y : Int} {S : List oV} {σ : oSg} {Q : Option oV → (Nat → oC) → Prop} : oE d 216 67 [l0, l1, l2, l3] (.inl y :: .inl x :: S) σ Q = if x < y then oE d 216 75 [l0, l1, l2, l3] S σ Q else oE d 216 70 [l0, l1, l2, l3] S σ Q := oCmpLt f_216_67 (by decide)
theorem f_216_70 : oFet 216 70 = some (.bipush 100, 2) := by decide +kernel
theorem s_216_70 {d : Nat} {l0 l1 l2 l3 : oV} {S : List oV} {σ : oSg} {Q : Option oV → (Nat → oC) → Prop} : oE d 216 70 [l0, l1, l2, l3] S σ Q = oE d 216 72 [l0, l1, l2, l3] (.inl (100) :: S) σ Q := pBip f_216_70 (by decide)
theorem f_216_72 : oFet 216 72 = some (.iload_n 3, 1) := by decide +kernel
theorem s_216_72 {d : Nat} {l0 l1 l2 : oV} {x : Int} {S : List oV} {σ : oSg} {Q : Option oV → (Nat → oC) → Prop} : oE d 216 72 [l0, l1, l2, .inl x] S σ Q = oE d 216 73 [l0, l1, l2, .inl x] (.inl x :: S) σ Q := pLdN (k := 3) f_216_72 rfl rfl rfl
theorem f_216_73 : oFet 216 73 = some (.iadd, 1) := by decide +kernel
theorem s_216_73 {d : Nat} {l0 l1 l2 l3 : oV} {x y : Int} {S : List oV} {σ : oSg} {Q : Option oV → (Nat → oC) → Prop} : oE d 216 73 [l0, l1, l2, l3] (.inl y :: .inl x :: S) σ Q = oE d 216 74 [l0, l1, l2, l3] (.inl (oAdd x y) :: S) σ Q := oS3 f_216_73 rfl rfl rfl
theorem f_216_74 : oFet 216 74 = some (.ireturn, 1) := by decide +kernel
theorem s_216_74 {d : Nat} {l0 l1 l2 l3 : oV} {x : Int} {σ : oSg} {Q : Option oV → (Nat → oC) → Prop} : oE d 216 74 [l0, l1, l2, l3] [.inl x] σ Q = Q (some (.inl x)) (oBld σ) := oIret f_216_74 rt_216
theorem f_216_75 : oFet 216 75 = some (.aload_n 0, 1) := by decide +kernel
theorem s_216_75 {d : Nat} {l1 l2 l3 : oV} {a : Nat} {S : List oV} {σ : oSg} {Q : Option oV → (Nat → oC) → Prop} : oE d 216 75 [.inr (.inr (.inl a)), l1, l2, l3] S σ Q = oE d 216 76 [.inr (.inr (.inl a)), l1, l2, l3] (.inr (.inr (.inl a)) :: S) σ Q := pLdN (k := 0) f_216_75 rfl rfl rfl
theorem f_216_76 : oFet 216 76 = some (.getfield 50, 3) := by decide +kernel
theorem s_216_76 {d : Nat} {l0 l1 l2 l3 : oV} {a : Nat} {S : List oV} {σ : oSg} {Q : Option oV → (Nat → oC) → Prop} (hk : oKd a = some 11) : oE d 216 76 [l0, l1, l2, l3] (.inr (.inr (.inl a)) :: S) σ Q = oE d 216 79 [l0, l1, l2, l3] (.inr (.inr (.inl (oRf a 22))) :: S) σ Q := pGfR f_216_76 ow_216 fl_11_50 rfl (by decide) hk
theorem f_216_79 : oFet 216 79 = some (.iload_n 1, 1) := by decide +kernel
theorem s_216_79 {d : Nat} {l0 l2 l3 : oV} {x : Int} {S : List oV} {σ : oSg} {Q : Option oV → (Nat → oC) → Prop} : oE d 216 79 [l0, .inl x, l2, l3] S σ Q = oE d 216 80 [l0, .inl x, l2, l3] (.inl x :: S) σ Q := pLdN (k := 1) f_216_79 rfl rfl rfl
theorem f_216_80 : oFet 216 80 = some (.aaload, 1) := by decide +kernel
theorem s_216_80 {d : Nat} {l0 l1 l2 l3 : oV} {a : Nat} {i : Int} {S : List oV} {σ : oSg} {Q : Option oV → (Nat → oC) → Prop} (hk : oAk a = some 4) (h0 : 0 ≤ i) (h1 : i < (oLn a : Int)) : oE d 216 80 [l0, l1, l2, l3] (.inl i :: .inr (.inr (.inl a)) :: S) σ Q = oE d 216 81 [l0, l1, l2, l3] (.inr (.inr (.inl (oRe a i.toNat))) :: S) σ Q := oAal f_216_80 hk (by decide) h0 h1
theorem f_216_81 : oFet 216 81 = some (.iload_n 2, 1) := by decide +kernel
theorem s_216_81 {d : Nat} {l0 l1 l3 : oV} {x : Int} {S : List oV} {σ : oSg} {Q : Option oV → (Nat → oC) → Prop} : oE d 216 81 [l0, l1, .inl x, l3] S σ Q = oE d 216 82 [l0, l1, .inl x, l3] (.inl x :: S) σ Q := pLdN (k := 2) f_216_81 rfl rfl rfl
theorem f_216_82 : oFet 216 82 = some (.iload_n 3, 1) := by decide +kernel
theorem s_216_82 {d : Nat} {l0 l1 l2 : oV} {x : Int} {S : List oV} {σ : oSg} {Q : Option oV → (Nat → oC) → Prop} : oE d 216 82 [l0, l1, l2, .inl x] S σ Q = oE d 216 83 [l0, l1, l2, .inl x] (.inl x :: S) σ Q := pLdN (k := 3) f_216_82 rfl rfl rfl
theorem f_216_83 : oFet 216 83 = some (.iadd, 1) := by decide +kernel
theorem s_216_83 {d : Nat} {l0 l1 l2 l3 : oV} {x y : Int} {S : List oV} {σ : oSg} {Q : Option oV → (Nat → oC) → Prop} : oE d 216 83 [l0, l1, l2, l3] (.inl y :: .inl x :: S) σ Q = oE d 216 84 [l0, l1, l2, l3] (.inl (oAdd x y) :: S) σ Q := oS3 f_216_83 rfl rfl rfl
theorem f_216_84 : oFet 216 84 = some (.laload, 1) := by decide +kernel
theorem s_216_84 {d : Nat} {l0 l1 l2 l3 : oV} {a : Nat} {i : Int} {S : List oV} {σ : oSg} {Q : Option oV → (Nat → oC) → Prop} (hk : oAk a = some 1) (h0 : 0 ≤ i) (h1 : i < (oLn a : Int)) : oE d 216 84 [l0, l1, l2, l3] (.inl i :: .inr (.inr (.inl a)) :: S) σ Q = oE d 216 85 [l0, l1, l2, l3] (.inr (.inl (σ.2 a i.toNat)) :: S) σ Q := oLal f_216_84 hk h0 h1
theorem f_216_85 : oFet 216 85 = some (.aload_n 0, 1) := by decide +kernel
theorem s_216_85 {d : Nat} {l1 l2 l3 : oV} {a : Nat} {S : List oV} {σ : oSg} {Q : Option oV → (Nat → oC) → Prop} : oE d 216 85 [.inr (.inr (.inl a)), l1, l2, l3] S σ Q = oE d 216 86 [.inr (.inr (.inl a)), l1, l2, l3] (.inr (.inr (.inl a)) :: S) σ Q := pLdN (k := 0) f_216_85 rfl rfl rfl
theorem f_216_86 : oFet 216 86 = some (.iload_n 3, 1) := by decide +kernel
theorem s_216_86 {d : Nat} {l0 l1 l2 : oV} {x : Int} {S : List oV} {σ : oSg} {Q : Option oV → (Nat → oC) → Prop} : oE d 216 86 [l0, l1, l2, .inl x] S σ Q = oE d 216 87 [l0, l1, l2, .inl x] (.inl x :: S) σ Q := pLdN (k := 3) f_216_86 rfl rfl rfl
theorem f_216_87 : oFet 216 87 = some (.invokevirtual 75, 3) := by decide +kernel
theorem c_216_87 {d : Nat} {l0 l1 l2 l3 : oV} {x0 : oV} {a : Nat} {v : Option oV} {τ : oSg} {S : List oV} {σ : oSg} {Q : Option oV → (Nat → oC) → Prop} (hm : oMi d 149 [.inr (.inr (.inl a)), x0] σ v τ) (hk : oKd a = some 11) (hs : oSmall S = true) : oE d 216 87 [l0, l1, l2, l3] (x0 :: .inr (.inr (.inl a)) :: S) σ Q = oE d 216 90 [l0, l1, l2, l3] (v.toList ++ S) τ Q := pCallV f_216_87 ow_216 lk_11_75 mt_149 rfl rfl rfl hk hs hm
theorem f_216_90 : oFet 216 90 = some (.i2l, 1) := by decide +kernel
theorem s_216_90 {d : Nat} {l0 l1 l2 l3 : oV} {x : Int} {S : List oV} {σ : oSg} {Q : Option oV → (Nat → oC) → Prop} : oE d 216 90 [l0, l1, l2, l3] (.inl x :: S) σ Q = oE d 216 91 [l0, l1, l2, l3] (.inr (.inl x) :: S) σ Q := oS4 f_216_90 rfl rfl rfl rfl
theorem f_216_91 : oFet 216 91 = some (.lcmp, 1) := by decide +kernel
theorem s_216_91 {d : Nat} {l0 l1 l2 l3 : oV} {x y : Int} {S : List oV} {σ : oSg} {Q : Option oV → (Nat → oC) → Prop} : oE d 216 91 [l0, l1, l2, l3] (.inr (.inl y) :: .inr (.inl x) :: S) σ Q = oE d 216 92 [l0, l1, l2, l3] (.inl (oLcmp x y) :: S) σ Q := oS4 f_216_91 rfl rfl rfl rfl
theorem f_216_92 : oFet 216 92 = some (.ifCond .eq 5, 3) := by decide +kernel
theorem s_216_92 {d : Nat} {l0 l1 l2 l3 : oV} {x : Int} {S : List oV} {σ : oSg} {Q : Option oV → (Nat → oC) → Prop} : oE d 216 92 [l0, l1, l2, l3] (.inl x :: S) σ Q = if x = 0 then oE d 216 97 [l0, l1, l2, l3] S σ Q else oE d 216 95 [l0, l1, l2, l3] S σ Q := oIfEq f_216_92 (by decide)
theorem f_216_95 : oFet 216 95 = some (.iload_n 3, 1) := by decide +kernel
theorem s_216_95 {d : Nat} {l0 l1 l2 : oV} {x : Int} {S : List oV} {σ : oSg} {Q : Option oV → (Nat → oC) → Prop} : oE d 216 95 [l0, l1, l2, .inl x] S σ Q = oE d 216 96 [l0, l1, l2, .inl x] (.inl x :: S) σ Q := pLdN (k := 3) f_216_95 rfl rfl rfl
theorem f_216_96 : oFet 216 96 = some (.ireturn, 1) := by decide +kernel
theorem s_216_96 {d : Nat} {l0 l1 l2 l3 : oV} {x : Int} {σ : oSg} {Q : Option oV → (Nat → oC) → Prop} : oE d 216 96 [l0, l1, l2, l3] [.inl x] σ Q = Q (some (.inl x)) (oBld σ) := oIret f_216_96 rt_216
theorem f_216_97 : oFet 216 97 = some (.iinc 3 1, 3) := by decide +kernel
theorem s_216_97 {d : Nat} {l0 l1 l2 : oV} {x : Int} {S : List oV} {σ : oSg} {Q : Option oV → (Nat → oC) → Prop} (c2 : oCat l2 = 1)  : oE d 216 97 [l0, l1, l2, .inl x] S σ Q = oE d 216 100 [l0, l1, l2, .inl (oAdd x (1))] S σ Q := pInc f_216_97 rfl (show (3 : Nat) < 4 by decide) (oC1n c2) (oC1n (v := .inl x) rfl) rfl
theorem f_216_100 : oFet 216 100 = some (.goto (-66), 3) := by decide +kernel
theorem s_216_100 {d : Nat} {l0 l1 l2 l3 : oV} {S : List oV} {σ : oSg} {Q : Option oV → (Nat → oC) → Prop} : oE d 216 100 [l0, l1, l2, l3] S σ Q = oE d 216 34 [l0, l1, l2, l3] S σ Q := pGoto f_216_100 (by decide)
theorem f_216_103 : oFet 216 103 = some (.bipush (-5), 2) := by decide +kernel
theorem s_216_103 {d : Nat} {l0 l1 l2 l3 : oV} {S : List oV} {σ : oSg} {Q : Option oV → (Nat → oC) → Prop} : oE d 216 103 [l0, l1, l2, l3] S σ Q = oE d 216 105 [l0, l1, l2, l3] (.inl (-5) :: S) σ Q := pBip f_216_103 (by decide)
theorem f_216_105 : oFet 216 105 = some (.ireturn, 1) := by decide +kernel
theorem s_216_105 {d : Nat} {l0 l1 l2 l3 : oV} {x : Int} {σ : oSg} {Q : Option oV → (Nat → oC) → Prop} : oE d 216 105 [l0, l1, l2, l3] [.inl x] σ Q = Q (some (.inl x)) (oBld σ) := oIret f_216_105 rt_216
theorem ow_217 : (oMt 217).2.2.2.2.1 = 11 := by decide +kernel
theorem rt_217 : (oMt 217).2.2.2.1 = some .boolean := by decide +kernel
theorem nl_217 : (oMt 217).2.2.1 = 1 := by decide +kernel
theorem f_217_0 : oFet 217 0 = some (.iload_n 0, 1) := by decide +kernel
theorem s_217_0 {d : Nat} {x : Int} {S : List oV} {σ : oSg} {Q : Option oV → (Nat → oC) → Prop} : oE d 217 0 [.inl x] S σ Q = oE d 217 1 [.inl x] (.inl x :: S) σ Q := pLdN (k := 0) f_217_0 rfl rfl rfl
theorem f_217_1 : oFet 217 1 = some (.iconst 0, 1) := by decide +kernel
theorem s_217_1 {d : Nat} {l0 : oV} {S : List oV} {σ : oSg} {Q : Option oV → (Nat → oC) → Prop} : oE d 217 1 [l0] S σ Q = oE d 217 2 [l0] (.inl (0) :: S) σ Q := pKst f_217_1 (by decide)
theorem f_217_2 : oFet 217 2 = some (.iconst 5, 1) := by decide +kernel
theorem s_217_2 {d : Nat} {l0 : oV} {S : List oV} {σ : oSg} {Q : Option oV → (Nat → oC) → Prop} : oE d 217 2 [l0] S σ Q = oE d 217 3 [l0] (.inl (5) :: S) σ Q := pKst f_217_2 (by decide)
theorem f_217_3 : oFet 217 3 = some (.invokestatic 57, 3) := by decide +kernel
theorem c_217_3 {d : Nat} {l0 : oV} {x0 x1 x2 : oV} {v : Option oV} {τ : oSg} {S : List oV} {σ : oSg} {Q : Option oV → (Nat → oC) → Prop} (hm : oMi d 146 [x0, x1, x2] σ v τ) (hs : oSmall S = true) : oE d 217 3 [l0] (x2 :: x1 :: x0 :: S) σ Q = oE d 217 6 [l0] (v.toList ++ S) τ Q := pCallS f_217_3 ow_217 lk_11_57 mt_146 rfl rfl rfl hs hm
theorem f_217_6 : oFet 217 6 = some (.ireturn, 1) := by decide +kernel
theorem s_217_6 {d : Nat} {l0 : oV} {x : Int} {σ : oSg} {Q : Option oV → (Nat → oC) → Prop} (hx : x = 0 ∨ x = 1) : oE d 217 6 [l0] [.inl x] σ Q = Q (some (.inl x)) (oBld σ) := oZret f_217_6 rt_217 hx
theorem ow_218 : (oMt 218).2.2.2.2.1 = 11 := by decide +kernel
theorem rt_218 : (oMt 218).2.2.2.1 = some .int := by decide +kernel
theorem nl_218 : (oMt 218).2.2.1 = 1 := by decide +kernel
theorem f_218_0 : oFet 218 0 = some (.aload_n 0, 1) := by decide +kernel
theorem s_218_0 {d : Nat} {a : Nat} {S : List oV} {σ : oSg} {Q : Option oV → (Nat → oC) → Prop} : oE d 218 0 [.inr (.inr (.inl a))] S σ Q = oE d 218 1 [.inr (.inr (.inl a))] (.inr (.inr (.inl a)) :: S) σ Q := pLdN (k := 0) f_218_0 rfl rfl rfl
theorem f_218_1 : oFet 218 1 = some (.getfield 11, 3) := by decide +kernel
theorem s_218_1 {d : Nat} {l0 : oV} {a : Nat} {S : List oV} {σ : oSg} {Q : Option oV → (Nat → oC) → Prop} (hk : oKd a = some 11) : oE d 218 1 [l0] (.inr (.inr (.inl a)) :: S) σ Q = oE d 218 4 [l0] (.inr (.inr (.inl (oRf a 0))) :: S) σ Q := pGfR f_218_1 ow_218 fl_11_11 rfl (by decide) hk
theorem f_218_4 : oFet 218 4 = some (.iconst 0, 1) := by decide +kernel
theorem s_218_4 {d : Nat} {l0 : oV} {S : List oV} {σ : oSg} {Q : Option oV → (Nat → oC) → Prop} : oE d 218 4 [l0] S σ Q = oE d 218 5 [l0] (.inl (0) :: S) σ Q := pKst f_218_4 (by decide)
theorem f_218_5 : oFet 218 5 = some (.aload_n 0, 1) := by decide +kernel
theorem s_218_5 {d : Nat} {a : Nat} {S : List oV} {σ : oSg} {Q : Option oV → (Nat → oC) → Prop} : oE d 218 5 [.inr (.inr (.inl a))] S σ Q = oE d 218 6 [.inr (.inr (.inl a))] (.inr (.inr (.inl a)) :: S) σ Q := pLdN (k := 0) f_218_5 rfl rfl rfl
theorem f_218_6 : oFet 218 6 = some (.getfield 15, 3) := by decide +kernel
theorem s_218_6 {d : Nat} {l0 : oV} {a : Nat} {S : List oV} {σ : oSg} {Q : Option oV → (Nat → oC) → Prop} (hk : oKd a = some 11) : oE d 218 6 [l0] (.inr (.inr (.inl a)) :: S) σ Q = oE d 218 9 [l0] (.inr (.inr (.inl (oRf a 1))) :: S) σ Q := pGfR f_218_6 ow_218 fl_11_15 rfl (by decide) hk
theorem f_218_9 : oFet 218 9 = some (.iconst 0, 1) := by decide +kernel
theorem s_218_9 {d : Nat} {l0 : oV} {S : List oV} {σ : oSg} {Q : Option oV → (Nat → oC) → Prop} : oE d 218 9 [l0] S σ Q = oE d 218 10 [l0] (.inl (0) :: S) σ Q := pKst f_218_9 (by decide)
theorem f_218_10 : oFet 218 10 = some (.bipush 116, 2) := by decide +kernel
theorem s_218_10 {d : Nat} {l0 : oV} {S : List oV} {σ : oSg} {Q : Option oV → (Nat → oC) → Prop} : oE d 218 10 [l0] S σ Q = oE d 218 12 [l0] (.inl (116) :: S) σ Q := pBip f_218_10 (by decide)
theorem f_218_12 : oFet 218 12 = some (.invokestatic 69, 3) := by decide +kernel
theorem s_218_12 {d : Nat} {l0 : oV} {a b : Nat} {sp dp n : Int} {S : List oV} {σ : oSg} {Q : Option oV → (Nat → oC) → Prop} (ha : oAk a = some 0) (hb : oAk b = some 0) (hs : oSmall S = true) (g1 : 0 ≤ sp) (g2 : 0 ≤ dp) (g3 : 0 ≤ n) (g4 : sp + n ≤ (oLn a : Int)) (g5 : dp + n ≤ (oLn b : Int)) : oE d 218 12 [l0] (.inl n :: .inl dp :: .inr (.inr (.inl b)) :: .inl sp :: .inr (.inr (.inl a)) :: S) σ Q = oE d 218 15 [l0] S (oCp σ a sp b dp n) Q := pCpy f_218_12 ow_218 lk_11_69 ha hb (by decide) hs g1 g2 g3 g4 g5
theorem f_218_15 : oFet 218 15 = some (.aload_n 0, 1) := by decide +kernel
theorem s_218_15 {d : Nat} {a : Nat} {S : List oV} {σ : oSg} {Q : Option oV → (Nat → oC) → Prop} : oE d 218 15 [.inr (.inr (.inl a))] S σ Q = oE d 218 16 [.inr (.inr (.inl a))] (.inr (.inr (.inl a)) :: S) σ Q := pLdN (k := 0) f_218_15 rfl rfl rfl
theorem f_218_16 : oFet 218 16 = some (.iconst 1, 1) := by decide +kernel
theorem s_218_16 {d : Nat} {l0 : oV} {S : List oV} {σ : oSg} {Q : Option oV → (Nat → oC) → Prop} : oE d 218 16 [l0] S σ Q = oE d 218 17 [l0] (.inl (1) :: S) σ Q := pKst f_218_16 (by decide)
theorem f_218_17 : oFet 218 17 = some (.putfield 266, 3) := by decide +kernel
theorem s_218_17 {d : Nat} {l0 : oV} {a : Nat} {S : List oV} {σ : oSg} {Q : Option oV → (Nat → oC) → Prop} (hk : oKd a = some 11) : oE d 218 17 [l0] (.inl 1 :: .inr (.inr (.inl a)) :: S) σ Q = oE d 218 20 [l0] S (oSF σ a 3 1) Q := pPfI f_218_17 ow_218 fl_11_266 rfl (by decide) rfl (by decide +kernel) hk
theorem f_218_20 : oFet 218 20 = some (.aload_n 0, 1) := by decide +kernel
theorem s_218_20 {d : Nat} {a : Nat} {S : List oV} {σ : oSg} {Q : Option oV → (Nat → oC) → Prop} : oE d 218 20 [.inr (.inr (.inl a))] S σ Q = oE d 218 21 [.inr (.inr (.inl a))] (.inr (.inr (.inl a)) :: S) σ Q := pLdN (k := 0) f_218_20 rfl rfl rfl
theorem f_218_21 : oFet 218 21 = some (.getfield 11, 3) := by decide +kernel
theorem s_218_21 {d : Nat} {l0 : oV} {a : Nat} {S : List oV} {σ : oSg} {Q : Option oV → (Nat → oC) → Prop} (hk : oKd a = some 11) : oE d 218 21 [l0] (.inr (.inr (.inl a)) :: S) σ Q = oE d 218 24 [l0] (.inr (.inr (.inl (oRf a 0))) :: S) σ Q := pGfR f_218_21 ow_218 fl_11_11 rfl (by decide) hk
theorem f_218_24 : oFet 218 24 = some (.iconst 0, 1) := by decide +kernel
theorem s_218_24 {d : Nat} {l0 : oV} {S : List oV} {σ : oSg} {Q : Option oV → (Nat → oC) → Prop} : oE d 218 24 [l0] S σ Q = oE d 218 25 [l0] (.inl (0) :: S) σ Q := pKst f_218_24 (by decide)
theorem f_218_25 : oFet 218 25 = some (.iaload, 1) := by decide +kernel
theorem s_218_25 {d : Nat} {l0 : oV} {a : Nat} {i : Int} {S : List oV} {σ : oSg} {Q : Option oV → (Nat → oC) → Prop} (hk : oAk a = some 0) (h0 : 0 ≤ i) (h1 : i < (oLn a : Int)) : oE d 218 25 [l0] (.inl i :: .inr (.inr (.inl a)) :: S) σ Q = oE d 218 26 [l0] (.inl (σ.2 a i.toNat) :: S) σ Q := oIal f_218_25 hk h0 h1
theorem f_218_26 : oFet 218 26 = some (.ireturn, 1) := by decide +kernel
theorem s_218_26 {d : Nat} {l0 : oV} {x : Int} {σ : oSg} {Q : Option oV → (Nat → oC) → Prop} : oE d 218 26 [l0] [.inl x] σ Q = Q (some (.inl x)) (oBld σ) := oIret f_218_26 rt_218
theorem ow_219 : (oMt 219).2.2.2.2.1 = 11 := by decide +kernel
theorem rt_219 : (oMt 219).2.2.2.1 = some .int := by decide +kernel
theorem nl_219 : (oMt 219).2.2.1 = 1 := by decide +kernel
theorem f_219_0 : oFet 219 0 = some (.aload_n 0, 1) := by decide +kernel
theorem s_219_0 {d : Nat} {a : Nat} {S : List oV} {σ : oSg} {Q : Option oV → (Nat → oC) → Prop} : oE d 219 0 [.inr (.inr (.inl a))] S σ Q = oE d 219 1 [.inr (.inr (.inl a))] (.inr (.inr (.inl a)) :: S) σ Q := pLdN (k := 0) f_219_0 rfl rfl rfl
theorem f_219_1 : oFet 219 1 = some (.getfield 266, 3) := by decide +kernel
theorem s_219_1 {d : Nat} {l0 : oV} {a : Nat} {S : List oV} {σ : oSg} {Q : Option oV → (Nat → oC) → Prop} (hk : oKd a = some 11) : oE d 219 1 [l0] (.inr (.inr (.inl a)) :: S) σ Q = oE d 219 4 [l0] (.inl (σ.1 a 3) :: S) σ Q := pGfI f_219_1 ow_219 fl_11_266 rfl (by decide) hk
theorem f_219_4 : oFet 219 4 = some (.ifCond .ne 6, 3) := by decide +kernel
theorem s_219_4 {d : Nat} {l0 : oV} {x : Int} {S : List oV} {σ : oSg} {Q : Option oV → (Nat → oC) → Prop} : oE d 219 4 [l0] (.inl x :: S) σ Q = if ¬ x = 0 then oE d 219 10 [l0] S σ Q else oE d 219 7 [l0] S σ Q := oIfNe f_219_4 (by decide)
theorem f_219_7 : oFet 219 7 = some (.bipush (-3), 2) := by decide +kernel
theorem s_219_7 {d : Nat} {l0 : oV} {S : List oV} {σ : oSg} {Q : Option oV → (Nat → oC) → Prop} : oE d 219 7 [l0] S σ Q = oE d 219 9 [l0] (.inl (-3) :: S) σ Q := pBip f_219_7 (by decide)
theorem f_219_9 : oFet 219 9 = some (.ireturn, 1) := by decide +kernel
theorem s_219_9 {d : Nat} {l0 : oV} {x : Int} {σ : oSg} {Q : Option oV → (Nat → oC) → Prop} : oE d 219 9 [l0] [.inl x] σ Q = Q (some (.inl x)) (oBld σ) := oIret f_219_9 rt_219
theorem f_219_10 : oFet 219 10 = some (.aload_n 0, 1) := by decide +kernel
theorem s_219_10 {d : Nat} {a : Nat} {S : List oV} {σ : oSg} {Q : Option oV → (Nat → oC) → Prop} : oE d 219 10 [.inr (.inr (.inl a))] S σ Q = oE d 219 11 [.inr (.inr (.inl a))] (.inr (.inr (.inl a)) :: S) σ Q := pLdN (k := 0) f_219_10 rfl rfl rfl
theorem f_219_11 : oFet 219 11 = some (.getfield 15, 3) := by decide +kernel
theorem s_219_11 {d : Nat} {l0 : oV} {a : Nat} {S : List oV} {σ : oSg} {Q : Option oV → (Nat → oC) → Prop} (hk : oKd a = some 11) : oE d 219 11 [l0] (.inr (.inr (.inl a)) :: S) σ Q = oE d 219 14 [l0] (.inr (.inr (.inl (oRf a 1))) :: S) σ Q := pGfR f_219_11 ow_219 fl_11_15 rfl (by decide) hk
theorem f_219_14 : oFet 219 14 = some (.iconst 0, 1) := by decide +kernel
theorem s_219_14 {d : Nat} {l0 : oV} {S : List oV} {σ : oSg} {Q : Option oV → (Nat → oC) → Prop} : oE d 219 14 [l0] S σ Q = oE d 219 15 [l0] (.inl (0) :: S) σ Q := pKst f_219_14 (by decide)
theorem f_219_15 : oFet 219 15 = some (.aload_n 0, 1) := by decide +kernel
theorem s_219_15 {d : Nat} {a : Nat} {S : List oV} {σ : oSg} {Q : Option oV → (Nat → oC) → Prop} : oE d 219 15 [.inr (.inr (.inl a))] S σ Q = oE d 219 16 [.inr (.inr (.inl a))] (.inr (.inr (.inl a)) :: S) σ Q := pLdN (k := 0) f_219_15 rfl rfl rfl
theorem f_219_16 : oFet 219 16 = some (.getfield 11, 3) := by decide +kernel
theorem s_219_16 {d : Nat} {l0 : oV} {a : Nat} {S : List oV} {σ : oSg} {Q : Option oV → (Nat → oC) → Prop} (hk : oKd a = some 11) : oE d 219 16 [l0] (.inr (.inr (.inl a)) :: S) σ Q = oE d 219 19 [l0] (.inr (.inr (.inl (oRf a 0))) :: S) σ Q := pGfR f_219_16 ow_219 fl_11_11 rfl (by decide) hk
theorem f_219_19 : oFet 219 19 = some (.iconst 0, 1) := by decide +kernel
theorem s_219_19 {d : Nat} {l0 : oV} {S : List oV} {σ : oSg} {Q : Option oV → (Nat → oC) → Prop} : oE d 219 19 [l0] S σ Q = oE d 219 20 [l0] (.inl (0) :: S) σ Q := pKst f_219_19 (by decide)
theorem f_219_20 : oFet 219 20 = some (.bipush 116, 2) := by decide +kernel
theorem s_219_20 {d : Nat} {l0 : oV} {S : List oV} {σ : oSg} {Q : Option oV → (Nat → oC) → Prop} : oE d 219 20 [l0] S σ Q = oE d 219 22 [l0] (.inl (116) :: S) σ Q := pBip f_219_20 (by decide)
theorem f_219_22 : oFet 219 22 = some (.invokestatic 69, 3) := by decide +kernel
theorem s_219_22 {d : Nat} {l0 : oV} {a b : Nat} {sp dp n : Int} {S : List oV} {σ : oSg} {Q : Option oV → (Nat → oC) → Prop} (ha : oAk a = some 0) (hb : oAk b = some 0) (hs : oSmall S = true) (g1 : 0 ≤ sp) (g2 : 0 ≤ dp) (g3 : 0 ≤ n) (g4 : sp + n ≤ (oLn a : Int)) (g5 : dp + n ≤ (oLn b : Int)) : oE d 219 22 [l0] (.inl n :: .inl dp :: .inr (.inr (.inl b)) :: .inl sp :: .inr (.inr (.inl a)) :: S) σ Q = oE d 219 25 [l0] S (oCp σ a sp b dp n) Q := pCpy f_219_22 ow_219 lk_11_69 ha hb (by decide) hs g1 g2 g3 g4 g5
theorem f_219_25 : oFet 219 25 = some (.aload_n 0, 1) := by decide +kernel
theorem s_219_25 {d : Nat} {a : Nat} {S : List oV} {σ : oSg} {Q : Option oV → (Nat → oC) → Prop} : oE d 219 25 [.inr (.inr (.inl a))] S σ Q = oE d 219 26 [.inr (.inr (.inl a))] (.inr (.inr (.inl a)) :: S) σ Q := pLdN (k := 0) f_219_25 rfl rfl rfl
theorem f_219_26 : oFet 219 26 = some (.getfield 11, 3) := by decide +kernel
theorem s_219_26 {d : Nat} {l0 : oV} {a : Nat} {S : List oV} {σ : oSg} {Q : Option oV → (Nat → oC) → Prop} (hk : oKd a = some 11) : oE d 219 26 [l0] (.inr (.inr (.inl a)) :: S) σ Q = oE d 219 29 [l0] (.inr (.inr (.inl (oRf a 0))) :: S) σ Q := pGfR f_219_26 ow_219 fl_11_11 rfl (by decide) hk
theorem f_219_29 : oFet 219 29 = some (.iconst 0, 1) := by decide +kernel
theorem s_219_29 {d : Nat} {l0 : oV} {S : List oV} {σ : oSg} {Q : Option oV → (Nat → oC) → Prop} : oE d 219 29 [l0] S σ Q = oE d 219 30 [l0] (.inl (0) :: S) σ Q := pKst f_219_29 (by decide)
theorem f_219_30 : oFet 219 30 = some (.iaload, 1) := by decide +kernel
theorem s_219_30 {d : Nat} {l0 : oV} {a : Nat} {i : Int} {S : List oV} {σ : oSg} {Q : Option oV → (Nat → oC) → Prop} (hk : oAk a = some 0) (h0 : 0 ≤ i) (h1 : i < (oLn a : Int)) : oE d 219 30 [l0] (.inl i :: .inr (.inr (.inl a)) :: S) σ Q = oE d 219 31 [l0] (.inl (σ.2 a i.toNat) :: S) σ Q := oIal f_219_30 hk h0 h1
theorem f_219_31 : oFet 219 31 = some (.ireturn, 1) := by decide +kernel
theorem s_219_31 {d : Nat} {l0 : oV} {x : Int} {σ : oSg} {Q : Option oV → (Nat → oC) → Prop} : oE d 219 31 [l0] [.inl x] σ Q = Q (some (.inl x)) (oBld σ) := oIret f_219_31 rt_219
theorem ow_220 : (oMt 220).2.2.2.2.1 = 11 := by decide +kernel
theorem rt_220 : (oMt 220).2.2.2.1 = some .int := by decide +kernel
theorem nl_220 : (oMt 220).2.2.1 = 2 := by decide +kernel
theorem f_220_0 : oFet 220 0 = some (.iload_n 1, 1) := by decide +kernel
theorem s_220_0 {d : Nat} {l0 : oV} {x : Int} {S : List oV} {σ : oSg} {Q : Option oV → (Nat → oC) → Prop} : oE d 220 0 [l0, .inl x] S σ Q = oE d 220 1 [l0, .inl x] (.inl x :: S) σ Q := pLdN (k := 1) f_220_0 rfl rfl rfl
theorem f_220_1 : oFet 220 1 = some (.tableswitch 72 0 4 #[35, 43, 51, 59, 67], 35) := by decide +kernel
theorem s_220_1_0 {d : Nat} {l0 l1 : oV} {S : List oV} {σ : oSg} {Q : Option oV → (Nat → oC) → Prop} : oE d 220 1 [l0, l1] (.inl (0) :: S) σ Q = oE d 220 36 [l0, l1] S σ Q := oTabIn f_220_1 (by decide) rfl (by decide)
theorem s_220_1_1 {d : Nat} {l0 l1 : oV} {S : List oV} {σ : oSg} {Q : Option oV → (Nat → oC) → Prop} : oE d 220 1 [l0, l1] (.inl (1) :: S) σ Q = oE d 220 44 [l0, l1] S σ Q := oTabIn f_220_1 (by decide) rfl (by decide)
theorem s_220_1_2 {d : Nat} {l0 l1 : oV} {S : List oV} {σ : oSg} {Q : Option oV → (Nat → oC) → Prop} : oE d 220 1 [l0, l1] (.inl (2) :: S) σ Q = oE d 220 52 [l0, l1] S σ Q := oTabIn f_220_1 (by decide) rfl (by decide)
theorem s_220_1_3 {d : Nat} {l0 l1 : oV} {S : List oV} {σ : oSg} {Q : Option oV → (Nat → oC) → Prop} : oE d 220 1 [l0, l1] (.inl (3) :: S) σ Q = oE d 220 60 [l0, l1] S σ Q := oTabIn f_220_1 (by decide) rfl (by decide)
theorem s_220_1_4 {d : Nat} {l0 l1 : oV} {S : List oV} {σ : oSg} {Q : Option oV → (Nat → oC) → Prop} : oE d 220 1 [l0, l1] (.inl (4) :: S) σ Q = oE d 220 68 [l0, l1] S σ Q := oTabIn f_220_1 (by decide) rfl (by decide)
theorem s_220_1_d {d : Nat} {l0 l1 : oV} {x : Int} {S : List oV} {σ : oSg} {Q : Option oV → (Nat → oC) → Prop} (hx : x < 0 ∨ 4 < x) : oE d 220 1 [l0, l1] (.inl x :: S) σ Q = oE d 220 73 [l0, l1] S σ Q := oTabOut f_220_1 hx (by decide)
theorem f_220_36 : oFet 220 36 = some (.aload_n 0, 1) := by decide +kernel
theorem s_220_36 {d : Nat} {l1 : oV} {a : Nat} {S : List oV} {σ : oSg} {Q : Option oV → (Nat → oC) → Prop} : oE d 220 36 [.inr (.inr (.inl a)), l1] S σ Q = oE d 220 37 [.inr (.inr (.inl a)), l1] (.inr (.inr (.inl a)) :: S) σ Q := pLdN (k := 0) f_220_36 rfl rfl rfl
theorem f_220_37 : oFet 220 37 = some (.getfield 11, 3) := by decide +kernel
theorem s_220_37 {d : Nat} {l0 l1 : oV} {a : Nat} {S : List oV} {σ : oSg} {Q : Option oV → (Nat → oC) → Prop} (hk : oKd a = some 11) : oE d 220 37 [l0, l1] (.inr (.inr (.inl a)) :: S) σ Q = oE d 220 40 [l0, l1] (.inr (.inr (.inl (oRf a 0))) :: S) σ Q := pGfR f_220_37 ow_220 fl_11_11 rfl (by decide) hk
theorem f_220_40 : oFet 220 40 = some (.bipush 64, 2) := by decide +kernel
theorem s_220_40 {d : Nat} {l0 l1 : oV} {S : List oV} {σ : oSg} {Q : Option oV → (Nat → oC) → Prop} : oE d 220 40 [l0, l1] S σ Q = oE d 220 42 [l0, l1] (.inl (64) :: S) σ Q := pBip f_220_40 (by decide)
theorem f_220_42 : oFet 220 42 = some (.iaload, 1) := by decide +kernel
theorem s_220_42 {d : Nat} {l0 l1 : oV} {a : Nat} {i : Int} {S : List oV} {σ : oSg} {Q : Option oV → (Nat → oC) → Prop} (hk : oAk a = some 0) (h0 : 0 ≤ i) (h1 : i < (oLn a : Int)) : oE d 220 42 [l0, l1] (.inl i :: .inr (.inr (.inl a)) :: S) σ Q = oE d 220 43 [l0, l1] (.inl (σ.2 a i.toNat) :: S) σ Q := oIal f_220_42 hk h0 h1
theorem f_220_43 : oFet 220 43 = some (.ireturn, 1) := by decide +kernel
theorem s_220_43 {d : Nat} {l0 l1 : oV} {x : Int} {σ : oSg} {Q : Option oV → (Nat → oC) → Prop} : oE d 220 43 [l0, l1] [.inl x] σ Q = Q (some (.inl x)) (oBld σ) := oIret f_220_43 rt_220
theorem f_220_44 : oFet 220 44 = some (.aload_n 0, 1) := by decide +kernel
theorem s_220_44 {d : Nat} {l1 : oV} {a : Nat} {S : List oV} {σ : oSg} {Q : Option oV → (Nat → oC) → Prop} : oE d 220 44 [.inr (.inr (.inl a)), l1] S σ Q = oE d 220 45 [.inr (.inr (.inl a)), l1] (.inr (.inr (.inl a)) :: S) σ Q := pLdN (k := 0) f_220_44 rfl rfl rfl
theorem f_220_45 : oFet 220 45 = some (.getfield 11, 3) := by decide +kernel
theorem s_220_45 {d : Nat} {l0 l1 : oV} {a : Nat} {S : List oV} {σ : oSg} {Q : Option oV → (Nat → oC) → Prop} (hk : oKd a = some 11) : oE d 220 45 [l0, l1] (.inr (.inr (.inl a)) :: S) σ Q = oE d 220 48 [l0, l1] (.inr (.inr (.inl (oRf a 0))) :: S) σ Q := pGfR f_220_45 ow_220 fl_11_11 rfl (by decide) hk
theorem f_220_48 : oFet 220 48 = some (.bipush 71, 2) := by decide +kernel
theorem s_220_48 {d : Nat} {l0 l1 : oV} {S : List oV} {σ : oSg} {Q : Option oV → (Nat → oC) → Prop} : oE d 220 48 [l0, l1] S σ Q = oE d 220 50 [l0, l1] (.inl (71) :: S) σ Q := pBip f_220_48 (by decide)
theorem f_220_50 : oFet 220 50 = some (.iaload, 1) := by decide +kernel
theorem s_220_50 {d : Nat} {l0 l1 : oV} {a : Nat} {i : Int} {S : List oV} {σ : oSg} {Q : Option oV → (Nat → oC) → Prop} (hk : oAk a = some 0) (h0 : 0 ≤ i) (h1 : i < (oLn a : Int)) : oE d 220 50 [l0, l1] (.inl i :: .inr (.inr (.inl a)) :: S) σ Q = oE d 220 51 [l0, l1] (.inl (σ.2 a i.toNat) :: S) σ Q := oIal f_220_50 hk h0 h1
theorem f_220_51 : oFet 220 51 = some (.ireturn, 1) := by decide +kernel
theorem s_220_51 {d : Nat} {l0 l1 : oV} {x : Int} {σ : oSg} {Q : Option oV → (Nat → oC) → Prop} : oE d 220 51 [l0, l1] [.inl x] σ Q = Q (some (.inl x)) (oBld σ) := oIret f_220_51 rt_220
theorem f_220_52 : oFet 220 52 = some (.aload_n 0, 1) := by decide +kernel
theorem s_220_52 {d : Nat} {l1 : oV} {a : Nat} {S : List oV} {σ : oSg} {Q : Option oV → (Nat → oC) → Prop} : oE d 220 52 [.inr (.inr (.inl a)), l1] S σ Q = oE d 220 53 [.inr (.inr (.inl a)), l1] (.inr (.inr (.inl a)) :: S) σ Q := pLdN (k := 0) f_220_52 rfl rfl rfl
theorem f_220_53 : oFet 220 53 = some (.getfield 11, 3) := by decide +kernel
theorem s_220_53 {d : Nat} {l0 l1 : oV} {a : Nat} {S : List oV} {σ : oSg} {Q : Option oV → (Nat → oC) → Prop} (hk : oKd a = some 11) : oE d 220 53 [l0, l1] (.inr (.inr (.inl a)) :: S) σ Q = oE d 220 56 [l0, l1] (.inr (.inr (.inl (oRf a 0))) :: S) σ Q := pGfR f_220_53 ow_220 fl_11_11 rfl (by decide) hk
theorem f_220_56 : oFet 220 56 = some (.bipush 82, 2) := by decide +kernel
theorem s_220_56 {d : Nat} {l0 l1 : oV} {S : List oV} {σ : oSg} {Q : Option oV → (Nat → oC) → Prop} : oE d 220 56 [l0, l1] S σ Q = oE d 220 58 [l0, l1] (.inl (82) :: S) σ Q := pBip f_220_56 (by decide)
theorem f_220_58 : oFet 220 58 = some (.iaload, 1) := by decide +kernel
theorem s_220_58 {d : Nat} {l0 l1 : oV} {a : Nat} {i : Int} {S : List oV} {σ : oSg} {Q : Option oV → (Nat → oC) → Prop} (hk : oAk a = some 0) (h0 : 0 ≤ i) (h1 : i < (oLn a : Int)) : oE d 220 58 [l0, l1] (.inl i :: .inr (.inr (.inl a)) :: S) σ Q = oE d 220 59 [l0, l1] (.inl (σ.2 a i.toNat) :: S) σ Q := oIal f_220_58 hk h0 h1
theorem f_220_59 : oFet 220 59 = some (.ireturn, 1) := by decide +kernel
theorem s_220_59 {d : Nat} {l0 l1 : oV} {x : Int} {σ : oSg} {Q : Option oV → (Nat → oC) → Prop} : oE d 220 59 [l0, l1] [.inl x] σ Q = Q (some (.inl x)) (oBld σ) := oIret f_220_59 rt_220
theorem f_220_60 : oFet 220 60 = some (.aload_n 0, 1) := by decide +kernel
theorem s_220_60 {d : Nat} {l1 : oV} {a : Nat} {S : List oV} {σ : oSg} {Q : Option oV → (Nat → oC) → Prop} : oE d 220 60 [.inr (.inr (.inl a)), l1] S σ Q = oE d 220 61 [.inr (.inr (.inl a)), l1] (.inr (.inr (.inl a)) :: S) σ Q := pLdN (k := 0) f_220_60 rfl rfl rfl
theorem f_220_61 : oFet 220 61 = some (.getfield 11, 3) := by decide +kernel
theorem s_220_61 {d : Nat} {l0 l1 : oV} {a : Nat} {S : List oV} {σ : oSg} {Q : Option oV → (Nat → oC) → Prop} (hk : oKd a = some 11) : oE d 220 61 [l0, l1] (.inr (.inr (.inl a)) :: S) σ Q = oE d 220 64 [l0, l1] (.inr (.inr (.inl (oRf a 0))) :: S) σ Q := pGfR f_220_61 ow_220 fl_11_11 rfl (by decide) hk
theorem f_220_64 : oFet 220 64 = some (.bipush 99, 2) := by decide +kernel
theorem s_220_64 {d : Nat} {l0 l1 : oV} {S : List oV} {σ : oSg} {Q : Option oV → (Nat → oC) → Prop} : oE d 220 64 [l0, l1] S σ Q = oE d 220 66 [l0, l1] (.inl (99) :: S) σ Q := pBip f_220_64 (by decide)
theorem f_220_66 : oFet 220 66 = some (.iaload, 1) := by decide +kernel
theorem s_220_66 {d : Nat} {l0 l1 : oV} {a : Nat} {i : Int} {S : List oV} {σ : oSg} {Q : Option oV → (Nat → oC) → Prop} (hk : oAk a = some 0) (h0 : 0 ≤ i) (h1 : i < (oLn a : Int)) : oE d 220 66 [l0, l1] (.inl i :: .inr (.inr (.inl a)) :: S) σ Q = oE d 220 67 [l0, l1] (.inl (σ.2 a i.toNat) :: S) σ Q := oIal f_220_66 hk h0 h1
theorem f_220_67 : oFet 220 67 = some (.ireturn, 1) := by decide +kernel
theorem s_220_67 {d : Nat} {l0 l1 : oV} {x : Int} {σ : oSg} {Q : Option oV → (Nat → oC) → Prop} : oE d 220 67 [l0, l1] [.inl x] σ Q = Q (some (.inl x)) (oBld σ) := oIret f_220_67 rt_220
theorem f_220_68 : oFet 220 68 = some (.aload_n 0, 1) := by decide +kernel
theorem s_220_68 {d : Nat} {l1 : oV} {a : Nat} {S : List oV} {σ : oSg} {Q : Option oV → (Nat → oC) → Prop} : oE d 220 68 [.inr (.inr (.inl a)), l1] S σ Q = oE d 220 69 [.inr (.inr (.inl a)), l1] (.inr (.inr (.inl a)) :: S) σ Q := pLdN (k := 0) f_220_68 rfl rfl rfl
theorem f_220_69 : oFet 220 69 = some (.getfield 116, 3) := by decide +kernel
theorem s_220_69 {d : Nat} {l0 l1 : oV} {a : Nat} {S : List oV} {σ : oSg} {Q : Option oV → (Nat → oC) → Prop} (hk : oKd a = some 11) : oE d 220 69 [l0, l1] (.inr (.inr (.inl a)) :: S) σ Q = oE d 220 72 [l0, l1] (.inl (σ.1 a 6) :: S) σ Q := pGfI f_220_69 ow_220 fl_11_116 rfl (by decide) hk
theorem f_220_72 : oFet 220 72 = some (.ireturn, 1) := by decide +kernel
theorem s_220_72 {d : Nat} {l0 l1 : oV} {x : Int} {σ : oSg} {Q : Option oV → (Nat → oC) → Prop} : oE d 220 72 [l0, l1] [.inl x] σ Q = Q (some (.inl x)) (oBld σ) := oIret f_220_72 rt_220
theorem f_220_73 : oFet 220 73 = some (.bipush (-2), 2) := by decide +kernel
theorem s_220_73 {d : Nat} {l0 l1 : oV} {S : List oV} {σ : oSg} {Q : Option oV → (Nat → oC) → Prop} : oE d 220 73 [l0, l1] S σ Q = oE d 220 75 [l0, l1] (.inl (-2) :: S) σ Q := pBip f_220_73 (by decide)
theorem f_220_75 : oFet 220 75 = some (.ireturn, 1) := by decide +kernel
theorem s_220_75 {d : Nat} {l0 l1 : oV} {x : Int} {σ : oSg} {Q : Option oV → (Nat → oC) → Prop} : oE d 220 75 [l0, l1] [.inl x] σ Q = Q (some (.inl x)) (oBld σ) := oIret f_220_75 rt_220
theorem ow_221 : (oMt 221).2.2.2.2.1 = 11 := by decide +kernel
theorem rt_221 : (oMt 221).2.2.2.1 = some .int := by decide +kernel
theorem nl_221 : (oMt 221).2.2.1 = 5 := by decide +kernel
theorem f_221_0 : oFet 221 0 = some (.iload_n 1, 1) := by decide +kernel
theorem s_221_0 {d : Nat} {l0 l2 l3 l4 : oV} {x : Int} {S : List oV} {σ : oSg} {Q : Option oV → (Nat → oC) → Prop} : oE d 221 0 [l0, .inl x, l2, l3, l4] S σ Q = oE d 221 1 [l0, .inl x, l2, l3, l4] (.inl x :: S) σ Q := pLdN (k := 1) f_221_0 rfl rfl rfl
theorem f_221_1 : oFet 221 1 = some (.invokestatic 263, 3) := by decide +kernel
theorem c_221_1 {d : Nat} {l0 l1 l2 l3 l4 : oV} {x0 : oV} {v : Option oV} {τ : oSg} {S : List oV} {σ : oSg} {Q : Option oV → (Nat → oC) → Prop} (hm : oMi d 217 [x0] σ v τ) (hs : oSmall S = true) : oE d 221 1 [l0, l1, l2, l3, l4] (x0 :: S) σ Q = oE d 221 4 [l0, l1, l2, l3, l4] (v.toList ++ S) τ Q := pCallS f_221_1 ow_221 lk_11_263 mt_217 rfl rfl rfl hs hm
theorem f_221_4 : oFet 221 4 = some (.ifCond .ne 5, 3) := by decide +kernel
theorem s_221_4 {d : Nat} {l0 l1 l2 l3 l4 : oV} {x : Int} {S : List oV} {σ : oSg} {Q : Option oV → (Nat → oC) → Prop} : oE d 221 4 [l0, l1, l2, l3, l4] (.inl x :: S) σ Q = if ¬ x = 0 then oE d 221 9 [l0, l1, l2, l3, l4] S σ Q else oE d 221 7 [l0, l1, l2, l3, l4] S σ Q := oIfNe f_221_4 (by decide)
theorem f_221_7 : oFet 221 7 = some (.iconst (-1), 1) := by decide +kernel
theorem s_221_7 {d : Nat} {l0 l1 l2 l3 l4 : oV} {S : List oV} {σ : oSg} {Q : Option oV → (Nat → oC) → Prop} : oE d 221 7 [l0, l1, l2, l3, l4] S σ Q = oE d 221 8 [l0, l1, l2, l3, l4] (.inl (-1) :: S) σ Q := pKst f_221_7 (by decide)
theorem f_221_8 : oFet 221 8 = some (.ireturn, 1) := by decide +kernel
theorem s_221_8 {d : Nat} {l0 l1 l2 l3 l4 : oV} {x : Int} {σ : oSg} {Q : Option oV → (Nat → oC) → Prop} : oE d 221 8 [l0, l1, l2, l3, l4] [.inl x] σ Q = Q (some (.inl x)) (oBld σ) := oIret f_221_8 rt_221
theorem f_221_9 : oFet 221 9 = some (.iload_n 2, 1) := by decide +kernel
theorem s_221_9 {d : Nat} {l0 l1 l3 l4 : oV} {x : Int} {S : List oV} {σ : oSg} {Q : Option oV → (Nat → oC) → Prop} : oE d 221 9 [l0, l1, .inl x, l3, l4] S σ Q = oE d 221 10 [l0, l1, .inl x, l3, l4] (.inl x :: S) σ Q := pLdN (k := 2) f_221_9 rfl rfl rfl
theorem f_221_10 : oFet 221 10 = some (.iconst (-1), 1) := by decide +kernel
theorem s_221_10 {d : Nat} {l0 l1 l2 l3 l4 : oV} {S : List oV} {σ : oSg} {Q : Option oV → (Nat → oC) → Prop} : oE d 221 10 [l0, l1, l2, l3, l4] S σ Q = oE d 221 11 [l0, l1, l2, l3, l4] (.inl (-1) :: S) σ Q := pKst f_221_10 (by decide)
theorem f_221_11 : oFet 221 11 = some (.iconst 4, 1) := by decide +kernel
theorem s_221_11 {d : Nat} {l0 l1 l2 l3 l4 : oV} {S : List oV} {σ : oSg} {Q : Option oV → (Nat → oC) → Prop} : oE d 221 11 [l0, l1, l2, l3, l4] S σ Q = oE d 221 12 [l0, l1, l2, l3, l4] (.inl (4) :: S) σ Q := pKst f_221_11 (by decide)
theorem f_221_12 : oFet 221 12 = some (.invokestatic 57, 3) := by decide +kernel
theorem c_221_12 {d : Nat} {l0 l1 l2 l3 l4 : oV} {x0 x1 x2 : oV} {v : Option oV} {τ : oSg} {S : List oV} {σ : oSg} {Q : Option oV → (Nat → oC) → Prop} (hm : oMi d 146 [x0, x1, x2] σ v τ) (hs : oSmall S = true) : oE d 221 12 [l0, l1, l2, l3, l4] (x2 :: x1 :: x0 :: S) σ Q = oE d 221 15 [l0, l1, l2, l3, l4] (v.toList ++ S) τ Q := pCallS f_221_12 ow_221 lk_11_57 mt_146 rfl rfl rfl hs hm
theorem f_221_15 : oFet 221 15 = some (.ifCond .eq 14, 3) := by decide +kernel
theorem s_221_15 {d : Nat} {l0 l1 l2 l3 l4 : oV} {x : Int} {S : List oV} {σ : oSg} {Q : Option oV → (Nat → oC) → Prop} : oE d 221 15 [l0, l1, l2, l3, l4] (.inl x :: S) σ Q = if x = 0 then oE d 221 29 [l0, l1, l2, l3, l4] S σ Q else oE d 221 18 [l0, l1, l2, l3, l4] S σ Q := oIfEq f_221_15 (by decide)
theorem f_221_18 : oFet 221 18 = some (.iload_n 2, 1) := by decide +kernel
theorem s_221_18 {d : Nat} {l0 l1 l3 l4 : oV} {x : Int} {S : List oV} {σ : oSg} {Q : Option oV → (Nat → oC) → Prop} : oE d 221 18 [l0, l1, .inl x, l3, l4] S σ Q = oE d 221 19 [l0, l1, .inl x, l3, l4] (.inl x :: S) σ Q := pLdN (k := 2) f_221_18 rfl rfl rfl
theorem f_221_19 : oFet 221 19 = some (.iconst (-1), 1) := by decide +kernel
theorem s_221_19 {d : Nat} {l0 l1 l2 l3 l4 : oV} {S : List oV} {σ : oSg} {Q : Option oV → (Nat → oC) → Prop} : oE d 221 19 [l0, l1, l2, l3, l4] S σ Q = oE d 221 20 [l0, l1, l2, l3, l4] (.inl (-1) :: S) σ Q := pKst f_221_19 (by decide)
theorem f_221_20 : oFet 221 20 = some (.if_icmp .eq 12, 3) := by decide +kernel
theorem s_221_20 {d : Nat} {l0 l1 l2 l3 l4 : oV} {x y : Int} {S : List oV} {σ : oSg} {Q : Option oV → (Nat → oC) → Prop} : oE d 221 20 [l0, l1, l2, l3, l4] (.inl y :: .inl x :: S) σ Q = if x = y then oE d 221 32 [l0, l1, l2, l3, l4] S σ Q else oE d 221 23 [l0, l1, l2, l3, l4] S σ Q := oCmpEq f_221_20 (by decide)
theorem f_221_23 : oFet 221 23 = some (.iload_n 3, 1) := by decide +kernel
theorem s_221_23 {d : Nat} {l0 l1 l2 l4 : oV} {x : Int} {S : List oV} {σ : oSg} {Q : Option oV → (Nat → oC) → Prop} : oE d 221 23 [l0, l1, l2, .inl x, l4] S σ Q = oE d 221 24 [l0, l1, l2, .inl x, l4] (.inl x :: S) σ Q := pLdN (k := 3) f_221_23 rfl rfl rfl
theorem f_221_24 : oFet 221 24 = some (.bipush 60, 2) := by decide +kernel
theorem s_221_24 {d : Nat} {l0 l1 l2 l3 l4 : oV} {S : List oV} {σ : oSg} {Q : Option oV → (Nat → oC) → Prop} : oE d 221 24 [l0, l1, l2, l3, l4] S σ Q = oE d 221 26 [l0, l1, l2, l3, l4] (.inl (60) :: S) σ Q := pBip f_221_24 (by decide)
theorem f_221_26 : oFet 221 26 = some (.if_icmp .le 6, 3) := by decide +kernel
theorem s_221_26 {d : Nat} {l0 l1 l2 l3 l4 : oV} {x y : Int} {S : List oV} {σ : oSg} {Q : Option oV → (Nat → oC) → Prop} : oE d 221 26 [l0, l1, l2, l3, l4] (.inl y :: .inl x :: S) σ Q = if x ≤ y then oE d 221 32 [l0, l1, l2, l3, l4] S σ Q else oE d 221 29 [l0, l1, l2, l3, l4] S σ Q := oCmpLe f_221_26 (by decide)
theorem f_221_29 : oFet 221 29 = some (.bipush (-2), 2) := by decide +kernel
theorem s_221_29 {d : Nat} {l0 l1 l2 l3 l4 : oV} {S : List oV} {σ : oSg} {Q : Option oV → (Nat → oC) → Prop} : oE d 221 29 [l0, l1, l2, l3, l4] S σ Q = oE d 221 31 [l0, l1, l2, l3, l4] (.inl (-2) :: S) σ Q := pBip f_221_29 (by decide)
theorem f_221_31 : oFet 221 31 = some (.ireturn, 1) := by decide +kernel
theorem s_221_31 {d : Nat} {l0 l1 l2 l3 l4 : oV} {x : Int} {σ : oSg} {Q : Option oV → (Nat → oC) → Prop} : oE d 221 31 [l0, l1, l2, l3, l4] [.inl x] σ Q = Q (some (.inl x)) (oBld σ) := oIret f_221_31 rt_221
theorem f_221_32 : oFet 221 32 = some (.iload_n 2, 1) := by decide +kernel
theorem s_221_32 {d : Nat} {l0 l1 l3 l4 : oV} {x : Int} {S : List oV} {σ : oSg} {Q : Option oV → (Nat → oC) → Prop} : oE d 221 32 [l0, l1, .inl x, l3, l4] S σ Q = oE d 221 33 [l0, l1, .inl x, l3, l4] (.inl x :: S) σ Q := pLdN (k := 2) f_221_32 rfl rfl rfl
theorem f_221_33 : oFet 221 33 = some (.iconst (-1), 1) := by decide +kernel
theorem s_221_33 {d : Nat} {l0 l1 l2 l3 l4 : oV} {S : List oV} {σ : oSg} {Q : Option oV → (Nat → oC) → Prop} : oE d 221 33 [l0, l1, l2, l3, l4] S σ Q = oE d 221 34 [l0, l1, l2, l3, l4] (.inl (-1) :: S) σ Q := pKst f_221_33 (by decide)
theorem f_221_34 : oFet 221 34 = some (.if_icmp .eq 10, 3) := by decide +kernel
theorem s_221_34 {d : Nat} {l0 l1 l2 l3 l4 : oV} {x y : Int} {S : List oV} {σ : oSg} {Q : Option oV → (Nat → oC) → Prop} : oE d 221 34 [l0, l1, l2, l3, l4] (.inl y :: .inl x :: S) σ Q = if x = y then oE d 221 44 [l0, l1, l2, l3, l4] S σ Q else oE d 221 37 [l0, l1, l2, l3, l4] S σ Q := oCmpEq f_221_34 (by decide)
theorem f_221_37 : oFet 221 37 = some (.iload_n 3, 1) := by decide +kernel
theorem s_221_37 {d : Nat} {l0 l1 l2 l4 : oV} {x : Int} {S : List oV} {σ : oSg} {Q : Option oV → (Nat → oC) → Prop} : oE d 221 37 [l0, l1, l2, .inl x, l4] S σ Q = oE d 221 38 [l0, l1, l2, .inl x, l4] (.inl x :: S) σ Q := pLdN (k := 3) f_221_37 rfl rfl rfl
theorem f_221_38 : oFet 221 38 = some (.ifCond .ge 6, 3) := by decide +kernel
theorem s_221_38 {d : Nat} {l0 l1 l2 l3 l4 : oV} {x : Int} {S : List oV} {σ : oSg} {Q : Option oV → (Nat → oC) → Prop} : oE d 221 38 [l0, l1, l2, l3, l4] (.inl x :: S) σ Q = if 0 ≤ x then oE d 221 44 [l0, l1, l2, l3, l4] S σ Q else oE d 221 41 [l0, l1, l2, l3, l4] S σ Q := oIfGe f_221_38 (by decide)
theorem f_221_41 : oFet 221 41 = some (.bipush (-14), 2) := by decide +kernel
theorem s_221_41 {d : Nat} {l0 l1 l2 l3 l4 : oV} {S : List oV} {σ : oSg} {Q : Option oV → (Nat → oC) → Prop} : oE d 221 41 [l0, l1, l2, l3, l4] S σ Q = oE d 221 43 [l0, l1, l2, l3, l4] (.inl (-14) :: S) σ Q := pBip f_221_41 (by decide)
theorem f_221_43 : oFet 221 43 = some (.ireturn, 1) := by decide +kernel
theorem s_221_43 {d : Nat} {l0 l1 l2 l3 l4 : oV} {x : Int} {σ : oSg} {Q : Option oV → (Nat → oC) → Prop} : oE d 221 43 [l0, l1, l2, l3, l4] [.inl x] σ Q = Q (some (.inl x)) (oBld σ) := oIret f_221_43 rt_221
theorem f_221_44 : oFet 221 44 = some (.aload_n 0, 1) := by decide +kernel
theorem s_221_44 {d : Nat} {l1 l2 l3 l4 : oV} {a : Nat} {S : List oV} {σ : oSg} {Q : Option oV → (Nat → oC) → Prop} : oE d 221 44 [.inr (.inr (.inl a)), l1, l2, l3, l4] S σ Q = oE d 221 45 [.inr (.inr (.inl a)), l1, l2, l3, l4] (.inr (.inr (.inl a)) :: S) σ Q := pLdN (k := 0) f_221_44 rfl rfl rfl
theorem f_221_45 : oFet 221 45 = some (.getfield 42, 3) := by decide +kernel
theorem s_221_45 {d : Nat} {l0 l1 l2 l3 l4 : oV} {a : Nat} {S : List oV} {σ : oSg} {Q : Option oV → (Nat → oC) → Prop} (hk : oKd a = some 11) : oE d 221 45 [l0, l1, l2, l3, l4] (.inr (.inr (.inl a)) :: S) σ Q = oE d 221 48 [l0, l1, l2, l3, l4] (.inr (.inr (.inl (oRf a 20))) :: S) σ Q := pGfR f_221_45 ow_221 fl_11_42 rfl (by decide) hk
theorem f_221_48 : oFet 221 48 = some (.iload_n 1, 1) := by decide +kernel
theorem s_221_48 {d : Nat} {l0 l2 l3 l4 : oV} {x : Int} {S : List oV} {σ : oSg} {Q : Option oV → (Nat → oC) → Prop} : oE d 221 48 [l0, .inl x, l2, l3, l4] S σ Q = oE d 221 49 [l0, .inl x, l2, l3, l4] (.inl x :: S) σ Q := pLdN (k := 1) f_221_48 rfl rfl rfl
theorem f_221_49 : oFet 221 49 = some (.iload_n 2, 1) := by decide +kernel
theorem s_221_49 {d : Nat} {l0 l1 l3 l4 : oV} {x : Int} {S : List oV} {σ : oSg} {Q : Option oV → (Nat → oC) → Prop} : oE d 221 49 [l0, l1, .inl x, l3, l4] S σ Q = oE d 221 50 [l0, l1, .inl x, l3, l4] (.inl x :: S) σ Q := pLdN (k := 2) f_221_49 rfl rfl rfl
theorem f_221_50 : oFet 221 50 = some (.iastore, 1) := by decide +kernel
theorem s_221_50 {d : Nat} {l0 l1 l2 l3 l4 : oV} {a : Nat} {i v : Int} {S : List oV} {σ : oSg} {Q : Option oV → (Nat → oC) → Prop} (hk : oAk a = some 0) (h0 : 0 ≤ i) (h1 : i < (oLn a : Int)) : oE d 221 50 [l0, l1, l2, l3, l4] (.inl v :: .inl i :: .inr (.inr (.inl a)) :: S) σ Q = oE d 221 51 [l0, l1, l2, l3, l4] S (oSA σ a i.toNat v) Q := oIas f_221_50 hk h0 h1
theorem f_221_51 : oFet 221 51 = some (.aload_n 0, 1) := by decide +kernel
theorem s_221_51 {d : Nat} {l1 l2 l3 l4 : oV} {a : Nat} {S : List oV} {σ : oSg} {Q : Option oV → (Nat → oC) → Prop} : oE d 221 51 [.inr (.inr (.inl a)), l1, l2, l3, l4] S σ Q = oE d 221 52 [.inr (.inr (.inl a)), l1, l2, l3, l4] (.inr (.inr (.inl a)) :: S) σ Q := pLdN (k := 0) f_221_51 rfl rfl rfl
theorem f_221_52 : oFet 221 52 = some (.getfield 45, 3) := by decide +kernel
theorem s_221_52 {d : Nat} {l0 l1 l2 l3 l4 : oV} {a : Nat} {S : List oV} {σ : oSg} {Q : Option oV → (Nat → oC) → Prop} (hk : oKd a = some 11) : oE d 221 52 [l0, l1, l2, l3, l4] (.inr (.inr (.inl a)) :: S) σ Q = oE d 221 55 [l0, l1, l2, l3, l4] (.inr (.inr (.inl (oRf a 21))) :: S) σ Q := pGfR f_221_52 ow_221 fl_11_45 rfl (by decide) hk
theorem f_221_55 : oFet 221 55 = some (.iload_n 1, 1) := by decide +kernel
theorem s_221_55 {d : Nat} {l0 l2 l3 l4 : oV} {x : Int} {S : List oV} {σ : oSg} {Q : Option oV → (Nat → oC) → Prop} : oE d 221 55 [l0, .inl x, l2, l3, l4] S σ Q = oE d 221 56 [l0, .inl x, l2, l3, l4] (.inl x :: S) σ Q := pLdN (k := 1) f_221_55 rfl rfl rfl
theorem f_221_56 : oFet 221 56 = some (.iload_n 2, 1) := by decide +kernel
theorem s_221_56 {d : Nat} {l0 l1 l3 l4 : oV} {x : Int} {S : List oV} {σ : oSg} {Q : Option oV → (Nat → oC) → Prop} : oE d 221 56 [l0, l1, .inl x, l3, l4] S σ Q = oE d 221 57 [l0, l1, .inl x, l3, l4] (.inl x :: S) σ Q := pLdN (k := 2) f_221_56 rfl rfl rfl
theorem f_221_57 : oFet 221 57 = some (.iconst (-1), 1) := by decide +kernel
theorem s_221_57 {d : Nat} {l0 l1 l2 l3 l4 : oV} {S : List oV} {σ : oSg} {Q : Option oV → (Nat → oC) → Prop} : oE d 221 57 [l0, l1, l2, l3, l4] S σ Q = oE d 221 58 [l0, l1, l2, l3, l4] (.inl (-1) :: S) σ Q := pKst f_221_57 (by decide)
theorem f_221_58 : oFet 221 58 = some (.if_icmp .ne 7, 3) := by decide +kernel
theorem s_221_58 {d : Nat} {l0 l1 l2 l3 l4 : oV} {x y : Int} {S : List oV} {σ : oSg} {Q : Option oV → (Nat → oC) → Prop} : oE d 221 58 [l0, l1, l2, l3, l4] (.inl y :: .inl x :: S) σ Q = if ¬ x = y then oE d 221 65 [l0, l1, l2, l3, l4] S σ Q else oE d 221 61 [l0, l1, l2, l3, l4] S σ Q := oCmpNe f_221_58 (by decide)
theorem f_221_61 : oFet 221 61 = some (.iconst 0, 1) := by decide +kernel
theorem s_221_61 {d : Nat} {l0 l1 l2 l3 l4 : oV} {S : List oV} {σ : oSg} {Q : Option oV → (Nat → oC) → Prop} : oE d 221 61 [l0, l1, l2, l3, l4] S σ Q = oE d 221 62 [l0, l1, l2, l3, l4] (.inl (0) :: S) σ Q := pKst f_221_61 (by decide)
theorem f_221_62 : oFet 221 62 = some (.goto 4, 3) := by decide +kernel
theorem s_221_62 {d : Nat} {l0 l1 l2 l3 l4 : oV} {S : List oV} {σ : oSg} {Q : Option oV → (Nat → oC) → Prop} : oE d 221 62 [l0, l1, l2, l3, l4] S σ Q = oE d 221 66 [l0, l1, l2, l3, l4] S σ Q := pGoto f_221_62 (by decide)
theorem f_221_65 : oFet 221 65 = some (.iload_n 3, 1) := by decide +kernel
theorem s_221_65 {d : Nat} {l0 l1 l2 l4 : oV} {x : Int} {S : List oV} {σ : oSg} {Q : Option oV → (Nat → oC) → Prop} : oE d 221 65 [l0, l1, l2, .inl x, l4] S σ Q = oE d 221 66 [l0, l1, l2, .inl x, l4] (.inl x :: S) σ Q := pLdN (k := 3) f_221_65 rfl rfl rfl
theorem f_221_66 : oFet 221 66 = some (.iastore, 1) := by decide +kernel
theorem s_221_66 {d : Nat} {l0 l1 l2 l3 l4 : oV} {a : Nat} {i v : Int} {S : List oV} {σ : oSg} {Q : Option oV → (Nat → oC) → Prop} (hk : oAk a = some 0) (h0 : 0 ≤ i) (h1 : i < (oLn a : Int)) : oE d 221 66 [l0, l1, l2, l3, l4] (.inl v :: .inl i :: .inr (.inr (.inl a)) :: S) σ Q = oE d 221 67 [l0, l1, l2, l3, l4] S (oSA σ a i.toNat v) Q := oIas f_221_66 hk h0 h1
theorem f_221_67 : oFet 221 67 = some (.iconst 0, 1) := by decide +kernel
theorem s_221_67 {d : Nat} {l0 l1 l2 l3 l4 : oV} {S : List oV} {σ : oSg} {Q : Option oV → (Nat → oC) → Prop} : oE d 221 67 [l0, l1, l2, l3, l4] S σ Q = oE d 221 68 [l0, l1, l2, l3, l4] (.inl (0) :: S) σ Q := pKst f_221_67 (by decide)
theorem f_221_68 : oFet 221 68 = some (.istore 4, 2) := by decide +kernel
theorem s_221_68 {d : Nat} {l0 l1 l2 l3 l4 : oV} {x : Int} {S : List oV} {σ : oSg} {Q : Option oV → (Nat → oC) → Prop} (c4 : oCat l4 = 1) (c3 : oCat l3 = 1)  : oE d 221 68 [l0, l1, l2, l3, l4] (.inl x :: S) σ Q = oE d 221 70 [l0, l1, l2, l3, .inl x] S σ Q := pSt (i := 4) f_221_68 rfl rfl (show (4 : Nat) < 5 by decide) (oC1n c3) (oC1n c4) rfl
theorem f_221_70 : oFet 221 70 = some (.iload 4, 2) := by decide +kernel
theorem s_221_70 {d : Nat} {l0 l1 l2 l3 : oV} {x : Int} {S : List oV} {σ : oSg} {Q : Option oV → (Nat → oC) → Prop} : oE d 221 70 [l0, l1, l2, l3, .inl x] S σ Q = oE d 221 72 [l0, l1, l2, l3, .inl x] (.inl x :: S) σ Q := pLd (i := 4) f_221_70 rfl rfl rfl
theorem f_221_72 : oFet 221 72 = some (.bipush 60, 2) := by decide +kernel
theorem s_221_72 {d : Nat} {l0 l1 l2 l3 l4 : oV} {S : List oV} {σ : oSg} {Q : Option oV → (Nat → oC) → Prop} : oE d 221 72 [l0, l1, l2, l3, l4] S σ Q = oE d 221 74 [l0, l1, l2, l3, l4] (.inl (60) :: S) σ Q := pBip f_221_72 (by decide)
theorem f_221_74 : oFet 221 74 = some (.if_icmp .ge 19, 3) := by decide +kernel
theorem s_221_74 {d : Nat} {l0 l1 l2 l3 l4 : oV} {x y : Int} {S : List oV} {σ : oSg} {Q : Option oV → (Nat → oC) → Prop} : oE d 221 74 [l0, l1, l2, l3, l4] (.inl y :: .inl x :: S) σ Q = if y ≤ x then oE d 221 93 [l0, l1, l2, l3, l4] S σ Q else oE d 221 77 [l0, l1, l2, l3, l4] S σ Q := oCmpGe f_221_74 (by decide)
theorem f_221_77 : oFet 221 77 = some (.aload_n 0, 1) := by decide +kernel
theorem s_221_77 {d : Nat} {l1 l2 l3 l4 : oV} {a : Nat} {S : List oV} {σ : oSg} {Q : Option oV → (Nat → oC) → Prop} : oE d 221 77 [.inr (.inr (.inl a)), l1, l2, l3, l4] S σ Q = oE d 221 78 [.inr (.inr (.inl a)), l1, l2, l3, l4] (.inr (.inr (.inl a)) :: S) σ Q := pLdN (k := 0) f_221_77 rfl rfl rfl
theorem f_221_78 : oFet 221 78 = some (.getfield 50, 3) := by decide +kernel
theorem s_221_78 {d : Nat} {l0 l1 l2 l3 l4 : oV} {a : Nat} {S : List oV} {σ : oSg} {Q : Option oV → (Nat → oC) → Prop} (hk : oKd a = some 11) : oE d 221 78 [l0, l1, l2, l3, l4] (.inr (.inr (.inl a)) :: S) σ Q = oE d 221 81 [l0, l1, l2, l3, l4] (.inr (.inr (.inl (oRf a 22))) :: S) σ Q := pGfR f_221_78 ow_221 fl_11_50 rfl (by decide) hk
theorem f_221_81 : oFet 221 81 = some (.iload_n 1, 1) := by decide +kernel
theorem s_221_81 {d : Nat} {l0 l2 l3 l4 : oV} {x : Int} {S : List oV} {σ : oSg} {Q : Option oV → (Nat → oC) → Prop} : oE d 221 81 [l0, .inl x, l2, l3, l4] S σ Q = oE d 221 82 [l0, .inl x, l2, l3, l4] (.inl x :: S) σ Q := pLdN (k := 1) f_221_81 rfl rfl rfl
theorem f_221_82 : oFet 221 82 = some (.aaload, 1) := by decide +kernel
theorem s_221_82 {d : Nat} {l0 l1 l2 l3 l4 : oV} {a : Nat} {i : Int} {S : List oV} {σ : oSg} {Q : Option oV → (Nat → oC) → Prop} (hk : oAk a = some 4) (h0 : 0 ≤ i) (h1 : i < (oLn a : Int)) : oE d 221 82 [l0, l1, l2, l3, l4] (.inl i :: .inr (.inr (.inl a)) :: S) σ Q = oE d 221 83 [l0, l1, l2, l3, l4] (.inr (.inr (.inl (oRe a i.toNat))) :: S) σ Q := oAal f_221_82 hk (by decide) h0 h1
theorem f_221_83 : oFet 221 83 = some (.iload 4, 2) := by decide +kernel
theorem s_221_83 {d : Nat} {l0 l1 l2 l3 : oV} {x : Int} {S : List oV} {σ : oSg} {Q : Option oV → (Nat → oC) → Prop} : oE d 221 83 [l0, l1, l2, l3, .inl x] S σ Q = oE d 221 85 [l0, l1, l2, l3, .inl x] (.inl x :: S) σ Q := pLd (i := 4) f_221_83 rfl rfl rfl
theorem f_221_85 : oFet 221 85 = some (.lconst 0, 1) := by decide +kernel
theorem s_221_85 {d : Nat} {l0 l1 l2 l3 l4 : oV} {S : List oV} {σ : oSg} {Q : Option oV → (Nat → oC) → Prop} : oE d 221 85 [l0, l1, l2, l3, l4] S σ Q = oE d 221 86 [l0, l1, l2, l3, l4] (.inr (.inl 0) :: S) σ Q := pLcs f_221_85
theorem f_221_86 : oFet 221 86 = some (.lastore, 1) := by decide +kernel
theorem s_221_86 {d : Nat} {l0 l1 l2 l3 l4 : oV} {a : Nat} {i v : Int} {S : List oV} {σ : oSg} {Q : Option oV → (Nat → oC) → Prop} (hk : oAk a = some 1) (h0 : 0 ≤ i) (h1 : i < (oLn a : Int)) : oE d 221 86 [l0, l1, l2, l3, l4] (.inr (.inl v) :: .inl i :: .inr (.inr (.inl a)) :: S) σ Q = oE d 221 87 [l0, l1, l2, l3, l4] S (oSA σ a i.toNat v) Q := oLas f_221_86 hk h0 h1
theorem f_221_87 : oFet 221 87 = some (.iinc 4 1, 3) := by decide +kernel
theorem s_221_87 {d : Nat} {l0 l1 l2 l3 : oV} {x : Int} {S : List oV} {σ : oSg} {Q : Option oV → (Nat → oC) → Prop} (c3 : oCat l3 = 1)  : oE d 221 87 [l0, l1, l2, l3, .inl x] S σ Q = oE d 221 90 [l0, l1, l2, l3, .inl (oAdd x (1))] S σ Q := pInc f_221_87 rfl (show (4 : Nat) < 5 by decide) (oC1n c3) (oC1n (v := .inl x) rfl) rfl
theorem f_221_90 : oFet 221 90 = some (.goto (-20), 3) := by decide +kernel
theorem s_221_90 {d : Nat} {l0 l1 l2 l3 l4 : oV} {S : List oV} {σ : oSg} {Q : Option oV → (Nat → oC) → Prop} : oE d 221 90 [l0, l1, l2, l3, l4] S σ Q = oE d 221 70 [l0, l1, l2, l3, l4] S σ Q := pGoto f_221_90 (by decide)
theorem f_221_93 : oFet 221 93 = some (.iconst 1, 1) := by decide +kernel
theorem s_221_93 {d : Nat} {l0 l1 l2 l3 l4 : oV} {S : List oV} {σ : oSg} {Q : Option oV → (Nat → oC) → Prop} : oE d 221 93 [l0, l1, l2, l3, l4] S σ Q = oE d 221 94 [l0, l1, l2, l3, l4] (.inl (1) :: S) σ Q := pKst f_221_93 (by decide)
theorem f_221_94 : oFet 221 94 = some (.ireturn, 1) := by decide +kernel
theorem s_221_94 {d : Nat} {l0 l1 l2 l3 l4 : oV} {x : Int} {σ : oSg} {Q : Option oV → (Nat → oC) → Prop} : oE d 221 94 [l0, l1, l2, l3, l4] [.inl x] σ Q = Q (some (.inl x)) (oBld σ) := oIret f_221_94 rt_221
theorem ow_222 : (oMt 222).2.2.2.2.1 = 11 := by decide +kernel
theorem rt_222 : (oMt 222).2.2.2.1 = some .int := by decide +kernel
theorem nl_222 : (oMt 222).2.2.1 = 5 := by decide +kernel
theorem f_222_0 : oFet 222 0 = some (.iload_n 1, 1) := by decide +kernel
theorem s_222_0 {d : Nat} {l0 l2 l3 l4 : oV} {x : Int} {S : List oV} {σ : oSg} {Q : Option oV → (Nat → oC) → Prop} : oE d 222 0 [l0, .inl x, l2, l3, l4] S σ Q = oE d 222 1 [l0, .inl x, l2, l3, l4] (.inl x :: S) σ Q := pLdN (k := 1) f_222_0 rfl rfl rfl
theorem f_222_1 : oFet 222 1 = some (.invokestatic 263, 3) := by decide +kernel
theorem c_222_1 {d : Nat} {l0 l1 l2 l3 l4 : oV} {x0 : oV} {v : Option oV} {τ : oSg} {S : List oV} {σ : oSg} {Q : Option oV → (Nat → oC) → Prop} (hm : oMi d 217 [x0] σ v τ) (hs : oSmall S = true) : oE d 222 1 [l0, l1, l2, l3, l4] (x0 :: S) σ Q = oE d 222 4 [l0, l1, l2, l3, l4] (v.toList ++ S) τ Q := pCallS f_222_1 ow_222 lk_11_263 mt_217 rfl rfl rfl hs hm
theorem f_222_4 : oFet 222 4 = some (.ifCond .ne 5, 3) := by decide +kernel
theorem s_222_4 {d : Nat} {l0 l1 l2 l3 l4 : oV} {x : Int} {S : List oV} {σ : oSg} {Q : Option oV → (Nat → oC) → Prop} : oE d 222 4 [l0, l1, l2, l3, l4] (.inl x :: S) σ Q = if ¬ x = 0 then oE d 222 9 [l0, l1, l2, l3, l4] S σ Q else oE d 222 7 [l0, l1, l2, l3, l4] S σ Q := oIfNe f_222_4 (by decide)
theorem f_222_7 : oFet 222 7 = some (.iconst (-1), 1) := by decide +kernel
theorem s_222_7 {d : Nat} {l0 l1 l2 l3 l4 : oV} {S : List oV} {σ : oSg} {Q : Option oV → (Nat → oC) → Prop} : oE d 222 7 [l0, l1, l2, l3, l4] S σ Q = oE d 222 8 [l0, l1, l2, l3, l4] (.inl (-1) :: S) σ Q := pKst f_222_7 (by decide)
theorem f_222_8 : oFet 222 8 = some (.ireturn, 1) := by decide +kernel
theorem s_222_8 {d : Nat} {l0 l1 l2 l3 l4 : oV} {x : Int} {σ : oSg} {Q : Option oV → (Nat → oC) → Prop} : oE d 222 8 [l0, l1, l2, l3, l4] [.inl x] σ Q = Q (some (.inl x)) (oBld σ) := oIret f_222_8 rt_222
theorem f_222_9 : oFet 222 9 = some (.aload_n 0, 1) := by decide +kernel
theorem s_222_9 {d : Nat} {l1 l2 l3 l4 : oV} {a : Nat} {S : List oV} {σ : oSg} {Q : Option oV → (Nat → oC) → Prop} : oE d 222 9 [.inr (.inr (.inl a)), l1, l2, l3, l4] S σ Q = oE d 222 10 [.inr (.inr (.inl a)), l1, l2, l3, l4] (.inr (.inr (.inl a)) :: S) σ Q := pLdN (k := 0) f_222_9 rfl rfl rfl
theorem f_222_10 : oFet 222 10 = some (.getfield 42, 3) := by decide +kernel
theorem s_222_10 {d : Nat} {l0 l1 l2 l3 l4 : oV} {a : Nat} {S : List oV} {σ : oSg} {Q : Option oV → (Nat → oC) → Prop} (hk : oKd a = some 11) : oE d 222 10 [l0, l1, l2, l3, l4] (.inr (.inr (.inl a)) :: S) σ Q = oE d 222 13 [l0, l1, l2, l3, l4] (.inr (.inr (.inl (oRf a 20))) :: S) σ Q := pGfR f_222_10 ow_222 fl_11_42 rfl (by decide) hk
theorem f_222_13 : oFet 222 13 = some (.iload_n 1, 1) := by decide +kernel
theorem s_222_13 {d : Nat} {l0 l2 l3 l4 : oV} {x : Int} {S : List oV} {σ : oSg} {Q : Option oV → (Nat → oC) → Prop} : oE d 222 13 [l0, .inl x, l2, l3, l4] S σ Q = oE d 222 14 [l0, .inl x, l2, l3, l4] (.inl x :: S) σ Q := pLdN (k := 1) f_222_13 rfl rfl rfl
theorem f_222_14 : oFet 222 14 = some (.iaload, 1) := by decide +kernel
theorem s_222_14 {d : Nat} {l0 l1 l2 l3 l4 : oV} {a : Nat} {i : Int} {S : List oV} {σ : oSg} {Q : Option oV → (Nat → oC) → Prop} (hk : oAk a = some 0) (h0 : 0 ≤ i) (h1 : i < (oLn a : Int)) : oE d 222 14 [l0, l1, l2, l3, l4] (.inl i :: .inr (.inr (.inl a)) :: S) σ Q = oE d 222 15 [l0, l1, l2, l3, l4] (.inl (σ.2 a i.toNat) :: S) σ Q := oIal f_222_14 hk h0 h1
theorem f_222_15 : oFet 222 15 = some (.iconst (-1), 1) := by decide +kernel
theorem s_222_15 {d : Nat} {l0 l1 l2 l3 l4 : oV} {S : List oV} {σ : oSg} {Q : Option oV → (Nat → oC) → Prop} : oE d 222 15 [l0, l1, l2, l3, l4] S σ Q = oE d 222 16 [l0, l1, l2, l3, l4] (.inl (-1) :: S) σ Q := pKst f_222_15 (by decide)
theorem f_222_16 : oFet 222 16 = some (.if_icmp .ne 6, 3) := by decide +kernel
theorem s_222_16 {d : Nat} {l0 l1 l2 l3 l4 : oV} {x y : Int} {S : List oV} {σ : oSg} {Q : Option oV → (Nat → oC) → Prop} : oE d 222 16 [l0, l1, l2, l3, l4] (.inl y :: .inl x :: S) σ Q = if ¬ x = y then oE d 222 22 [l0, l1, l2, l3, l4] S σ Q else oE d 222 19 [l0, l1, l2, l3, l4] S σ Q := oCmpNe f_222_16 (by decide)
theorem f_222_19 : oFet 222 19 = some (.bipush (-11), 2) := by decide +kernel
theorem s_222_19 {d : Nat} {l0 l1 l2 l3 l4 : oV} {S : List oV} {σ : oSg} {Q : Option oV → (Nat → oC) → Prop} : oE d 222 19 [l0, l1, l2, l3, l4] S σ Q = oE d 222 21 [l0, l1, l2, l3, l4] (.inl (-11) :: S) σ Q := pBip f_222_19 (by decide)
theorem f_222_21 : oFet 222 21 = some (.ireturn, 1) := by decide +kernel
theorem s_222_21 {d : Nat} {l0 l1 l2 l3 l4 : oV} {x : Int} {σ : oSg} {Q : Option oV → (Nat → oC) → Prop} : oE d 222 21 [l0, l1, l2, l3, l4] [.inl x] σ Q = Q (some (.inl x)) (oBld σ) := oIret f_222_21 rt_222
theorem f_222_22 : oFet 222 22 = some (.iload_n 2, 1) := by decide +kernel
theorem s_222_22 {d : Nat} {l0 l1 l3 l4 : oV} {x : Int} {S : List oV} {σ : oSg} {Q : Option oV → (Nat → oC) → Prop} : oE d 222 22 [l0, l1, .inl x, l3, l4] S σ Q = oE d 222 23 [l0, l1, .inl x, l3, l4] (.inl x :: S) σ Q := pLdN (k := 2) f_222_22 rfl rfl rfl
theorem f_222_23 : oFet 222 23 = some (.iconst 0, 1) := by decide +kernel
theorem s_222_23 {d : Nat} {l0 l1 l2 l3 l4 : oV} {S : List oV} {σ : oSg} {Q : Option oV → (Nat → oC) → Prop} : oE d 222 23 [l0, l1, l2, l3, l4] S σ Q = oE d 222 24 [l0, l1, l2, l3, l4] (.inl (0) :: S) σ Q := pKst f_222_23 (by decide)
theorem f_222_24 : oFet 222 24 = some (.aload_n 0, 1) := by decide +kernel
theorem s_222_24 {d : Nat} {l1 l2 l3 l4 : oV} {a : Nat} {S : List oV} {σ : oSg} {Q : Option oV → (Nat → oC) → Prop} : oE d 222 24 [.inr (.inr (.inl a)), l1, l2, l3, l4] S σ Q = oE d 222 25 [.inr (.inr (.inl a)), l1, l2, l3, l4] (.inr (.inr (.inl a)) :: S) σ Q := pLdN (k := 0) f_222_24 rfl rfl rfl
theorem f_222_25 : oFet 222 25 = some (.getfield 45, 3) := by decide +kernel
theorem s_222_25 {d : Nat} {l0 l1 l2 l3 l4 : oV} {a : Nat} {S : List oV} {σ : oSg} {Q : Option oV → (Nat → oC) → Prop} (hk : oKd a = some 11) : oE d 222 25 [l0, l1, l2, l3, l4] (.inr (.inr (.inl a)) :: S) σ Q = oE d 222 28 [l0, l1, l2, l3, l4] (.inr (.inr (.inl (oRf a 21))) :: S) σ Q := pGfR f_222_25 ow_222 fl_11_45 rfl (by decide) hk
theorem f_222_28 : oFet 222 28 = some (.iload_n 1, 1) := by decide +kernel
theorem s_222_28 {d : Nat} {l0 l2 l3 l4 : oV} {x : Int} {S : List oV} {σ : oSg} {Q : Option oV → (Nat → oC) → Prop} : oE d 222 28 [l0, .inl x, l2, l3, l4] S σ Q = oE d 222 29 [l0, .inl x, l2, l3, l4] (.inl x :: S) σ Q := pLdN (k := 1) f_222_28 rfl rfl rfl
theorem f_222_29 : oFet 222 29 = some (.iaload, 1) := by decide +kernel
theorem s_222_29 {d : Nat} {l0 l1 l2 l3 l4 : oV} {a : Nat} {i : Int} {S : List oV} {σ : oSg} {Q : Option oV → (Nat → oC) → Prop} (hk : oAk a = some 0) (h0 : 0 ≤ i) (h1 : i < (oLn a : Int)) : oE d 222 29 [l0, l1, l2, l3, l4] (.inl i :: .inr (.inr (.inl a)) :: S) σ Q = oE d 222 30 [l0, l1, l2, l3, l4] (.inl (σ.2 a i.toNat) :: S) σ Q := oIal f_222_29 hk h0 h1
theorem f_222_30 : oFet 222 30 = some (.iconst 1, 1) := by decide +kernel
theorem s_222_30 {d : Nat} {l0 l1 l2 l3 l4 : oV} {S : List oV} {σ : oSg} {Q : Option oV → (Nat → oC) → Prop} : oE d 222 30 [l0, l1, l2, l3, l4] S σ Q = oE d 222 31 [l0, l1, l2, l3, l4] (.inl (1) :: S) σ Q := pKst f_222_30 (by decide)
theorem f_222_31 : oFet 222 31 = some (.isub, 1) := by decide +kernel
theorem s_222_31 {d : Nat} {l0 l1 l2 l3 l4 : oV} {x y : Int} {S : List oV} {σ : oSg} {Q : Option oV → (Nat → oC) → Prop} : oE d 222 31 [l0, l1, l2, l3, l4] (.inl y :: .inl x :: S) σ Q = oE d 222 32 [l0, l1, l2, l3, l4] (.inl (oSub x y) :: S) σ Q := oS3 f_222_31 rfl rfl rfl
theorem f_222_32 : oFet 222 32 = some (.invokestatic 57, 3) := by decide +kernel
theorem c_222_32 {d : Nat} {l0 l1 l2 l3 l4 : oV} {x0 x1 x2 : oV} {v : Option oV} {τ : oSg} {S : List oV} {σ : oSg} {Q : Option oV → (Nat → oC) → Prop} (hm : oMi d 146 [x0, x1, x2] σ v τ) (hs : oSmall S = true) : oE d 222 32 [l0, l1, l2, l3, l4] (x2 :: x1 :: x0 :: S) σ Q = oE d 222 35 [l0, l1, l2, l3, l4] (v.toList ++ S) τ Q := pCallS f_222_32 ow_222 lk_11_57 mt_146 rfl rfl rfl hs hm
theorem f_222_35 : oFet 222 35 = some (.ifCond .ne 6, 3) := by decide +kernel
theorem s_222_35 {d : Nat} {l0 l1 l2 l3 l4 : oV} {x : Int} {S : List oV} {σ : oSg} {Q : Option oV → (Nat → oC) → Prop} : oE d 222 35 [l0, l1, l2, l3, l4] (.inl x :: S) σ Q = if ¬ x = 0 then oE d 222 41 [l0, l1, l2, l3, l4] S σ Q else oE d 222 38 [l0, l1, l2, l3, l4] S σ Q := oIfNe f_222_35 (by decide)
theorem f_222_38 : oFet 222 38 = some (.bipush (-13), 2) := by decide +kernel
theorem s_222_38 {d : Nat} {l0 l1 l2 l3 l4 : oV} {S : List oV} {σ : oSg} {Q : Option oV → (Nat → oC) → Prop} : oE d 222 38 [l0, l1, l2, l3, l4] S σ Q = oE d 222 40 [l0, l1, l2, l3, l4] (.inl (-13) :: S) σ Q := pBip f_222_38 (by decide)
theorem f_222_40 : oFet 222 40 = some (.ireturn, 1) := by decide +kernel
theorem s_222_40 {d : Nat} {l0 l1 l2 l3 l4 : oV} {x : Int} {σ : oSg} {Q : Option oV → (Nat → oC) → Prop} : oE d 222 40 [l0, l1, l2, l3, l4] [.inl x] σ Q = Q (some (.inl x)) (oBld σ) := oIret f_222_40 rt_222
theorem f_222_41 : oFet 222 41 = some (.aload_n 0, 1) := by decide +kernel
theorem s_222_41 {d : Nat} {l1 l2 l3 l4 : oV} {a : Nat} {S : List oV} {σ : oSg} {Q : Option oV → (Nat → oC) → Prop} : oE d 222 41 [.inr (.inr (.inl a)), l1, l2, l3, l4] S σ Q = oE d 222 42 [.inr (.inr (.inl a)), l1, l2, l3, l4] (.inr (.inr (.inl a)) :: S) σ Q := pLdN (k := 0) f_222_41 rfl rfl rfl
theorem f_222_42 : oFet 222 42 = some (.getfield 50, 3) := by decide +kernel
theorem s_222_42 {d : Nat} {l0 l1 l2 l3 l4 : oV} {a : Nat} {S : List oV} {σ : oSg} {Q : Option oV → (Nat → oC) → Prop} (hk : oKd a = some 11) : oE d 222 42 [l0, l1, l2, l3, l4] (.inr (.inr (.inl a)) :: S) σ Q = oE d 222 45 [l0, l1, l2, l3, l4] (.inr (.inr (.inl (oRf a 22))) :: S) σ Q := pGfR f_222_42 ow_222 fl_11_50 rfl (by decide) hk
theorem f_222_45 : oFet 222 45 = some (.iload_n 1, 1) := by decide +kernel
theorem s_222_45 {d : Nat} {l0 l2 l3 l4 : oV} {x : Int} {S : List oV} {σ : oSg} {Q : Option oV → (Nat → oC) → Prop} : oE d 222 45 [l0, .inl x, l2, l3, l4] S σ Q = oE d 222 46 [l0, .inl x, l2, l3, l4] (.inl x :: S) σ Q := pLdN (k := 1) f_222_45 rfl rfl rfl
theorem f_222_46 : oFet 222 46 = some (.aaload, 1) := by decide +kernel
theorem s_222_46 {d : Nat} {l0 l1 l2 l3 l4 : oV} {a : Nat} {i : Int} {S : List oV} {σ : oSg} {Q : Option oV → (Nat → oC) → Prop} (hk : oAk a = some 4) (h0 : 0 ≤ i) (h1 : i < (oLn a : Int)) : oE d 222 46 [l0, l1, l2, l3, l4] (.inl i :: .inr (.inr (.inl a)) :: S) σ Q = oE d 222 47 [l0, l1, l2, l3, l4] (.inr (.inr (.inl (oRe a i.toNat))) :: S) σ Q := oAal f_222_46 hk (by decide) h0 h1
theorem f_222_47 : oFet 222 47 = some (.iload_n 2, 1) := by decide +kernel
theorem s_222_47 {d : Nat} {l0 l1 l3 l4 : oV} {x : Int} {S : List oV} {σ : oSg} {Q : Option oV → (Nat → oC) → Prop} : oE d 222 47 [l0, l1, .inl x, l3, l4] S σ Q = oE d 222 48 [l0, l1, .inl x, l3, l4] (.inl x :: S) σ Q := pLdN (k := 2) f_222_47 rfl rfl rfl
theorem f_222_48 : oFet 222 48 = some (.aload_n 0, 1) := by decide +kernel
theorem s_222_48 {d : Nat} {l1 l2 l3 l4 : oV} {a : Nat} {S : List oV} {σ : oSg} {Q : Option oV → (Nat → oC) → Prop} : oE d 222 48 [.inr (.inr (.inl a)), l1, l2, l3, l4] S σ Q = oE d 222 49 [.inr (.inr (.inl a)), l1, l2, l3, l4] (.inr (.inr (.inl a)) :: S) σ Q := pLdN (k := 0) f_222_48 rfl rfl rfl
theorem f_222_49 : oFet 222 49 = some (.getfield 42, 3) := by decide +kernel
theorem s_222_49 {d : Nat} {l0 l1 l2 l3 l4 : oV} {a : Nat} {S : List oV} {σ : oSg} {Q : Option oV → (Nat → oC) → Prop} (hk : oKd a = some 11) : oE d 222 49 [l0, l1, l2, l3, l4] (.inr (.inr (.inl a)) :: S) σ Q = oE d 222 52 [l0, l1, l2, l3, l4] (.inr (.inr (.inl (oRf a 20))) :: S) σ Q := pGfR f_222_49 ow_222 fl_11_42 rfl (by decide) hk
theorem f_222_52 : oFet 222 52 = some (.iload_n 1, 1) := by decide +kernel
theorem s_222_52 {d : Nat} {l0 l2 l3 l4 : oV} {x : Int} {S : List oV} {σ : oSg} {Q : Option oV → (Nat → oC) → Prop} : oE d 222 52 [l0, .inl x, l2, l3, l4] S σ Q = oE d 222 53 [l0, .inl x, l2, l3, l4] (.inl x :: S) σ Q := pLdN (k := 1) f_222_52 rfl rfl rfl
theorem f_222_53 : oFet 222 53 = some (.iaload, 1) := by decide +kernel
theorem s_222_53 {d : Nat} {l0 l1 l2 l3 l4 : oV} {a : Nat} {i : Int} {S : List oV} {σ : oSg} {Q : Option oV → (Nat → oC) → Prop} (hk : oAk a = some 0) (h0 : 0 ≤ i) (h1 : i < (oLn a : Int)) : oE d 222 53 [l0, l1, l2, l3, l4] (.inl i :: .inr (.inr (.inl a)) :: S) σ Q = oE d 222 54 [l0, l1, l2, l3, l4] (.inl (σ.2 a i.toNat) :: S) σ Q := oIal f_222_53 hk h0 h1
theorem f_222_54 : oFet 222 54 = some (.lload_n 3, 1) := by decide +kernel
theorem s_222_54 {d : Nat} {l0 l1 l2 l4 : oV} {x : Int} {S : List oV} {σ : oSg} {Q : Option oV → (Nat → oC) → Prop} : oE d 222 54 [l0, l1, l2, .inr (.inl x), l4] S σ Q = oE d 222 55 [l0, l1, l2, .inr (.inl x), l4] (.inr (.inl x) :: S) σ Q := pLdN (k := 3) f_222_54 rfl rfl rfl
theorem f_222_55 : oFet 222 55 = some (.invokestatic 270, 3) := by decide +kernel
theorem c_222_55 {d : Nat} {l0 l1 l2 l3 l4 : oV} {x0 x1 : oV} {v : Option oV} {τ : oSg} {S : List oV} {σ : oSg} {Q : Option oV → (Nat → oC) → Prop} (hm : oMi d 223 [x0, x1] σ v τ) (hs : oSmall S = true) : oE d 222 55 [l0, l1, l2, l3, l4] (x1 :: x0 :: S) σ Q = oE d 222 58 [l0, l1, l2, l3, l4] (v.toList ++ S) τ Q := pCallS f_222_55 ow_222 lk_11_270 mt_223 rfl rfl rfl hs hm
theorem f_222_58 : oFet 222 58 = some (.lastore, 1) := by decide +kernel
theorem s_222_58 {d : Nat} {l0 l1 l2 l3 l4 : oV} {a : Nat} {i v : Int} {S : List oV} {σ : oSg} {Q : Option oV → (Nat → oC) → Prop} (hk : oAk a = some 1) (h0 : 0 ≤ i) (h1 : i < (oLn a : Int)) : oE d 222 58 [l0, l1, l2, l3, l4] (.inr (.inl v) :: .inl i :: .inr (.inr (.inl a)) :: S) σ Q = oE d 222 59 [l0, l1, l2, l3, l4] S (oSA σ a i.toNat v) Q := oLas f_222_58 hk h0 h1
theorem f_222_59 : oFet 222 59 = some (.iconst 1, 1) := by decide +kernel
theorem s_222_59 {d : Nat} {l0 l1 l2 l3 l4 : oV} {S : List oV} {σ : oSg} {Q : Option oV → (Nat → oC) → Prop} : oE d 222 59 [l0, l1, l2, l3, l4] S σ Q = oE d 222 60 [l0, l1, l2, l3, l4] (.inl (1) :: S) σ Q := pKst f_222_59 (by decide)
theorem f_222_60 : oFet 222 60 = some (.ireturn, 1) := by decide +kernel
theorem s_222_60 {d : Nat} {l0 l1 l2 l3 l4 : oV} {x : Int} {σ : oSg} {Q : Option oV → (Nat → oC) → Prop} : oE d 222 60 [l0, l1, l2, l3, l4] [.inl x] σ Q = Q (some (.inl x)) (oBld σ) := oIret f_222_60 rt_222
theorem ow_223 : (oMt 223).2.2.2.2.1 = 11 := by decide +kernel
theorem rt_223 : (oMt 223).2.2.2.1 = some .long := by decide +kernel
theorem nl_223 : (oMt 223).2.2.1 = 3 := by decide +kernel
theorem f_223_0 : oFet 223 0 = some (.iload_n 0, 1) := by decide +kernel
theorem s_223_0 {d : Nat} {l1 l2 : oV} {x : Int} {S : List oV} {σ : oSg} {Q : Option oV → (Nat → oC) → Prop} : oE d 223 0 [.inl x, l1, l2] S σ Q = oE d 223 1 [.inl x, l1, l2] (.inl x :: S) σ Q := pLdN (k := 0) f_223_0 rfl rfl rfl
theorem f_223_1 : oFet 223 1 = some (.tableswitch 47 0 3 #[31, 36, 41, 45], 31) := by decide +kernel
theorem s_223_1_0 {d : Nat} {l0 l1 l2 : oV} {S : List oV} {σ : oSg} {Q : Option oV → (Nat → oC) → Prop} : oE d 223 1 [l0, l1, l2] (.inl (0) :: S) σ Q = oE d 223 32 [l0, l1, l2] S σ Q := oTabIn f_223_1 (by decide) rfl (by decide)
theorem s_223_1_1 {d : Nat} {l0 l1 l2 : oV} {S : List oV} {σ : oSg} {Q : Option oV → (Nat → oC) → Prop} : oE d 223 1 [l0, l1, l2] (.inl (1) :: S) σ Q = oE d 223 37 [l0, l1, l2] S σ Q := oTabIn f_223_1 (by decide) rfl (by decide)
theorem s_223_1_2 {d : Nat} {l0 l1 l2 : oV} {S : List oV} {σ : oSg} {Q : Option oV → (Nat → oC) → Prop} : oE d 223 1 [l0, l1, l2] (.inl (2) :: S) σ Q = oE d 223 42 [l0, l1, l2] S σ Q := oTabIn f_223_1 (by decide) rfl (by decide)
theorem s_223_1_3 {d : Nat} {l0 l1 l2 : oV} {S : List oV} {σ : oSg} {Q : Option oV → (Nat → oC) → Prop} : oE d 223 1 [l0, l1, l2] (.inl (3) :: S) σ Q = oE d 223 46 [l0, l1, l2] S σ Q := oTabIn f_223_1 (by decide) rfl (by decide)
theorem s_223_1_d {d : Nat} {l0 l1 l2 : oV} {x : Int} {S : List oV} {σ : oSg} {Q : Option oV → (Nat → oC) → Prop} (hx : x < 0 ∨ 3 < x) : oE d 223 1 [l0, l1, l2] (.inl x :: S) σ Q = oE d 223 48 [l0, l1, l2] S σ Q := oTabOut f_223_1 hx (by decide)
theorem f_223_32 : oFet 223 32 = some (.lload_n 1, 1) := by decide +kernel
theorem s_223_32 {d : Nat} {l0 l2 : oV} {x : Int} {S : List oV} {σ : oSg} {Q : Option oV → (Nat → oC) → Prop} : oE d 223 32 [l0, .inr (.inl x), l2] S σ Q = oE d 223 33 [l0, .inr (.inl x), l2] (.inr (.inl x) :: S) σ Q := pLdN (k := 1) f_223_32 rfl rfl rfl
theorem f_223_33 : oFet 223 33 = some (.l2i, 1) := by decide +kernel
theorem s_223_33 {d : Nat} {l0 l1 l2 : oV} {x : Int} {S : List oV} {σ : oSg} {Q : Option oV → (Nat → oC) → Prop} : oE d 223 33 [l0, l1, l2] (.inr (.inl x) :: S) σ Q = oE d 223 34 [l0, l1, l2] (.inl (oL2i x) :: S) σ Q := oS4 f_223_33 rfl rfl rfl rfl
theorem f_223_34 : oFet 223 34 = some (.i2b, 1) := by decide +kernel
theorem s_223_34 {d : Nat} {l0 l1 l2 : oV} {x : Int} {S : List oV} {σ : oSg} {Q : Option oV → (Nat → oC) → Prop} : oE d 223 34 [l0, l1, l2] (.inl x :: S) σ Q = oE d 223 35 [l0, l1, l2] (.inl (oI2b x) :: S) σ Q := oS4 f_223_34 rfl rfl rfl rfl
theorem f_223_35 : oFet 223 35 = some (.i2l, 1) := by decide +kernel
theorem s_223_35 {d : Nat} {l0 l1 l2 : oV} {x : Int} {S : List oV} {σ : oSg} {Q : Option oV → (Nat → oC) → Prop} : oE d 223 35 [l0, l1, l2] (.inl x :: S) σ Q = oE d 223 36 [l0, l1, l2] (.inr (.inl x) :: S) σ Q := oS4 f_223_35 rfl rfl rfl rfl
theorem f_223_36 : oFet 223 36 = some (.lreturn, 1) := by decide +kernel
theorem s_223_36 {d : Nat} {l0 l1 l2 : oV} {x : Int} {σ : oSg} {Q : Option oV → (Nat → oC) → Prop} : oE d 223 36 [l0, l1, l2] [.inr (.inl x)] σ Q = Q (some (.inr (.inl x))) (oBld σ) := oLret f_223_36 rt_223
theorem f_223_37 : oFet 223 37 = some (.lload_n 1, 1) := by decide +kernel
theorem s_223_37 {d : Nat} {l0 l2 : oV} {x : Int} {S : List oV} {σ : oSg} {Q : Option oV → (Nat → oC) → Prop} : oE d 223 37 [l0, .inr (.inl x), l2] S σ Q = oE d 223 38 [l0, .inr (.inl x), l2] (.inr (.inl x) :: S) σ Q := pLdN (k := 1) f_223_37 rfl rfl rfl
theorem f_223_38 : oFet 223 38 = some (.l2i, 1) := by decide +kernel
theorem s_223_38 {d : Nat} {l0 l1 l2 : oV} {x : Int} {S : List oV} {σ : oSg} {Q : Option oV → (Nat → oC) → Prop} : oE d 223 38 [l0, l1, l2] (.inr (.inl x) :: S) σ Q = oE d 223 39 [l0, l1, l2] (.inl (oL2i x) :: S) σ Q := oS4 f_223_38 rfl rfl rfl rfl
theorem f_223_39 : oFet 223 39 = some (.i2s, 1) := by decide +kernel
theorem s_223_39 {d : Nat} {l0 l1 l2 : oV} {x : Int} {S : List oV} {σ : oSg} {Q : Option oV → (Nat → oC) → Prop} : oE d 223 39 [l0, l1, l2] (.inl x :: S) σ Q = oE d 223 40 [l0, l1, l2] (.inl (oI2s x) :: S) σ Q := oS4 f_223_39 rfl rfl rfl rfl
theorem f_223_40 : oFet 223 40 = some (.i2l, 1) := by decide +kernel
theorem s_223_40 {d : Nat} {l0 l1 l2 : oV} {x : Int} {S : List oV} {σ : oSg} {Q : Option oV → (Nat → oC) → Prop} : oE d 223 40 [l0, l1, l2] (.inl x :: S) σ Q = oE d 223 41 [l0, l1, l2] (.inr (.inl x) :: S) σ Q := oS4 f_223_40 rfl rfl rfl rfl
theorem f_223_41 : oFet 223 41 = some (.lreturn, 1) := by decide +kernel
theorem s_223_41 {d : Nat} {l0 l1 l2 : oV} {x : Int} {σ : oSg} {Q : Option oV → (Nat → oC) → Prop} : oE d 223 41 [l0, l1, l2] [.inr (.inl x)] σ Q = Q (some (.inr (.inl x))) (oBld σ) := oLret f_223_41 rt_223
theorem f_223_42 : oFet 223 42 = some (.lload_n 1, 1) := by decide +kernel
theorem s_223_42 {d : Nat} {l0 l2 : oV} {x : Int} {S : List oV} {σ : oSg} {Q : Option oV → (Nat → oC) → Prop} : oE d 223 42 [l0, .inr (.inl x), l2] S σ Q = oE d 223 43 [l0, .inr (.inl x), l2] (.inr (.inl x) :: S) σ Q := pLdN (k := 1) f_223_42 rfl rfl rfl
theorem f_223_43 : oFet 223 43 = some (.l2i, 1) := by decide +kernel
theorem s_223_43 {d : Nat} {l0 l1 l2 : oV} {x : Int} {S : List oV} {σ : oSg} {Q : Option oV → (Nat → oC) → Prop} : oE d 223 43 [l0, l1, l2] (.inr (.inl x) :: S) σ Q = oE d 223 44 [l0, l1, l2] (.inl (oL2i x) :: S) σ Q := oS4 f_223_43 rfl rfl rfl rfl
theorem f_223_44 : oFet 223 44 = some (.i2l, 1) := by decide +kernel
theorem s_223_44 {d : Nat} {l0 l1 l2 : oV} {x : Int} {S : List oV} {σ : oSg} {Q : Option oV → (Nat → oC) → Prop} : oE d 223 44 [l0, l1, l2] (.inl x :: S) σ Q = oE d 223 45 [l0, l1, l2] (.inr (.inl x) :: S) σ Q := oS4 f_223_44 rfl rfl rfl rfl
theorem f_223_45 : oFet 223 45 = some (.lreturn, 1) := by decide +kernel
theorem s_223_45 {d : Nat} {l0 l1 l2 : oV} {x : Int} {σ : oSg} {Q : Option oV → (Nat → oC) → Prop} : oE d 223 45 [l0, l1, l2] [.inr (.inl x)] σ Q = Q (some (.inr (.inl x))) (oBld σ) := oLret f_223_45 rt_223
theorem f_223_46 : oFet 223 46 = some (.lload_n 1, 1) := by decide +kernel
theorem s_223_46 {d : Nat} {l0 l2 : oV} {x : Int} {S : List oV} {σ : oSg} {Q : Option oV → (Nat → oC) → Prop} : oE d 223 46 [l0, .inr (.inl x), l2] S σ Q = oE d 223 47 [l0, .inr (.inl x), l2] (.inr (.inl x) :: S) σ Q := pLdN (k := 1) f_223_46 rfl rfl rfl
theorem f_223_47 : oFet 223 47 = some (.lreturn, 1) := by decide +kernel
theorem s_223_47 {d : Nat} {l0 l1 l2 : oV} {x : Int} {σ : oSg} {Q : Option oV → (Nat → oC) → Prop} : oE d 223 47 [l0, l1, l2] [.inr (.inl x)] σ Q = Q (some (.inr (.inl x))) (oBld σ) := oLret f_223_47 rt_223
theorem f_223_48 : oFet 223 48 = some (.lload_n 1, 1) := by decide +kernel
theorem s_223_48 {d : Nat} {l0 l2 : oV} {x : Int} {S : List oV} {σ : oSg} {Q : Option oV → (Nat → oC) → Prop} : oE d 223 48 [l0, .inr (.inl x), l2] S σ Q = oE d 223 49 [l0, .inr (.inl x), l2] (.inr (.inl x) :: S) σ Q := pLdN (k := 1) f_223_48 rfl rfl rfl
theorem f_223_49 : oFet 223 49 = some (.lconst 0, 1) := by decide +kernel
theorem s_223_49 {d : Nat} {l0 l1 l2 : oV} {S : List oV} {σ : oSg} {Q : Option oV → (Nat → oC) → Prop} : oE d 223 49 [l0, l1, l2] S σ Q = oE d 223 50 [l0, l1, l2] (.inr (.inl 0) :: S) σ Q := pLcs f_223_49
theorem f_223_50 : oFet 223 50 = some (.lcmp, 1) := by decide +kernel
theorem s_223_50 {d : Nat} {l0 l1 l2 : oV} {x y : Int} {S : List oV} {σ : oSg} {Q : Option oV → (Nat → oC) → Prop} : oE d 223 50 [l0, l1, l2] (.inr (.inl y) :: .inr (.inl x) :: S) σ Q = oE d 223 51 [l0, l1, l2] (.inl (oLcmp x y) :: S) σ Q := oS4 f_223_50 rfl rfl rfl rfl
theorem f_223_51 : oFet 223 51 = some (.ifCond .eq 7, 3) := by decide +kernel
theorem s_223_51 {d : Nat} {l0 l1 l2 : oV} {x : Int} {S : List oV} {σ : oSg} {Q : Option oV → (Nat → oC) → Prop} : oE d 223 51 [l0, l1, l2] (.inl x :: S) σ Q = if x = 0 then oE d 223 58 [l0, l1, l2] S σ Q else oE d 223 54 [l0, l1, l2] S σ Q := oIfEq f_223_51 (by decide)
theorem f_223_54 : oFet 223 54 = some (.lconst 1, 1) := by decide +kernel
theorem s_223_54 {d : Nat} {l0 l1 l2 : oV} {S : List oV} {σ : oSg} {Q : Option oV → (Nat → oC) → Prop} : oE d 223 54 [l0, l1, l2] S σ Q = oE d 223 55 [l0, l1, l2] (.inr (.inl 1) :: S) σ Q := pLcs f_223_54
theorem f_223_55 : oFet 223 55 = some (.goto 4, 3) := by decide +kernel
theorem s_223_55 {d : Nat} {l0 l1 l2 : oV} {S : List oV} {σ : oSg} {Q : Option oV → (Nat → oC) → Prop} : oE d 223 55 [l0, l1, l2] S σ Q = oE d 223 59 [l0, l1, l2] S σ Q := pGoto f_223_55 (by decide)
theorem f_223_58 : oFet 223 58 = some (.lconst 0, 1) := by decide +kernel
theorem s_223_58 {d : Nat} {l0 l1 l2 : oV} {S : List oV} {σ : oSg} {Q : Option oV → (Nat → oC) → Prop} : oE d 223 58 [l0, l1, l2] S σ Q = oE d 223 59 [l0, l1, l2] (.inr (.inl 0) :: S) σ Q := pLcs f_223_58
theorem f_223_59 : oFet 223 59 = some (.lreturn, 1) := by decide +kernel
theorem s_223_59 {d : Nat} {l0 l1 l2 : oV} {x : Int} {σ : oSg} {Q : Option oV → (Nat → oC) → Prop} : oE d 223 59 [l0, l1, l2] [.inr (.inl x)] σ Q = Q (some (.inr (.inl x))) (oBld σ) := oLret f_223_59 rt_223
theorem ow_224 : (oMt 224).2.2.2.2.1 = 11 := by decide +kernel
theorem rt_224 : (oMt 224).2.2.2.1 = some .long := by decide +kernel
theorem nl_224 : (oMt 224).2.2.1 = 3 := by decide +kernel
theorem f_224_0 : oFet 224 0 = some (.iload_n 1, 1) := by decide +kernel
theorem s_224_0 {d : Nat} {l0 l2 : oV} {x : Int} {S : List oV} {σ : oSg} {Q : Option oV → (Nat → oC) → Prop} : oE d 224 0 [l0, .inl x, l2] S σ Q = oE d 224 1 [l0, .inl x, l2] (.inl x :: S) σ Q := pLdN (k := 1) f_224_0 rfl rfl rfl
theorem f_224_1 : oFet 224 1 = some (.invokestatic 263, 3) := by decide +kernel
theorem c_224_1 {d : Nat} {l0 l1 l2 : oV} {x0 : oV} {v : Option oV} {τ : oSg} {S : List oV} {σ : oSg} {Q : Option oV → (Nat → oC) → Prop} (hm : oMi d 217 [x0] σ v τ) (hs : oSmall S = true) : oE d 224 1 [l0, l1, l2] (x0 :: S) σ Q = oE d 224 4 [l0, l1, l2] (v.toList ++ S) τ Q := pCallS f_224_1 ow_224 lk_11_263 mt_217 rfl rfl rfl hs hm
theorem f_224_4 : oFet 224 4 = some (.ifCond .eq 30, 3) := by decide +kernel
theorem s_224_4 {d : Nat} {l0 l1 l2 : oV} {x : Int} {S : List oV} {σ : oSg} {Q : Option oV → (Nat → oC) → Prop} : oE d 224 4 [l0, l1, l2] (.inl x :: S) σ Q = if x = 0 then oE d 224 34 [l0, l1, l2] S σ Q else oE d 224 7 [l0, l1, l2] S σ Q := oIfEq f_224_4 (by decide)
theorem f_224_7 : oFet 224 7 = some (.iload_n 2, 1) := by decide +kernel
theorem s_224_7 {d : Nat} {l0 l1 : oV} {x : Int} {S : List oV} {σ : oSg} {Q : Option oV → (Nat → oC) → Prop} : oE d 224 7 [l0, l1, .inl x] S σ Q = oE d 224 8 [l0, l1, .inl x] (.inl x :: S) σ Q := pLdN (k := 2) f_224_7 rfl rfl rfl
theorem f_224_8 : oFet 224 8 = some (.iconst 0, 1) := by decide +kernel
theorem s_224_8 {d : Nat} {l0 l1 l2 : oV} {S : List oV} {σ : oSg} {Q : Option oV → (Nat → oC) → Prop} : oE d 224 8 [l0, l1, l2] S σ Q = oE d 224 9 [l0, l1, l2] (.inl (0) :: S) σ Q := pKst f_224_8 (by decide)
theorem f_224_9 : oFet 224 9 = some (.aload_n 0, 1) := by decide +kernel
theorem s_224_9 {d : Nat} {l1 l2 : oV} {a : Nat} {S : List oV} {σ : oSg} {Q : Option oV → (Nat → oC) → Prop} : oE d 224 9 [.inr (.inr (.inl a)), l1, l2] S σ Q = oE d 224 10 [.inr (.inr (.inl a)), l1, l2] (.inr (.inr (.inl a)) :: S) σ Q := pLdN (k := 0) f_224_9 rfl rfl rfl
theorem f_224_10 : oFet 224 10 = some (.getfield 45, 3) := by decide +kernel
theorem s_224_10 {d : Nat} {l0 l1 l2 : oV} {a : Nat} {S : List oV} {σ : oSg} {Q : Option oV → (Nat → oC) → Prop} (hk : oKd a = some 11) : oE d 224 10 [l0, l1, l2] (.inr (.inr (.inl a)) :: S) σ Q = oE d 224 13 [l0, l1, l2] (.inr (.inr (.inl (oRf a 21))) :: S) σ Q := pGfR f_224_10 ow_224 fl_11_45 rfl (by decide) hk
theorem f_224_13 : oFet 224 13 = some (.iload_n 1, 1) := by decide +kernel
theorem s_224_13 {d : Nat} {l0 l2 : oV} {x : Int} {S : List oV} {σ : oSg} {Q : Option oV → (Nat → oC) → Prop} : oE d 224 13 [l0, .inl x, l2] S σ Q = oE d 224 14 [l0, .inl x, l2] (.inl x :: S) σ Q := pLdN (k := 1) f_224_13 rfl rfl rfl
theorem f_224_14 : oFet 224 14 = some (.iaload, 1) := by decide +kernel
theorem s_224_14 {d : Nat} {l0 l1 l2 : oV} {a : Nat} {i : Int} {S : List oV} {σ : oSg} {Q : Option oV → (Nat → oC) → Prop} (hk : oAk a = some 0) (h0 : 0 ≤ i) (h1 : i < (oLn a : Int)) : oE d 224 14 [l0, l1, l2] (.inl i :: .inr (.inr (.inl a)) :: S) σ Q = oE d 224 15 [l0, l1, l2] (.inl (σ.2 a i.toNat) :: S) σ Q := oIal f_224_14 hk h0 h1
theorem f_224_15 : oFet 224 15 = some (.iconst 1, 1) := by decide +kernel
theorem s_224_15 {d : Nat} {l0 l1 l2 : oV} {S : List oV} {σ : oSg} {Q : Option oV → (Nat → oC) → Prop} : oE d 224 15 [l0, l1, l2] S σ Q = oE d 224 16 [l0, l1, l2] (.inl (1) :: S) σ Q := pKst f_224_15 (by decide)
theorem f_224_16 : oFet 224 16 = some (.isub, 1) := by decide +kernel
theorem s_224_16 {d : Nat} {l0 l1 l2 : oV} {x y : Int} {S : List oV} {σ : oSg} {Q : Option oV → (Nat → oC) → Prop} : oE d 224 16 [l0, l1, l2] (.inl y :: .inl x :: S) σ Q = oE d 224 17 [l0, l1, l2] (.inl (oSub x y) :: S) σ Q := oS3 f_224_16 rfl rfl rfl
theorem f_224_17 : oFet 224 17 = some (.invokestatic 57, 3) := by decide +kernel
theorem c_224_17 {d : Nat} {l0 l1 l2 : oV} {x0 x1 x2 : oV} {v : Option oV} {τ : oSg} {S : List oV} {σ : oSg} {Q : Option oV → (Nat → oC) → Prop} (hm : oMi d 146 [x0, x1, x2] σ v τ) (hs : oSmall S = true) : oE d 224 17 [l0, l1, l2] (x2 :: x1 :: x0 :: S) σ Q = oE d 224 20 [l0, l1, l2] (v.toList ++ S) τ Q := pCallS f_224_17 ow_224 lk_11_57 mt_146 rfl rfl rfl hs hm
theorem f_224_20 : oFet 224 20 = some (.ifCond .eq 14, 3) := by decide +kernel
theorem s_224_20 {d : Nat} {l0 l1 l2 : oV} {x : Int} {S : List oV} {σ : oSg} {Q : Option oV → (Nat → oC) → Prop} : oE d 224 20 [l0, l1, l2] (.inl x :: S) σ Q = if x = 0 then oE d 224 34 [l0, l1, l2] S σ Q else oE d 224 23 [l0, l1, l2] S σ Q := oIfEq f_224_20 (by decide)
theorem f_224_23 : oFet 224 23 = some (.aload_n 0, 1) := by decide +kernel
theorem s_224_23 {d : Nat} {l1 l2 : oV} {a : Nat} {S : List oV} {σ : oSg} {Q : Option oV → (Nat → oC) → Prop} : oE d 224 23 [.inr (.inr (.inl a)), l1, l2] S σ Q = oE d 224 24 [.inr (.inr (.inl a)), l1, l2] (.inr (.inr (.inl a)) :: S) σ Q := pLdN (k := 0) f_224_23 rfl rfl rfl
theorem f_224_24 : oFet 224 24 = some (.getfield 50, 3) := by decide +kernel
theorem s_224_24 {d : Nat} {l0 l1 l2 : oV} {a : Nat} {S : List oV} {σ : oSg} {Q : Option oV → (Nat → oC) → Prop} (hk : oKd a = some 11) : oE d 224 24 [l0, l1, l2] (.inr (.inr (.inl a)) :: S) σ Q = oE d 224 27 [l0, l1, l2] (.inr (.inr (.inl (oRf a 22))) :: S) σ Q := pGfR f_224_24 ow_224 fl_11_50 rfl (by decide) hk
theorem f_224_27 : oFet 224 27 = some (.iload_n 1, 1) := by decide +kernel
theorem s_224_27 {d : Nat} {l0 l2 : oV} {x : Int} {S : List oV} {σ : oSg} {Q : Option oV → (Nat → oC) → Prop} : oE d 224 27 [l0, .inl x, l2] S σ Q = oE d 224 28 [l0, .inl x, l2] (.inl x :: S) σ Q := pLdN (k := 1) f_224_27 rfl rfl rfl
theorem f_224_28 : oFet 224 28 = some (.aaload, 1) := by decide +kernel
theorem s_224_28 {d : Nat} {l0 l1 l2 : oV} {a : Nat} {i : Int} {S : List oV} {σ : oSg} {Q : Option oV → (Nat → oC) → Prop} (hk : oAk a = some 4) (h0 : 0 ≤ i) (h1 : i < (oLn a : Int)) : oE d 224 28 [l0, l1, l2] (.inl i :: .inr (.inr (.inl a)) :: S) σ Q = oE d 224 29 [l0, l1, l2] (.inr (.inr (.inl (oRe a i.toNat))) :: S) σ Q := oAal f_224_28 hk (by decide) h0 h1
theorem f_224_29 : oFet 224 29 = some (.iload_n 2, 1) := by decide +kernel
theorem s_224_29 {d : Nat} {l0 l1 : oV} {x : Int} {S : List oV} {σ : oSg} {Q : Option oV → (Nat → oC) → Prop} : oE d 224 29 [l0, l1, .inl x] S σ Q = oE d 224 30 [l0, l1, .inl x] (.inl x :: S) σ Q := pLdN (k := 2) f_224_29 rfl rfl rfl
theorem f_224_30 : oFet 224 30 = some (.laload, 1) := by decide +kernel
theorem s_224_30 {d : Nat} {l0 l1 l2 : oV} {a : Nat} {i : Int} {S : List oV} {σ : oSg} {Q : Option oV → (Nat → oC) → Prop} (hk : oAk a = some 1) (h0 : 0 ≤ i) (h1 : i < (oLn a : Int)) : oE d 224 30 [l0, l1, l2] (.inl i :: .inr (.inr (.inl a)) :: S) σ Q = oE d 224 31 [l0, l1, l2] (.inr (.inl (σ.2 a i.toNat)) :: S) σ Q := oLal f_224_30 hk h0 h1
theorem f_224_31 : oFet 224 31 = some (.goto 6, 3) := by decide +kernel
theorem s_224_31 {d : Nat} {l0 l1 l2 : oV} {S : List oV} {σ : oSg} {Q : Option oV → (Nat → oC) → Prop} : oE d 224 31 [l0, l1, l2] S σ Q = oE d 224 37 [l0, l1, l2] S σ Q := pGoto f_224_31 (by decide)
theorem f_224_34 : oFet 224 34 = some (.ldc2_w 245, 3) := by decide +kernel
theorem s_224_34 {d : Nat} {l0 l1 l2 : oV} {S : List oV} {σ : oSg} {Q : Option oV → (Nat → oC) → Prop} : oE d 224 34 [l0, l1, l2] S σ Q = oE d 224 37 [l0, l1, l2] (.inr (.inl (-9223372036854775808)) :: S) σ Q := pLdc2 f_224_34 ow_224 (by decide +kernel)
theorem f_224_37 : oFet 224 37 = some (.lreturn, 1) := by decide +kernel
theorem s_224_37 {d : Nat} {l0 l1 l2 : oV} {x : Int} {σ : oSg} {Q : Option oV → (Nat → oC) → Prop} : oE d 224 37 [l0, l1, l2] [.inr (.inl x)] σ Q = Q (some (.inr (.inl x))) (oBld σ) := oLret f_224_37 rt_224
theorem ow_225 : (oMt 225).2.2.2.2.1 = 11 := by decide +kernel
theorem rt_225 : (oMt 225).2.2.2.1 = some .int := by decide +kernel
theorem nl_225 : (oMt 225).2.2.1 = 6 := by decide +kernel
theorem f_225_0 : oFet 225 0 = some (.iload_n 1, 1) := by decide +kernel
theorem s_225_0 {d : Nat} {l0 l2 l3 l4 l5 : oV} {x : Int} {S : List oV} {σ : oSg} {Q : Option oV → (Nat → oC) → Prop} : oE d 225 0 [l0, .inl x, l2, l3, l4, l5] S σ Q = oE d 225 1 [l0, .inl x, l2, l3, l4, l5] (.inl x :: S) σ Q := pLdN (k := 1) f_225_0 rfl rfl rfl
theorem f_225_1 : oFet 225 1 = some (.invokestatic 263, 3) := by decide +kernel
theorem c_225_1 {d : Nat} {l0 l1 l2 l3 l4 l5 : oV} {x0 : oV} {v : Option oV} {τ : oSg} {S : List oV} {σ : oSg} {Q : Option oV → (Nat → oC) → Prop} (hm : oMi d 217 [x0] σ v τ) (hs : oSmall S = true) : oE d 225 1 [l0, l1, l2, l3, l4, l5] (x0 :: S) σ Q = oE d 225 4 [l0, l1, l2, l3, l4, l5] (v.toList ++ S) τ Q := pCallS f_225_1 ow_225 lk_11_263 mt_217 rfl rfl rfl hs hm
theorem f_225_4 : oFet 225 4 = some (.ifCond .eq 10, 3) := by decide +kernel
theorem s_225_4 {d : Nat} {l0 l1 l2 l3 l4 l5 : oV} {x : Int} {S : List oV} {σ : oSg} {Q : Option oV → (Nat → oC) → Prop} : oE d 225 4 [l0, l1, l2, l3, l4, l5] (.inl x :: S) σ Q = if x = 0 then oE d 225 14 [l0, l1, l2, l3, l4, l5] S σ Q else oE d 225 7 [l0, l1, l2, l3, l4, l5] S σ Q := oIfEq f_225_4 (by decide)
theorem f_225_7 : oFet 225 7 = some (.iload_n 3, 1) := by decide +kernel
theorem s_225_7 {d : Nat} {l0 l1 l2 l4 l5 : oV} {x : Int} {S : List oV} {σ : oSg} {Q : Option oV → (Nat → oC) → Prop} : oE d 225 7 [l0, l1, l2, .inl x, l4, l5] S σ Q = oE d 225 8 [l0, l1, l2, .inl x, l4, l5] (.inl x :: S) σ Q := pLdN (k := 3) f_225_7 rfl rfl rfl
theorem f_225_8 : oFet 225 8 = some (.invokestatic 263, 3) := by decide +kernel
theorem c_225_8 {d : Nat} {l0 l1 l2 l3 l4 l5 : oV} {x0 : oV} {v : Option oV} {τ : oSg} {S : List oV} {σ : oSg} {Q : Option oV → (Nat → oC) → Prop} (hm : oMi d 217 [x0] σ v τ) (hs : oSmall S = true) : oE d 225 8 [l0, l1, l2, l3, l4, l5] (x0 :: S) σ Q = oE d 225 11 [l0, l1, l2, l3, l4, l5] (v.toList ++ S) τ Q := pCallS f_225_8 ow_225 lk_11_263 mt_217 rfl rfl rfl hs hm
theorem f_225_11 : oFet 225 11 = some (.ifCond .ne 5, 3) := by decide +kernel
theorem s_225_11 {d : Nat} {l0 l1 l2 l3 l4 l5 : oV} {x : Int} {S : List oV} {σ : oSg} {Q : Option oV → (Nat → oC) → Prop} : oE d 225 11 [l0, l1, l2, l3, l4, l5] (.inl x :: S) σ Q = if ¬ x = 0 then oE d 225 16 [l0, l1, l2, l3, l4, l5] S σ Q else oE d 225 14 [l0, l1, l2, l3, l4, l5] S σ Q := oIfNe f_225_11 (by decide)
theorem f_225_14 : oFet 225 14 = some (.iconst (-1), 1) := by decide +kernel
theorem s_225_14 {d : Nat} {l0 l1 l2 l3 l4 l5 : oV} {S : List oV} {σ : oSg} {Q : Option oV → (Nat → oC) → Prop} : oE d 225 14 [l0, l1, l2, l3, l4, l5] S σ Q = oE d 225 15 [l0, l1, l2, l3, l4, l5] (.inl (-1) :: S) σ Q := pKst f_225_14 (by decide)
theorem f_225_15 : oFet 225 15 = some (.ireturn, 1) := by decide +kernel
theorem s_225_15 {d : Nat} {l0 l1 l2 l3 l4 l5 : oV} {x : Int} {σ : oSg} {Q : Option oV → (Nat → oC) → Prop} : oE d 225 15 [l0, l1, l2, l3, l4, l5] [.inl x] σ Q = Q (some (.inl x)) (oBld σ) := oIret f_225_15 rt_225
theorem f_225_16 : oFet 225 16 = some (.aload_n 0, 1) := by decide +kernel
theorem s_225_16 {d : Nat} {l1 l2 l3 l4 l5 : oV} {a : Nat} {S : List oV} {σ : oSg} {Q : Option oV → (Nat → oC) → Prop} : oE d 225 16 [.inr (.inr (.inl a)), l1, l2, l3, l4, l5] S σ Q = oE d 225 17 [.inr (.inr (.inl a)), l1, l2, l3, l4, l5] (.inr (.inr (.inl a)) :: S) σ Q := pLdN (k := 0) f_225_16 rfl rfl rfl
theorem f_225_17 : oFet 225 17 = some (.getfield 42, 3) := by decide +kernel
theorem s_225_17 {d : Nat} {l0 l1 l2 l3 l4 l5 : oV} {a : Nat} {S : List oV} {σ : oSg} {Q : Option oV → (Nat → oC) → Prop} (hk : oKd a = some 11) : oE d 225 17 [l0, l1, l2, l3, l4, l5] (.inr (.inr (.inl a)) :: S) σ Q = oE d 225 20 [l0, l1, l2, l3, l4, l5] (.inr (.inr (.inl (oRf a 20))) :: S) σ Q := pGfR f_225_17 ow_225 fl_11_42 rfl (by decide) hk
theorem f_225_20 : oFet 225 20 = some (.iload_n 1, 1) := by decide +kernel
theorem s_225_20 {d : Nat} {l0 l2 l3 l4 l5 : oV} {x : Int} {S : List oV} {σ : oSg} {Q : Option oV → (Nat → oC) → Prop} : oE d 225 20 [l0, .inl x, l2, l3, l4, l5] S σ Q = oE d 225 21 [l0, .inl x, l2, l3, l4, l5] (.inl x :: S) σ Q := pLdN (k := 1) f_225_20 rfl rfl rfl
theorem f_225_21 : oFet 225 21 = some (.iaload, 1) := by decide +kernel
theorem s_225_21 {d : Nat} {l0 l1 l2 l3 l4 l5 : oV} {a : Nat} {i : Int} {S : List oV} {σ : oSg} {Q : Option oV → (Nat → oC) → Prop} (hk : oAk a = some 0) (h0 : 0 ≤ i) (h1 : i < (oLn a : Int)) : oE d 225 21 [l0, l1, l2, l3, l4, l5] (.inl i :: .inr (.inr (.inl a)) :: S) σ Q = oE d 225 22 [l0, l1, l2, l3, l4, l5] (.inl (σ.2 a i.toNat) :: S) σ Q := oIal f_225_21 hk h0 h1
theorem f_225_22 : oFet 225 22 = some (.iconst (-1), 1) := by decide +kernel
theorem s_225_22 {d : Nat} {l0 l1 l2 l3 l4 l5 : oV} {S : List oV} {σ : oSg} {Q : Option oV → (Nat → oC) → Prop} : oE d 225 22 [l0, l1, l2, l3, l4, l5] S σ Q = oE d 225 23 [l0, l1, l2, l3, l4, l5] (.inl (-1) :: S) σ Q := pKst f_225_22 (by decide)
theorem f_225_23 : oFet 225 23 = some (.if_icmp .eq 13, 3) := by decide +kernel
theorem s_225_23 {d : Nat} {l0 l1 l2 l3 l4 l5 : oV} {x y : Int} {S : List oV} {σ : oSg} {Q : Option oV → (Nat → oC) → Prop} : oE d 225 23 [l0, l1, l2, l3, l4, l5] (.inl y :: .inl x :: S) σ Q = if x = y then oE d 225 36 [l0, l1, l2, l3, l4, l5] S σ Q else oE d 225 26 [l0, l1, l2, l3, l4, l5] S σ Q := oCmpEq f_225_23 (by decide)
theorem f_225_26 : oFet 225 26 = some (.aload_n 0, 1) := by decide +kernel
theorem s_225_26 {d : Nat} {l1 l2 l3 l4 l5 : oV} {a : Nat} {S : List oV} {σ : oSg} {Q : Option oV → (Nat → oC) → Prop} : oE d 225 26 [.inr (.inr (.inl a)), l1, l2, l3, l4, l5] S σ Q = oE d 225 27 [.inr (.inr (.inl a)), l1, l2, l3, l4, l5] (.inr (.inr (.inl a)) :: S) σ Q := pLdN (k := 0) f_225_26 rfl rfl rfl
theorem f_225_27 : oFet 225 27 = some (.getfield 42, 3) := by decide +kernel
theorem s_225_27 {d : Nat} {l0 l1 l2 l3 l4 l5 : oV} {a : Nat} {S : List oV} {σ : oSg} {Q : Option oV → (Nat → oC) → Prop} (hk : oKd a = some 11) : oE d 225 27 [l0, l1, l2, l3, l4, l5] (.inr (.inr (.inl a)) :: S) σ Q = oE d 225 30 [l0, l1, l2, l3, l4, l5] (.inr (.inr (.inl (oRf a 20))) :: S) σ Q := pGfR f_225_27 ow_225 fl_11_42 rfl (by decide) hk
theorem f_225_30 : oFet 225 30 = some (.iload_n 3, 1) := by decide +kernel
theorem s_225_30 {d : Nat} {l0 l1 l2 l4 l5 : oV} {x : Int} {S : List oV} {σ : oSg} {Q : Option oV → (Nat → oC) → Prop} : oE d 225 30 [l0, l1, l2, .inl x, l4, l5] S σ Q = oE d 225 31 [l0, l1, l2, .inl x, l4, l5] (.inl x :: S) σ Q := pLdN (k := 3) f_225_30 rfl rfl rfl
theorem f_225_31 : oFet 225 31 = some (.iaload, 1) := by decide +kernel
theorem s_225_31 {d : Nat} {l0 l1 l2 l3 l4 l5 : oV} {a : Nat} {i : Int} {S : List oV} {σ : oSg} {Q : Option oV → (Nat → oC) → Prop} (hk : oAk a = some 0) (h0 : 0 ≤ i) (h1 : i < (oLn a : Int)) : oE d 225 31 [l0, l1, l2, l3, l4, l5] (.inl i :: .inr (.inr (.inl a)) :: S) σ Q = oE d 225 32 [l0, l1, l2, l3, l4, l5] (.inl (σ.2 a i.toNat) :: S) σ Q := oIal f_225_31 hk h0 h1
theorem f_225_32 : oFet 225 32 = some (.iconst (-1), 1) := by decide +kernel
theorem s_225_32 {d : Nat} {l0 l1 l2 l3 l4 l5 : oV} {S : List oV} {σ : oSg} {Q : Option oV → (Nat → oC) → Prop} : oE d 225 32 [l0, l1, l2, l3, l4, l5] S σ Q = oE d 225 33 [l0, l1, l2, l3, l4, l5] (.inl (-1) :: S) σ Q := pKst f_225_32 (by decide)
theorem f_225_33 : oFet 225 33 = some (.if_icmp .ne 6, 3) := by decide +kernel
theorem s_225_33 {d : Nat} {l0 l1 l2 l3 l4 l5 : oV} {x y : Int} {S : List oV} {σ : oSg} {Q : Option oV → (Nat → oC) → Prop} : oE d 225 33 [l0, l1, l2, l3, l4, l5] (.inl y :: .inl x :: S) σ Q = if ¬ x = y then oE d 225 39 [l0, l1, l2, l3, l4, l5] S σ Q else oE d 225 36 [l0, l1, l2, l3, l4, l5] S σ Q := oCmpNe f_225_33 (by decide)
theorem f_225_36 : oFet 225 36 = some (.bipush (-11), 2) := by decide +kernel
theorem s_225_36 {d : Nat} {l0 l1 l2 l3 l4 l5 : oV} {S : List oV} {σ : oSg} {Q : Option oV → (Nat → oC) → Prop} : oE d 225 36 [l0, l1, l2, l3, l4, l5] S σ Q = oE d 225 38 [l0, l1, l2, l3, l4, l5] (.inl (-11) :: S) σ Q := pBip f_225_36 (by decide)
theorem f_225_38 : oFet 225 38 = some (.ireturn, 1) := by decide +kernel
theorem s_225_38 {d : Nat} {l0 l1 l2 l3 l4 l5 : oV} {x : Int} {σ : oSg} {Q : Option oV → (Nat → oC) → Prop} : oE d 225 38 [l0, l1, l2, l3, l4, l5] [.inl x] σ Q = Q (some (.inl x)) (oBld σ) := oIret f_225_38 rt_225
theorem f_225_39 : oFet 225 39 = some (.aload_n 0, 1) := by decide +kernel
theorem s_225_39 {d : Nat} {l1 l2 l3 l4 l5 : oV} {a : Nat} {S : List oV} {σ : oSg} {Q : Option oV → (Nat → oC) → Prop} : oE d 225 39 [.inr (.inr (.inl a)), l1, l2, l3, l4, l5] S σ Q = oE d 225 40 [.inr (.inr (.inl a)), l1, l2, l3, l4, l5] (.inr (.inr (.inl a)) :: S) σ Q := pLdN (k := 0) f_225_39 rfl rfl rfl
theorem f_225_40 : oFet 225 40 = some (.getfield 42, 3) := by decide +kernel
theorem s_225_40 {d : Nat} {l0 l1 l2 l3 l4 l5 : oV} {a : Nat} {S : List oV} {σ : oSg} {Q : Option oV → (Nat → oC) → Prop} (hk : oKd a = some 11) : oE d 225 40 [l0, l1, l2, l3, l4, l5] (.inr (.inr (.inl a)) :: S) σ Q = oE d 225 43 [l0, l1, l2, l3, l4, l5] (.inr (.inr (.inl (oRf a 20))) :: S) σ Q := pGfR f_225_40 ow_225 fl_11_42 rfl (by decide) hk
theorem f_225_43 : oFet 225 43 = some (.iload_n 1, 1) := by decide +kernel
theorem s_225_43 {d : Nat} {l0 l2 l3 l4 l5 : oV} {x : Int} {S : List oV} {σ : oSg} {Q : Option oV → (Nat → oC) → Prop} : oE d 225 43 [l0, .inl x, l2, l3, l4, l5] S σ Q = oE d 225 44 [l0, .inl x, l2, l3, l4, l5] (.inl x :: S) σ Q := pLdN (k := 1) f_225_43 rfl rfl rfl
theorem f_225_44 : oFet 225 44 = some (.iaload, 1) := by decide +kernel
theorem s_225_44 {d : Nat} {l0 l1 l2 l3 l4 l5 : oV} {a : Nat} {i : Int} {S : List oV} {σ : oSg} {Q : Option oV → (Nat → oC) → Prop} (hk : oAk a = some 0) (h0 : 0 ≤ i) (h1 : i < (oLn a : Int)) : oE d 225 44 [l0, l1, l2, l3, l4, l5] (.inl i :: .inr (.inr (.inl a)) :: S) σ Q = oE d 225 45 [l0, l1, l2, l3, l4, l5] (.inl (σ.2 a i.toNat) :: S) σ Q := oIal f_225_44 hk h0 h1
theorem f_225_45 : oFet 225 45 = some (.aload_n 0, 1) := by decide +kernel
theorem s_225_45 {d : Nat} {l1 l2 l3 l4 l5 : oV} {a : Nat} {S : List oV} {σ : oSg} {Q : Option oV → (Nat → oC) → Prop} : oE d 225 45 [.inr (.inr (.inl a)), l1, l2, l3, l4, l5] S σ Q = oE d 225 46 [.inr (.inr (.inl a)), l1, l2, l3, l4, l5] (.inr (.inr (.inl a)) :: S) σ Q := pLdN (k := 0) f_225_45 rfl rfl rfl
theorem f_225_46 : oFet 225 46 = some (.getfield 42, 3) := by decide +kernel
theorem s_225_46 {d : Nat} {l0 l1 l2 l3 l4 l5 : oV} {a : Nat} {S : List oV} {σ : oSg} {Q : Option oV → (Nat → oC) → Prop} (hk : oKd a = some 11) : oE d 225 46 [l0, l1, l2, l3, l4, l5] (.inr (.inr (.inl a)) :: S) σ Q = oE d 225 49 [l0, l1, l2, l3, l4, l5] (.inr (.inr (.inl (oRf a 20))) :: S) σ Q := pGfR f_225_46 ow_225 fl_11_42 rfl (by decide) hk
theorem f_225_49 : oFet 225 49 = some (.iload_n 3, 1) := by decide +kernel
theorem s_225_49 {d : Nat} {l0 l1 l2 l4 l5 : oV} {x : Int} {S : List oV} {σ : oSg} {Q : Option oV → (Nat → oC) → Prop} : oE d 225 49 [l0, l1, l2, .inl x, l4, l5] S σ Q = oE d 225 50 [l0, l1, l2, .inl x, l4, l5] (.inl x :: S) σ Q := pLdN (k := 3) f_225_49 rfl rfl rfl
theorem f_225_50 : oFet 225 50 = some (.iaload, 1) := by decide +kernel
theorem s_225_50 {d : Nat} {l0 l1 l2 l3 l4 l5 : oV} {a : Nat} {i : Int} {S : List oV} {σ : oSg} {Q : Option oV → (Nat → oC) → Prop} (hk : oAk a = some 0) (h0 : 0 ≤ i) (h1 : i < (oLn a : Int)) : oE d 225 50 [l0, l1, l2, l3, l4, l5] (.inl i :: .inr (.inr (.inl a)) :: S) σ Q = oE d 225 51 [l0, l1, l2, l3, l4, l5] (.inl (σ.2 a i.toNat) :: S) σ Q := oIal f_225_50 hk h0 h1
theorem f_225_51 : oFet 225 51 = some (.if_icmp .eq 6, 3) := by decide +kernel
theorem s_225_51 {d : Nat} {l0 l1 l2 l3 l4 l5 : oV} {x y : Int} {S : List oV} {σ : oSg} {Q : Option oV → (Nat → oC) → Prop} : oE d 225 51 [l0, l1, l2, l3, l4, l5] (.inl y :: .inl x :: S) σ Q = if x = y then oE d 225 57 [l0, l1, l2, l3, l4, l5] S σ Q else oE d 225 54 [l0, l1, l2, l3, l4, l5] S σ Q := oCmpEq f_225_51 (by decide)
theorem f_225_54 : oFet 225 54 = some (.bipush (-12), 2) := by decide +kernel
theorem s_225_54 {d : Nat} {l0 l1 l2 l3 l4 l5 : oV} {S : List oV} {σ : oSg} {Q : Option oV → (Nat → oC) → Prop} : oE d 225 54 [l0, l1, l2, l3, l4, l5] S σ Q = oE d 225 56 [l0, l1, l2, l3, l4, l5] (.inl (-12) :: S) σ Q := pBip f_225_54 (by decide)
theorem f_225_56 : oFet 225 56 = some (.ireturn, 1) := by decide +kernel
theorem s_225_56 {d : Nat} {l0 l1 l2 l3 l4 l5 : oV} {x : Int} {σ : oSg} {Q : Option oV → (Nat → oC) → Prop} : oE d 225 56 [l0, l1, l2, l3, l4, l5] [.inl x] σ Q = Q (some (.inl x)) (oBld σ) := oIret f_225_56 rt_225
theorem f_225_57 : oFet 225 57 = some (.iload 5, 2) := by decide +kernel
theorem s_225_57 {d : Nat} {l0 l1 l2 l3 l4 : oV} {x : Int} {S : List oV} {σ : oSg} {Q : Option oV → (Nat → oC) → Prop} : oE d 225 57 [l0, l1, l2, l3, l4, .inl x] S σ Q = oE d 225 59 [l0, l1, l2, l3, l4, .inl x] (.inl x :: S) σ Q := pLd (i := 5) f_225_57 rfl rfl rfl
theorem f_225_59 : oFet 225 59 = some (.ifCond .lt 39, 3) := by decide +kernel
theorem s_225_59 {d : Nat} {l0 l1 l2 l3 l4 l5 : oV} {x : Int} {S : List oV} {σ : oSg} {Q : Option oV → (Nat → oC) → Prop} : oE d 225 59 [l0, l1, l2, l3, l4, l5] (.inl x :: S) σ Q = if x < 0 then oE d 225 98 [l0, l1, l2, l3, l4, l5] S σ Q else oE d 225 62 [l0, l1, l2, l3, l4, l5] S σ Q := oIfLt f_225_59 (by decide)
theorem f_225_62 : oFet 225 62 = some (.iload_n 2, 1) := by decide +kernel
theorem s_225_62 {d : Nat} {l0 l1 l3 l4 l5 : oV} {x : Int} {S : List oV} {σ : oSg} {Q : Option oV → (Nat → oC) → Prop} : oE d 225 62 [l0, l1, .inl x, l3, l4, l5] S σ Q = oE d 225 63 [l0, l1, .inl x, l3, l4, l5] (.inl x :: S) σ Q := pLdN (k := 2) f_225_62 rfl rfl rfl
theorem f_225_63 : oFet 225 63 = some (.ifCond .lt 35, 3) := by decide +kernel
theorem s_225_63 {d : Nat} {l0 l1 l2 l3 l4 l5 : oV} {x : Int} {S : List oV} {σ : oSg} {Q : Option oV → (Nat → oC) → Prop} : oE d 225 63 [l0, l1, l2, l3, l4, l5] (.inl x :: S) σ Q = if x < 0 then oE d 225 98 [l0, l1, l2, l3, l4, l5] S σ Q else oE d 225 66 [l0, l1, l2, l3, l4, l5] S σ Q := oIfLt f_225_63 (by decide)
theorem f_225_66 : oFet 225 66 = some (.iload 4, 2) := by decide +kernel
theorem s_225_66 {d : Nat} {l0 l1 l2 l3 l5 : oV} {x : Int} {S : List oV} {σ : oSg} {Q : Option oV → (Nat → oC) → Prop} : oE d 225 66 [l0, l1, l2, l3, .inl x, l5] S σ Q = oE d 225 68 [l0, l1, l2, l3, .inl x, l5] (.inl x :: S) σ Q := pLd (i := 4) f_225_66 rfl rfl rfl
theorem f_225_68 : oFet 225 68 = some (.ifCond .lt 30, 3) := by decide +kernel
theorem s_225_68 {d : Nat} {l0 l1 l2 l3 l4 l5 : oV} {x : Int} {S : List oV} {σ : oSg} {Q : Option oV → (Nat → oC) → Prop} : oE d 225 68 [l0, l1, l2, l3, l4, l5] (.inl x :: S) σ Q = if x < 0 then oE d 225 98 [l0, l1, l2, l3, l4, l5] S σ Q else oE d 225 71 [l0, l1, l2, l3, l4, l5] S σ Q := oIfLt f_225_68 (by decide)
theorem f_225_71 : oFet 225 71 = some (.iload_n 2, 1) := by decide +kernel
theorem s_225_71 {d : Nat} {l0 l1 l3 l4 l5 : oV} {x : Int} {S : List oV} {σ : oSg} {Q : Option oV → (Nat → oC) → Prop} : oE d 225 71 [l0, l1, .inl x, l3, l4, l5] S σ Q = oE d 225 72 [l0, l1, .inl x, l3, l4, l5] (.inl x :: S) σ Q := pLdN (k := 2) f_225_71 rfl rfl rfl
theorem f_225_72 : oFet 225 72 = some (.aload_n 0, 1) := by decide +kernel
theorem s_225_72 {d : Nat} {l1 l2 l3 l4 l5 : oV} {a : Nat} {S : List oV} {σ : oSg} {Q : Option oV → (Nat → oC) → Prop} : oE d 225 72 [.inr (.inr (.inl a)), l1, l2, l3, l4, l5] S σ Q = oE d 225 73 [.inr (.inr (.inl a)), l1, l2, l3, l4, l5] (.inr (.inr (.inl a)) :: S) σ Q := pLdN (k := 0) f_225_72 rfl rfl rfl
theorem f_225_73 : oFet 225 73 = some (.getfield 45, 3) := by decide +kernel
theorem s_225_73 {d : Nat} {l0 l1 l2 l3 l4 l5 : oV} {a : Nat} {S : List oV} {σ : oSg} {Q : Option oV → (Nat → oC) → Prop} (hk : oKd a = some 11) : oE d 225 73 [l0, l1, l2, l3, l4, l5] (.inr (.inr (.inl a)) :: S) σ Q = oE d 225 76 [l0, l1, l2, l3, l4, l5] (.inr (.inr (.inl (oRf a 21))) :: S) σ Q := pGfR f_225_73 ow_225 fl_11_45 rfl (by decide) hk
theorem f_225_76 : oFet 225 76 = some (.iload_n 1, 1) := by decide +kernel
theorem s_225_76 {d : Nat} {l0 l2 l3 l4 l5 : oV} {x : Int} {S : List oV} {σ : oSg} {Q : Option oV → (Nat → oC) → Prop} : oE d 225 76 [l0, .inl x, l2, l3, l4, l5] S σ Q = oE d 225 77 [l0, .inl x, l2, l3, l4, l5] (.inl x :: S) σ Q := pLdN (k := 1) f_225_76 rfl rfl rfl
theorem f_225_77 : oFet 225 77 = some (.iaload, 1) := by decide +kernel
theorem s_225_77 {d : Nat} {l0 l1 l2 l3 l4 l5 : oV} {a : Nat} {i : Int} {S : List oV} {σ : oSg} {Q : Option oV → (Nat → oC) → Prop} (hk : oAk a = some 0) (h0 : 0 ≤ i) (h1 : i < (oLn a : Int)) : oE d 225 77 [l0, l1, l2, l3, l4, l5] (.inl i :: .inr (.inr (.inl a)) :: S) σ Q = oE d 225 78 [l0, l1, l2, l3, l4, l5] (.inl (σ.2 a i.toNat) :: S) σ Q := oIal f_225_77 hk h0 h1
theorem f_225_78 : oFet 225 78 = some (.iload 5, 2) := by decide +kernel
theorem s_225_78 {d : Nat} {l0 l1 l2 l3 l4 : oV} {x : Int} {S : List oV} {σ : oSg} {Q : Option oV → (Nat → oC) → Prop} : oE d 225 78 [l0, l1, l2, l3, l4, .inl x] S σ Q = oE d 225 80 [l0, l1, l2, l3, l4, .inl x] (.inl x :: S) σ Q := pLd (i := 5) f_225_78 rfl rfl rfl
theorem f_225_80 : oFet 225 80 = some (.isub, 1) := by decide +kernel
theorem s_225_80 {d : Nat} {l0 l1 l2 l3 l4 l5 : oV} {x y : Int} {S : List oV} {σ : oSg} {Q : Option oV → (Nat → oC) → Prop} : oE d 225 80 [l0, l1, l2, l3, l4, l5] (.inl y :: .inl x :: S) σ Q = oE d 225 81 [l0, l1, l2, l3, l4, l5] (.inl (oSub x y) :: S) σ Q := oS3 f_225_80 rfl rfl rfl
theorem f_225_81 : oFet 225 81 = some (.if_icmp .gt 17, 3) := by decide +kernel
theorem s_225_81 {d : Nat} {l0 l1 l2 l3 l4 l5 : oV} {x y : Int} {S : List oV} {σ : oSg} {Q : Option oV → (Nat → oC) → Prop} : oE d 225 81 [l0, l1, l2, l3, l4, l5] (.inl y :: .inl x :: S) σ Q = if y < x then oE d 225 98 [l0, l1, l2, l3, l4, l5] S σ Q else oE d 225 84 [l0, l1, l2, l3, l4, l5] S σ Q := oCmpGt f_225_81 (by decide)
theorem f_225_84 : oFet 225 84 = some (.iload 4, 2) := by decide +kernel
theorem s_225_84 {d : Nat} {l0 l1 l2 l3 l5 : oV} {x : Int} {S : List oV} {σ : oSg} {Q : Option oV → (Nat → oC) → Prop} : oE d 225 84 [l0, l1, l2, l3, .inl x, l5] S σ Q = oE d 225 86 [l0, l1, l2, l3, .inl x, l5] (.inl x :: S) σ Q := pLd (i := 4) f_225_84 rfl rfl rfl
theorem f_225_86 : oFet 225 86 = some (.aload_n 0, 1) := by decide +kernel
theorem s_225_86 {d : Nat} {l1 l2 l3 l4 l5 : oV} {a : Nat} {S : List oV} {σ : oSg} {Q : Option oV → (Nat → oC) → Prop} : oE d 225 86 [.inr (.inr (.inl a)), l1, l2, l3, l4, l5] S σ Q = oE d 225 87 [.inr (.inr (.inl a)), l1, l2, l3, l4, l5] (.inr (.inr (.inl a)) :: S) σ Q := pLdN (k := 0) f_225_86 rfl rfl rfl
theorem f_225_87 : oFet 225 87 = some (.getfield 45, 3) := by decide +kernel
theorem s_225_87 {d : Nat} {l0 l1 l2 l3 l4 l5 : oV} {a : Nat} {S : List oV} {σ : oSg} {Q : Option oV → (Nat → oC) → Prop} (hk : oKd a = some 11) : oE d 225 87 [l0, l1, l2, l3, l4, l5] (.inr (.inr (.inl a)) :: S) σ Q = oE d 225 90 [l0, l1, l2, l3, l4, l5] (.inr (.inr (.inl (oRf a 21))) :: S) σ Q := pGfR f_225_87 ow_225 fl_11_45 rfl (by decide) hk
theorem f_225_90 : oFet 225 90 = some (.iload_n 3, 1) := by decide +kernel
theorem s_225_90 {d : Nat} {l0 l1 l2 l4 l5 : oV} {x : Int} {S : List oV} {σ : oSg} {Q : Option oV → (Nat → oC) → Prop} : oE d 225 90 [l0, l1, l2, .inl x, l4, l5] S σ Q = oE d 225 91 [l0, l1, l2, .inl x, l4, l5] (.inl x :: S) σ Q := pLdN (k := 3) f_225_90 rfl rfl rfl
theorem f_225_91 : oFet 225 91 = some (.iaload, 1) := by decide +kernel
theorem s_225_91 {d : Nat} {l0 l1 l2 l3 l4 l5 : oV} {a : Nat} {i : Int} {S : List oV} {σ : oSg} {Q : Option oV → (Nat → oC) → Prop} (hk : oAk a = some 0) (h0 : 0 ≤ i) (h1 : i < (oLn a : Int)) : oE d 225 91 [l0, l1, l2, l3, l4, l5] (.inl i :: .inr (.inr (.inl a)) :: S) σ Q = oE d 225 92 [l0, l1, l2, l3, l4, l5] (.inl (σ.2 a i.toNat) :: S) σ Q := oIal f_225_91 hk h0 h1
theorem f_225_92 : oFet 225 92 = some (.iload 5, 2) := by decide +kernel
theorem s_225_92 {d : Nat} {l0 l1 l2 l3 l4 : oV} {x : Int} {S : List oV} {σ : oSg} {Q : Option oV → (Nat → oC) → Prop} : oE d 225 92 [l0, l1, l2, l3, l4, .inl x] S σ Q = oE d 225 94 [l0, l1, l2, l3, l4, .inl x] (.inl x :: S) σ Q := pLd (i := 5) f_225_92 rfl rfl rfl
theorem f_225_94 : oFet 225 94 = some (.isub, 1) := by decide +kernel
theorem s_225_94 {d : Nat} {l0 l1 l2 l3 l4 l5 : oV} {x y : Int} {S : List oV} {σ : oSg} {Q : Option oV → (Nat → oC) → Prop} : oE d 225 94 [l0, l1, l2, l3, l4, l5] (.inl y :: .inl x :: S) σ Q = oE d 225 95 [l0, l1, l2, l3, l4, l5] (.inl (oSub x y) :: S) σ Q := oS3 f_225_94 rfl rfl rfl
theorem f_225_95 : oFet 225 95 = some (.if_icmp .le 6, 3) := by decide +kernel
theorem s_225_95 {d : Nat} {l0 l1 l2 l3 l4 l5 : oV} {x y : Int} {S : List oV} {σ : oSg} {Q : Option oV → (Nat → oC) → Prop} : oE d 225 95 [l0, l1, l2, l3, l4, l5] (.inl y :: .inl x :: S) σ Q = if x ≤ y then oE d 225 101 [l0, l1, l2, l3, l4, l5] S σ Q else oE d 225 98 [l0, l1, l2, l3, l4, l5] S σ Q := oCmpLe f_225_95 (by decide)
theorem f_225_98 : oFet 225 98 = some (.bipush (-13), 2) := by decide +kernel
theorem s_225_98 {d : Nat} {l0 l1 l2 l3 l4 l5 : oV} {S : List oV} {σ : oSg} {Q : Option oV → (Nat → oC) → Prop} : oE d 225 98 [l0, l1, l2, l3, l4, l5] S σ Q = oE d 225 100 [l0, l1, l2, l3, l4, l5] (.inl (-13) :: S) σ Q := pBip f_225_98 (by decide)
theorem f_225_100 : oFet 225 100 = some (.ireturn, 1) := by decide +kernel
theorem s_225_100 {d : Nat} {l0 l1 l2 l3 l4 l5 : oV} {x : Int} {σ : oSg} {Q : Option oV → (Nat → oC) → Prop} : oE d 225 100 [l0, l1, l2, l3, l4, l5] [.inl x] σ Q = Q (some (.inl x)) (oBld σ) := oIret f_225_100 rt_225
theorem f_225_101 : oFet 225 101 = some (.aload_n 0, 1) := by decide +kernel
theorem s_225_101 {d : Nat} {l1 l2 l3 l4 l5 : oV} {a : Nat} {S : List oV} {σ : oSg} {Q : Option oV → (Nat → oC) → Prop} : oE d 225 101 [.inr (.inr (.inl a)), l1, l2, l3, l4, l5] S σ Q = oE d 225 102 [.inr (.inr (.inl a)), l1, l2, l3, l4, l5] (.inr (.inr (.inl a)) :: S) σ Q := pLdN (k := 0) f_225_101 rfl rfl rfl
theorem f_225_102 : oFet 225 102 = some (.getfield 50, 3) := by decide +kernel
theorem s_225_102 {d : Nat} {l0 l1 l2 l3 l4 l5 : oV} {a : Nat} {S : List oV} {σ : oSg} {Q : Option oV → (Nat → oC) → Prop} (hk : oKd a = some 11) : oE d 225 102 [l0, l1, l2, l3, l4, l5] (.inr (.inr (.inl a)) :: S) σ Q = oE d 225 105 [l0, l1, l2, l3, l4, l5] (.inr (.inr (.inl (oRf a 22))) :: S) σ Q := pGfR f_225_102 ow_225 fl_11_50 rfl (by decide) hk
theorem f_225_105 : oFet 225 105 = some (.iload_n 1, 1) := by decide +kernel
theorem s_225_105 {d : Nat} {l0 l2 l3 l4 l5 : oV} {x : Int} {S : List oV} {σ : oSg} {Q : Option oV → (Nat → oC) → Prop} : oE d 225 105 [l0, .inl x, l2, l3, l4, l5] S σ Q = oE d 225 106 [l0, .inl x, l2, l3, l4, l5] (.inl x :: S) σ Q := pLdN (k := 1) f_225_105 rfl rfl rfl
theorem f_225_106 : oFet 225 106 = some (.aaload, 1) := by decide +kernel
theorem s_225_106 {d : Nat} {l0 l1 l2 l3 l4 l5 : oV} {a : Nat} {i : Int} {S : List oV} {σ : oSg} {Q : Option oV → (Nat → oC) → Prop} (hk : oAk a = some 4) (h0 : 0 ≤ i) (h1 : i < (oLn a : Int)) : oE d 225 106 [l0, l1, l2, l3, l4, l5] (.inl i :: .inr (.inr (.inl a)) :: S) σ Q = oE d 225 107 [l0, l1, l2, l3, l4, l5] (.inr (.inr (.inl (oRe a i.toNat))) :: S) σ Q := oAal f_225_106 hk (by decide) h0 h1
theorem f_225_107 : oFet 225 107 = some (.iload_n 2, 1) := by decide +kernel
theorem s_225_107 {d : Nat} {l0 l1 l3 l4 l5 : oV} {x : Int} {S : List oV} {σ : oSg} {Q : Option oV → (Nat → oC) → Prop} : oE d 225 107 [l0, l1, .inl x, l3, l4, l5] S σ Q = oE d 225 108 [l0, l1, .inl x, l3, l4, l5] (.inl x :: S) σ Q := pLdN (k := 2) f_225_107 rfl rfl rfl
theorem f_225_108 : oFet 225 108 = some (.aload_n 0, 1) := by decide +kernel
theorem s_225_108 {d : Nat} {l1 l2 l3 l4 l5 : oV} {a : Nat} {S : List oV} {σ : oSg} {Q : Option oV → (Nat → oC) → Prop} : oE d 225 108 [.inr (.inr (.inl a)), l1, l2, l3, l4, l5] S σ Q = oE d 225 109 [.inr (.inr (.inl a)), l1, l2, l3, l4, l5] (.inr (.inr (.inl a)) :: S) σ Q := pLdN (k := 0) f_225_108 rfl rfl rfl
theorem f_225_109 : oFet 225 109 = some (.getfield 53, 3) := by decide +kernel
theorem s_225_109 {d : Nat} {l0 l1 l2 l3 l4 l5 : oV} {a : Nat} {S : List oV} {σ : oSg} {Q : Option oV → (Nat → oC) → Prop} (hk : oKd a = some 11) : oE d 225 109 [l0, l1, l2, l3, l4, l5] (.inr (.inr (.inl a)) :: S) σ Q = oE d 225 112 [l0, l1, l2, l3, l4, l5] (.inr (.inr (.inl (oRf a 23))) :: S) σ Q := pGfR f_225_109 ow_225 fl_11_53 rfl (by decide) hk
theorem f_225_112 : oFet 225 112 = some (.iconst 0, 1) := by decide +kernel
theorem s_225_112 {d : Nat} {l0 l1 l2 l3 l4 l5 : oV} {S : List oV} {σ : oSg} {Q : Option oV → (Nat → oC) → Prop} : oE d 225 112 [l0, l1, l2, l3, l4, l5] S σ Q = oE d 225 113 [l0, l1, l2, l3, l4, l5] (.inl (0) :: S) σ Q := pKst f_225_112 (by decide)
theorem f_225_113 : oFet 225 113 = some (.iload 5, 2) := by decide +kernel
theorem s_225_113 {d : Nat} {l0 l1 l2 l3 l4 : oV} {x : Int} {S : List oV} {σ : oSg} {Q : Option oV → (Nat → oC) → Prop} : oE d 225 113 [l0, l1, l2, l3, l4, .inl x] S σ Q = oE d 225 115 [l0, l1, l2, l3, l4, .inl x] (.inl x :: S) σ Q := pLd (i := 5) f_225_113 rfl rfl rfl
theorem f_225_115 : oFet 225 115 = some (.invokestatic 69, 3) := by decide +kernel
theorem s_225_115 {d : Nat} {l0 l1 l2 l3 l4 l5 : oV} {a b : Nat} {sp dp n : Int} {S : List oV} {σ : oSg} {Q : Option oV → (Nat → oC) → Prop} (ha : oAk a = some 1) (hb : oAk b = some 1) (hs : oSmall S = true) (g1 : 0 ≤ sp) (g2 : 0 ≤ dp) (g3 : 0 ≤ n) (g4 : sp + n ≤ (oLn a : Int)) (g5 : dp + n ≤ (oLn b : Int)) : oE d 225 115 [l0, l1, l2, l3, l4, l5] (.inl n :: .inl dp :: .inr (.inr (.inl b)) :: .inl sp :: .inr (.inr (.inl a)) :: S) σ Q = oE d 225 118 [l0, l1, l2, l3, l4, l5] S (oCp σ a sp b dp n) Q := pCpy f_225_115 ow_225 lk_11_69 ha hb (by decide) hs g1 g2 g3 g4 g5
theorem f_225_118 : oFet 225 118 = some (.aload_n 0, 1) := by decide +kernel
theorem s_225_118 {d : Nat} {l1 l2 l3 l4 l5 : oV} {a : Nat} {S : List oV} {σ : oSg} {Q : Option oV → (Nat → oC) → Prop} : oE d 225 118 [.inr (.inr (.inl a)), l1, l2, l3, l4, l5] S σ Q = oE d 225 119 [.inr (.inr (.inl a)), l1, l2, l3, l4, l5] (.inr (.inr (.inl a)) :: S) σ Q := pLdN (k := 0) f_225_118 rfl rfl rfl
theorem f_225_119 : oFet 225 119 = some (.getfield 53, 3) := by decide +kernel
theorem s_225_119 {d : Nat} {l0 l1 l2 l3 l4 l5 : oV} {a : Nat} {S : List oV} {σ : oSg} {Q : Option oV → (Nat → oC) → Prop} (hk : oKd a = some 11) : oE d 225 119 [l0, l1, l2, l3, l4, l5] (.inr (.inr (.inl a)) :: S) σ Q = oE d 225 122 [l0, l1, l2, l3, l4, l5] (.inr (.inr (.inl (oRf a 23))) :: S) σ Q := pGfR f_225_119 ow_225 fl_11_53 rfl (by decide) hk
theorem f_225_122 : oFet 225 122 = some (.iconst 0, 1) := by decide +kernel
theorem s_225_122 {d : Nat} {l0 l1 l2 l3 l4 l5 : oV} {S : List oV} {σ : oSg} {Q : Option oV → (Nat → oC) → Prop} : oE d 225 122 [l0, l1, l2, l3, l4, l5] S σ Q = oE d 225 123 [l0, l1, l2, l3, l4, l5] (.inl (0) :: S) σ Q := pKst f_225_122 (by decide)
theorem f_225_123 : oFet 225 123 = some (.aload_n 0, 1) := by decide +kernel
theorem s_225_123 {d : Nat} {l1 l2 l3 l4 l5 : oV} {a : Nat} {S : List oV} {σ : oSg} {Q : Option oV → (Nat → oC) → Prop} : oE d 225 123 [.inr (.inr (.inl a)), l1, l2, l3, l4, l5] S σ Q = oE d 225 124 [.inr (.inr (.inl a)), l1, l2, l3, l4, l5] (.inr (.inr (.inl a)) :: S) σ Q := pLdN (k := 0) f_225_123 rfl rfl rfl
theorem f_225_124 : oFet 225 124 = some (.getfield 50, 3) := by decide +kernel
theorem s_225_124 {d : Nat} {l0 l1 l2 l3 l4 l5 : oV} {a : Nat} {S : List oV} {σ : oSg} {Q : Option oV → (Nat → oC) → Prop} (hk : oKd a = some 11) : oE d 225 124 [l0, l1, l2, l3, l4, l5] (.inr (.inr (.inl a)) :: S) σ Q = oE d 225 127 [l0, l1, l2, l3, l4, l5] (.inr (.inr (.inl (oRf a 22))) :: S) σ Q := pGfR f_225_124 ow_225 fl_11_50 rfl (by decide) hk
theorem f_225_127 : oFet 225 127 = some (.iload_n 3, 1) := by decide +kernel
theorem s_225_127 {d : Nat} {l0 l1 l2 l4 l5 : oV} {x : Int} {S : List oV} {σ : oSg} {Q : Option oV → (Nat → oC) → Prop} : oE d 225 127 [l0, l1, l2, .inl x, l4, l5] S σ Q = oE d 225 128 [l0, l1, l2, .inl x, l4, l5] (.inl x :: S) σ Q := pLdN (k := 3) f_225_127 rfl rfl rfl
theorem f_225_128 : oFet 225 128 = some (.aaload, 1) := by decide +kernel
theorem s_225_128 {d : Nat} {l0 l1 l2 l3 l4 l5 : oV} {a : Nat} {i : Int} {S : List oV} {σ : oSg} {Q : Option oV → (Nat → oC) → Prop} (hk : oAk a = some 4) (h0 : 0 ≤ i) (h1 : i < (oLn a : Int)) : oE d 225 128 [l0, l1, l2, l3, l4, l5] (.inl i :: .inr (.inr (.inl a)) :: S) σ Q = oE d 225 129 [l0, l1, l2, l3, l4, l5] (.inr (.inr (.inl (oRe a i.toNat))) :: S) σ Q := oAal f_225_128 hk (by decide) h0 h1
theorem f_225_129 : oFet 225 129 = some (.iload 4, 2) := by decide +kernel
theorem s_225_129 {d : Nat} {l0 l1 l2 l3 l5 : oV} {x : Int} {S : List oV} {σ : oSg} {Q : Option oV → (Nat → oC) → Prop} : oE d 225 129 [l0, l1, l2, l3, .inl x, l5] S σ Q = oE d 225 131 [l0, l1, l2, l3, .inl x, l5] (.inl x :: S) σ Q := pLd (i := 4) f_225_129 rfl rfl rfl
theorem f_225_131 : oFet 225 131 = some (.iload 5, 2) := by decide +kernel
theorem s_225_131 {d : Nat} {l0 l1 l2 l3 l4 : oV} {x : Int} {S : List oV} {σ : oSg} {Q : Option oV → (Nat → oC) → Prop} : oE d 225 131 [l0, l1, l2, l3, l4, .inl x] S σ Q = oE d 225 133 [l0, l1, l2, l3, l4, .inl x] (.inl x :: S) σ Q := pLd (i := 5) f_225_131 rfl rfl rfl
theorem f_225_133 : oFet 225 133 = some (.invokestatic 69, 3) := by decide +kernel
theorem s_225_133 {d : Nat} {l0 l1 l2 l3 l4 l5 : oV} {a b : Nat} {sp dp n : Int} {S : List oV} {σ : oSg} {Q : Option oV → (Nat → oC) → Prop} (ha : oAk a = some 1) (hb : oAk b = some 1) (hs : oSmall S = true) (g1 : 0 ≤ sp) (g2 : 0 ≤ dp) (g3 : 0 ≤ n) (g4 : sp + n ≤ (oLn a : Int)) (g5 : dp + n ≤ (oLn b : Int)) : oE d 225 133 [l0, l1, l2, l3, l4, l5] (.inl n :: .inl dp :: .inr (.inr (.inl b)) :: .inl sp :: .inr (.inr (.inl a)) :: S) σ Q = oE d 225 136 [l0, l1, l2, l3, l4, l5] S (oCp σ a sp b dp n) Q := pCpy f_225_133 ow_225 lk_11_69 ha hb (by decide) hs g1 g2 g3 g4 g5
theorem f_225_136 : oFet 225 136 = some (.iload 5, 2) := by decide +kernel
theorem s_225_136 {d : Nat} {l0 l1 l2 l3 l4 : oV} {x : Int} {S : List oV} {σ : oSg} {Q : Option oV → (Nat → oC) → Prop} : oE d 225 136 [l0, l1, l2, l3, l4, .inl x] S σ Q = oE d 225 138 [l0, l1, l2, l3, l4, .inl x] (.inl x :: S) σ Q := pLd (i := 5) f_225_136 rfl rfl rfl
theorem f_225_138 : oFet 225 138 = some (.ireturn, 1) := by decide +kernel
theorem s_225_138 {d : Nat} {l0 l1 l2 l3 l4 l5 : oV} {x : Int} {σ : oSg} {Q : Option oV → (Nat → oC) → Prop} : oE d 225 138 [l0, l1, l2, l3, l4, l5] [.inl x] σ Q = Q (some (.inl x)) (oBld σ) := oIret f_225_138 rt_225
