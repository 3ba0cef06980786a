/-! steps, by program -/
theorem ow_154 : (oMt 154).2.2.2.2.1 = 11 := by decide +kernel
theorem rt_154 : (oMt 154).2.2.2.1 = none := by decide +kernel
theorem nl_154 : (oMt 154).2.2.1 = 3 := by decide +kernel
theorem f_154_0 : oFet 154 0 = some (.aload_n 0, 1) := by decide +kernel
theorem s_154_0 {d : Nat} {l1 l2 : oV} {a : Nat} {S : List oV} {σ : oSg} {Q : Option oV → (Nat → oC) → Prop} : oE d 154 0 [.inr (.inr (.inl a)), l1, l2] S σ Q = oE d 154 1 [.inr (.inr (.inl a)), l1, l2] (.inr (.inr (.inl a)) :: S) σ Q := pLdN (k := 0) f_154_0 rfl rfl rfl
theorem f_154_1 : oFet 154 1 = some (.getfield 11, 3) := by decide +kernel
theorem s_154_1 {d : Nat} {l0 l1 l2 : oV} {a : Nat} {S : List oV} {σ : oSg} {Q : Option oV → (Nat → oC) → Prop} (hk : oKd a = some 11) : oE d 154 1 [l0, l1, l2] (.inr (.inr (.inl a)) :: S) σ Q = oE d 154 4 [l0, l1, l2] (.inr (.inr (.inl (oRf a 0))) :: S) σ Q := pGfR f_154_1 ow_154 fl_11_11 rfl (by decide) hk
theorem f_154_4 : oFet 154 4 = some (.bipush 50, 2) := by decide +kernel
theorem s_154_4 {d : Nat} {l0 l1 l2 : oV} {S : List oV} {σ : oSg} {Q : Option oV → (Nat → oC) → Prop} : oE d 154 4 [l0, l1, l2] S σ Q = oE d 154 6 [l0, l1, l2] (.inl (50) :: S) σ Q := pBip f_154_4 (by decide)
theorem f_154_6 : oFet 154 6 = some (.iload_n 1, 1) := by decide +kernel
theorem s_154_6 {d : Nat} {l0 l2 : oV} {x : Int} {S : List oV} {σ : oSg} {Q : Option oV → (Nat → oC) → Prop} : oE d 154 6 [l0, .inl x, l2] S σ Q = oE d 154 7 [l0, .inl x, l2] (.inl x :: S) σ Q := pLdN (k := 1) f_154_6 rfl rfl rfl
theorem f_154_7 : oFet 154 7 = some (.iadd, 1) := by decide +kernel
theorem s_154_7 {d : Nat} {l0 l1 l2 : oV} {x y : Int} {S : List oV} {σ : oSg} {Q : Option oV → (Nat → oC) → Prop} : oE d 154 7 [l0, l1, l2] (.inl y :: .inl x :: S) σ Q = oE d 154 8 [l0, l1, l2] (.inl (oAdd x y) :: S) σ Q := oS3 f_154_7 rfl rfl rfl
theorem f_154_8 : oFet 154 8 = some (.iload_n 2, 1) := by decide +kernel
theorem s_154_8 {d : Nat} {l0 l1 : oV} {x : Int} {S : List oV} {σ : oSg} {Q : Option oV → (Nat → oC) → Prop} : oE d 154 8 [l0, l1, .inl x] S σ Q = oE d 154 9 [l0, l1, .inl x] (.inl x :: S) σ Q := pLdN (k := 2) f_154_8 rfl rfl rfl
theorem f_154_9 : oFet 154 9 = some (.iastore, 1) := by decide +kernel
theorem s_154_9 {d : Nat} {l0 l1 l2 : oV} {a : Nat} {i v : Int} {S : List oV} {σ : oSg} {Q : Option oV → (Nat → oC) → Prop} (hk : oAk a = some 0) (h0 : 0 ≤ i) (h1 : i < (oLn a : Int)) : oE d 154 9 [l0, l1, l2] (.inl v :: .inl i :: .inr (.inr (.inl a)) :: S) σ Q = oE d 154 10 [l0, l1, l2] S (oSA σ a i.toNat v) Q := oIas f_154_9 hk h0 h1
theorem f_154_10 : oFet 154 10 = some (.aload_n 0, 1) := by decide +kernel
theorem s_154_10 {d : Nat} {l1 l2 : oV} {a : Nat} {S : List oV} {σ : oSg} {Q : Option oV → (Nat → oC) → Prop} : oE d 154 10 [.inr (.inr (.inl a)), l1, l2] S σ Q = oE d 154 11 [.inr (.inr (.inl a)), l1, l2] (.inr (.inr (.inl a)) :: S) σ Q := pLdN (k := 0) f_154_10 rfl rfl rfl
theorem f_154_11 : oFet 154 11 = some (.getfield 11, 3) := by decide +kernel
theorem s_154_11 {d : Nat} {l0 l1 l2 : oV} {a : Nat} {S : List oV} {σ : oSg} {Q : Option oV → (Nat → oC) → Prop} (hk : oKd a = some 11) : oE d 154 11 [l0, l1, l2] (.inr (.inr (.inl a)) :: S) σ Q = oE d 154 14 [l0, l1, l2] (.inr (.inr (.inl (oRf a 0))) :: S) σ Q := pGfR f_154_11 ow_154 fl_11_11 rfl (by decide) hk
theorem f_154_14 : oFet 154 14 = some (.bipush 50, 2) := by decide +kernel
theorem s_154_14 {d : Nat} {l0 l1 l2 : oV} {S : List oV} {σ : oSg} {Q : Option oV → (Nat → oC) → Prop} : oE d 154 14 [l0, l1, l2] S σ Q = oE d 154 16 [l0, l1, l2] (.inl (50) :: S) σ Q := pBip f_154_14 (by decide)
theorem f_154_16 : oFet 154 16 = some (.iload_n 2, 1) := by decide +kernel
theorem s_154_16 {d : Nat} {l0 l1 : oV} {x : Int} {S : List oV} {σ : oSg} {Q : Option oV → (Nat → oC) → Prop} : oE d 154 16 [l0, l1, .inl x] S σ Q = oE d 154 17 [l0, l1, .inl x] (.inl x :: S) σ Q := pLdN (k := 2) f_154_16 rfl rfl rfl
theorem f_154_17 : oFet 154 17 = some (.iadd, 1) := by decide +kernel
theorem s_154_17 {d : Nat} {l0 l1 l2 : oV} {x y : Int} {S : List oV} {σ : oSg} {Q : Option oV → (Nat → oC) → Prop} : oE d 154 17 [l0, l1, l2] (.inl y :: .inl x :: S) σ Q = oE d 154 18 [l0, l1, l2] (.inl (oAdd x y) :: S) σ Q := oS3 f_154_17 rfl rfl rfl
theorem f_154_18 : oFet 154 18 = some (.iload_n 1, 1) := by decide +kernel
theorem s_154_18 {d : Nat} {l0 l2 : oV} {x : Int} {S : List oV} {σ : oSg} {Q : Option oV → (Nat → oC) → Prop} : oE d 154 18 [l0, .inl x, l2] S σ Q = oE d 154 19 [l0, .inl x, l2] (.inl x :: S) σ Q := pLdN (k := 1) f_154_18 rfl rfl rfl
theorem f_154_19 : oFet 154 19 = some (.iastore, 1) := by decide +kernel
theorem s_154_19 {d : Nat} {l0 l1 l2 : oV} {a : Nat} {i v : Int} {S : List oV} {σ : oSg} {Q : Option oV → (Nat → oC) → Prop} (hk : oAk a = some 0) (h0 : 0 ≤ i) (h1 : i < (oLn a : Int)) : oE d 154 19 [l0, l1, l2] (.inl v :: .inl i :: .inr (.inr (.inl a)) :: S) σ Q = oE d 154 20 [l0, l1, l2] S (oSA σ a i.toNat v) Q := oIas f_154_19 hk h0 h1
theorem f_154_20 : oFet 154 20 = some (.return_, 1) := by decide +kernel
theorem s_154_20 {d : Nat} {l0 l1 l2 : oV} {σ : oSg} {Q : Option oV → (Nat → oC) → Prop} : oE d 154 20 [l0, l1, l2] [] σ Q = Q none (oBld σ) := oVret f_154_20 rt_154
theorem ow_155 : (oMt 155).2.2.2.2.1 = 11 := by decide +kernel
theorem rt_155 : (oMt 155).2.2.2.1 = some .int := by decide +kernel
theorem nl_155 : (oMt 155).2.2.1 = 3 := by decide +kernel
theorem f_155_0 : oFet 155 0 = some (.iconst 0, 1) := by decide +kernel
theorem s_155_0 {d : Nat} {l0 l1 l2 : oV} {S : List oV} {σ : oSg} {Q : Option oV → (Nat → oC) → Prop} : oE d 155 0 [l0, l1, l2] S σ Q = oE d 155 1 [l0, l1, l2] (.inl (0) :: S) σ Q := pKst f_155_0 (by decide)
theorem f_155_1 : oFet 155 1 = some (.istore_n 1, 1) := by decide +kernel
theorem s_155_1 {d : Nat} {l0 l1 l2 : oV} {x : Int} {S : List oV} {σ : oSg} {Q : Option oV → (Nat → oC) → Prop} (c1 : oCat l1 = 1) (c0 : oCat l0 = 1)  : oE d 155 1 [l0, l1, l2] (.inl x :: S) σ Q = oE d 155 2 [l0, .inl x, l2] S σ Q := pSt (i := 1) f_155_1 rfl rfl (show (1 : Nat) < 3 by decide) (oC1n c0) (oC1n c1) rfl
theorem f_155_2 : oFet 155 2 = some (.iconst 0, 1) := by decide +kernel
theorem s_155_2 {d : Nat} {l0 l1 l2 : oV} {S : List oV} {σ : oSg} {Q : Option oV → (Nat → oC) → Prop} : oE d 155 2 [l0, l1, l2] S σ Q = oE d 155 3 [l0, l1, l2] (.inl (0) :: S) σ Q := pKst f_155_2 (by decide)
theorem f_155_3 : oFet 155 3 = some (.istore_n 2, 1) := by decide +kernel
theorem s_155_3 {d : Nat} {l0 l1 l2 : oV} {x : Int} {S : List oV} {σ : oSg} {Q : Option oV → (Nat → oC) → Prop} (c2 : oCat l2 = 1) (c1 : oCat l1 = 1)  : oE d 155 3 [l0, l1, l2] (.inl x :: S) σ Q = oE d 155 4 [l0, l1, .inl x] S σ Q := pSt (i := 2) f_155_3 rfl rfl (show (2 : Nat) < 3 by decide) (oC1n c1) (oC1n c2) rfl
theorem f_155_4 : oFet 155 4 = some (.iload_n 2, 1) := by decide +kernel
theorem s_155_4 {d : Nat} {l0 l1 : oV} {x : Int} {S : List oV} {σ : oSg} {Q : Option oV → (Nat → oC) → Prop} : oE d 155 4 [l0, l1, .inl x] S σ Q = oE d 155 5 [l0, l1, .inl x] (.inl x :: S) σ Q := pLdN (k := 2) f_155_4 rfl rfl rfl
theorem f_155_5 : oFet 155 5 = some (.aload_n 0, 1) := by decide +kernel
theorem s_155_5 {d : Nat} {l1 l2 : oV} {a : Nat} {S : List oV} {σ : oSg} {Q : Option oV → (Nat → oC) → Prop} : oE d 155 5 [.inr (.inr (.inl a)), l1, l2] S σ Q = oE d 155 6 [.inr (.inr (.inl a)), l1, l2] (.inr (.inr (.inl a)) :: S) σ Q := pLdN (k := 0) f_155_5 rfl rfl rfl
theorem f_155_6 : oFet 155 6 = some (.getfield 11, 3) := by decide +kernel
theorem s_155_6 {d : Nat} {l0 l1 l2 : oV} {a : Nat} {S : List oV} {σ : oSg} {Q : Option oV → (Nat → oC) → Prop} (hk : oKd a = some 11) : oE d 155 6 [l0, l1, l2] (.inr (.inr (.inl a)) :: S) σ Q = oE d 155 9 [l0, l1, l2] (.inr (.inr (.inl (oRf a 0))) :: S) σ Q := pGfR f_155_6 ow_155 fl_11_11 rfl (by decide) hk
theorem f_155_9 : oFet 155 9 = some (.iconst 0, 1) := by decide +kernel
theorem s_155_9 {d : Nat} {l0 l1 l2 : oV} {S : List oV} {σ : oSg} {Q : Option oV → (Nat → oC) → Prop} : oE d 155 9 [l0, l1, l2] S σ Q = oE d 155 10 [l0, l1, l2] (.inl (0) :: S) σ Q := pKst f_155_9 (by decide)
theorem f_155_10 : oFet 155 10 = some (.iaload, 1) := by decide +kernel
theorem s_155_10 {d : Nat} {l0 l1 l2 : oV} {a : Nat} {i : Int} {S : List oV} {σ : oSg} {Q : Option oV → (Nat → oC) → Prop} (hk : oAk a = some 0) (h0 : 0 ≤ i) (h1 : i < (oLn a : Int)) : oE d 155 10 [l0, l1, l2] (.inl i :: .inr (.inr (.inl a)) :: S) σ Q = oE d 155 11 [l0, l1, l2] (.inl (σ.2 a i.toNat) :: S) σ Q := oIal f_155_10 hk h0 h1
theorem f_155_11 : oFet 155 11 = some (.if_icmp .ge 21, 3) := by decide +kernel
theorem s_155_11 {d : Nat} {l0 l1 l2 : oV} {x y : Int} {S : List oV} {σ : oSg} {Q : Option oV → (Nat → oC) → Prop} : oE d 155 11 [l0, l1, l2] (.inl y :: .inl x :: S) σ Q = if y ≤ x then oE d 155 32 [l0, l1, l2] S σ Q else oE d 155 14 [l0, l1, l2] S σ Q := oCmpGe f_155_11 (by decide)
theorem f_155_14 : oFet 155 14 = some (.aload_n 0, 1) := by decide +kernel
theorem s_155_14 {d : Nat} {l1 l2 : oV} {a : Nat} {S : List oV} {σ : oSg} {Q : Option oV → (Nat → oC) → Prop} : oE d 155 14 [.inr (.inr (.inl a)), l1, l2] S σ Q = oE d 155 15 [.inr (.inr (.inl a)), l1, l2] (.inr (.inr (.inl a)) :: S) σ Q := pLdN (k := 0) f_155_14 rfl rfl rfl
theorem f_155_15 : oFet 155 15 = some (.iload_n 2, 1) := by decide +kernel
theorem s_155_15 {d : Nat} {l0 l1 : oV} {x : Int} {S : List oV} {σ : oSg} {Q : Option oV → (Nat → oC) → Prop} : oE d 155 15 [l0, l1, .inl x] S σ Q = oE d 155 16 [l0, l1, .inl x] (.inl x :: S) σ Q := pLdN (k := 2) f_155_15 rfl rfl rfl
theorem f_155_16 : oFet 155 16 = some (.invokevirtual 75, 3) := by decide +kernel
theorem c_155_16 {d : Nat} {l0 l1 l2 : oV} {x0 : oV} {a : Nat} {v : Option oV} {τ : oSg} {S : List oV} {σ : oSg} {Q : Option oV → (Nat → oC) → Prop} (hm : oMi d 149 [.inr (.inr (.inl a)), x0] σ v τ) (hk : oKd a = some 11) (hs : oSmall S = true) : oE d 155 16 [l0, l1, l2] (x0 :: .inr (.inr (.inl a)) :: S) σ Q = oE d 155 19 [l0, l1, l2] (v.toList ++ S) τ Q := pCallV f_155_16 ow_155 lk_11_75 mt_149 rfl rfl rfl hk hs hm
theorem f_155_19 : oFet 155 19 = some (.iload_n 2, 1) := by decide +kernel
theorem s_155_19 {d : Nat} {l0 l1 : oV} {x : Int} {S : List oV} {σ : oSg} {Q : Option oV → (Nat → oC) → Prop} : oE d 155 19 [l0, l1, .inl x] S σ Q = oE d 155 20 [l0, l1, .inl x] (.inl x :: S) σ Q := pLdN (k := 2) f_155_19 rfl rfl rfl
theorem f_155_20 : oFet 155 20 = some (.if_icmp .le 6, 3) := by decide +kernel
theorem s_155_20 {d : Nat} {l0 l1 l2 : oV} {x y : Int} {S : List oV} {σ : oSg} {Q : Option oV → (Nat → oC) → Prop} : oE d 155 20 [l0, l1, l2] (.inl y :: .inl x :: S) σ Q = if x ≤ y then oE d 155 26 [l0, l1, l2] S σ Q else oE d 155 23 [l0, l1, l2] S σ Q := oCmpLe f_155_20 (by decide)
theorem f_155_23 : oFet 155 23 = some (.iinc 1 1, 3) := by decide +kernel
theorem s_155_23 {d : Nat} {l0 l2 : oV} {x : Int} {S : List oV} {σ : oSg} {Q : Option oV → (Nat → oC) → Prop} (c0 : oCat l0 = 1)  : oE d 155 23 [l0, .inl x, l2] S σ Q = oE d 155 26 [l0, .inl (oAdd x (1)), l2] S σ Q := pInc f_155_23 rfl (show (1 : Nat) < 3 by decide) (oC1n c0) (oC1n (v := .inl x) rfl) rfl
theorem f_155_26 : oFet 155 26 = some (.iinc 2 1, 3) := by decide +kernel
theorem s_155_26 {d : Nat} {l0 l1 : oV} {x : Int} {S : List oV} {σ : oSg} {Q : Option oV → (Nat → oC) → Prop} (c1 : oCat l1 = 1)  : oE d 155 26 [l0, l1, .inl x] S σ Q = oE d 155 29 [l0, l1, .inl (oAdd x (1))] S σ Q := pInc f_155_26 rfl (show (2 : Nat) < 3 by decide) (oC1n c1) (oC1n (v := .inl x) rfl) rfl
theorem f_155_29 : oFet 155 29 = some (.goto (-25), 3) := by decide +kernel
theorem s_155_29 {d : Nat} {l0 l1 l2 : oV} {S : List oV} {σ : oSg} {Q : Option oV → (Nat → oC) → Prop} : oE d 155 29 [l0, l1, l2] S σ Q = oE d 155 4 [l0, l1, l2] S σ Q := pGoto f_155_29 (by decide)
theorem f_155_32 : oFet 155 32 = some (.iload_n 1, 1) := by decide +kernel
theorem s_155_32 {d : Nat} {l0 l2 : oV} {x : Int} {S : List oV} {σ : oSg} {Q : Option oV → (Nat → oC) → Prop} : oE d 155 32 [l0, .inl x, l2] S σ Q = oE d 155 33 [l0, .inl x, l2] (.inl x :: S) σ Q := pLdN (k := 1) f_155_32 rfl rfl rfl
theorem f_155_33 : oFet 155 33 = some (.ireturn, 1) := by decide +kernel
theorem s_155_33 {d : Nat} {l0 l1 l2 : oV} {x : Int} {σ : oSg} {Q : Option oV → (Nat → oC) → Prop} : oE d 155 33 [l0, l1, l2] [.inl x] σ Q = Q (some (.inl x)) (oBld σ) := oIret f_155_33 rt_155
theorem ow_156 : (oMt 156).2.2.2.2.1 = 11 := by decide +kernel
theorem rt_156 : (oMt 156).2.2.2.1 = some .int := by decide +kernel
theorem nl_156 : (oMt 156).2.2.1 = 3 := by decide +kernel
theorem f_156_0 : oFet 156 0 = some (.aload_n 0, 1) := by decide +kernel
theorem s_156_0 {d : Nat} {l1 l2 : oV} {a : Nat} {S : List oV} {σ : oSg} {Q : Option oV → (Nat → oC) → Prop} : oE d 156 0 [.inr (.inr (.inl a)), l1, l2] S σ Q = oE d 156 1 [.inr (.inr (.inl a)), l1, l2] (.inr (.inr (.inl a)) :: S) σ Q := pLdN (k := 0) f_156_0 rfl rfl rfl
theorem f_156_1 : oFet 156 1 = some (.iload_n 1, 1) := by decide +kernel
theorem s_156_1 {d : Nat} {l0 l2 : oV} {x : Int} {S : List oV} {σ : oSg} {Q : Option oV → (Nat → oC) → Prop} : oE d 156 1 [l0, .inl x, l2] S σ Q = oE d 156 2 [l0, .inl x, l2] (.inl x :: S) σ Q := pLdN (k := 1) f_156_1 rfl rfl rfl
theorem f_156_2 : oFet 156 2 = some (.invokevirtual 61, 3) := by decide +kernel
theorem c_156_2 {d : Nat} {l0 l1 l2 : oV} {x0 : oV} {a : Nat} {v : Option oV} {τ : oSg} {S : List oV} {σ : oSg} {Q : Option oV → (Nat → oC) → Prop} (hm : oMi d 145 [.inr (.inr (.inl a)), x0] σ v τ) (hk : oKd a = some 11) (hs : oSmall S = true) : oE d 156 2 [l0, l1, l2] (x0 :: .inr (.inr (.inl a)) :: S) σ Q = oE d 156 5 [l0, l1, l2] (v.toList ++ S) τ Q := pCallV f_156_2 ow_156 lk_11_61 mt_145 rfl rfl rfl hk hs hm
theorem f_156_5 : oFet 156 5 = some (.ifCond .ne 5, 3) := by decide +kernel
theorem s_156_5 {d : Nat} {l0 l1 l2 : oV} {x : Int} {S : List oV} {σ : oSg} {Q : Option oV → (Nat → oC) → Prop} : oE d 156 5 [l0, l1, l2] (.inl x :: S) σ Q = if ¬ x = 0 then oE d 156 10 [l0, l1, l2] S σ Q else oE d 156 8 [l0, l1, l2] S σ Q := oIfNe f_156_5 (by decide)
theorem f_156_8 : oFet 156 8 = some (.iconst (-1), 1) := by decide +kernel
theorem s_156_8 {d : Nat} {l0 l1 l2 : oV} {S : List oV} {σ : oSg} {Q : Option oV → (Nat → oC) → Prop} : oE d 156 8 [l0, l1, l2] S σ Q = oE d 156 9 [l0, l1, l2] (.inl (-1) :: S) σ Q := pKst f_156_8 (by decide)
theorem f_156_9 : oFet 156 9 = some (.ireturn, 1) := by decide +kernel
theorem s_156_9 {d : Nat} {l0 l1 l2 : oV} {x : Int} {σ : oSg} {Q : Option oV → (Nat → oC) → Prop} : oE d 156 9 [l0, l1, l2] [.inl x] σ Q = Q (some (.inl x)) (oBld σ) := oIret f_156_9 rt_156
theorem f_156_10 : oFet 156 10 = some (.aload_n 0, 1) := by decide +kernel
theorem s_156_10 {d : Nat} {l1 l2 : oV} {a : Nat} {S : List oV} {σ : oSg} {Q : Option oV → (Nat → oC) → Prop} : oE d 156 10 [.inr (.inr (.inl a)), l1, l2] S σ Q = oE d 156 11 [.inr (.inr (.inl a)), l1, l2] (.inr (.inr (.inl a)) :: S) σ Q := pLdN (k := 0) f_156_10 rfl rfl rfl
theorem f_156_11 : oFet 156 11 = some (.iload_n 1, 1) := by decide +kernel
theorem s_156_11 {d : Nat} {l0 l2 : oV} {x : Int} {S : List oV} {σ : oSg} {Q : Option oV → (Nat → oC) → Prop} : oE d 156 11 [l0, .inl x, l2] S σ Q = oE d 156 12 [l0, .inl x, l2] (.inl x :: S) σ Q := pLdN (k := 1) f_156_11 rfl rfl rfl
theorem f_156_12 : oFet 156 12 = some (.invokevirtual 75, 3) := by decide +kernel
theorem c_156_12 {d : Nat} {l0 l1 l2 : oV} {x0 : oV} {a : Nat} {v : Option oV} {τ : oSg} {S : List oV} {σ : oSg} {Q : Option oV → (Nat → oC) → Prop} (hm : oMi d 149 [.inr (.inr (.inl a)), x0] σ v τ) (hk : oKd a = some 11) (hs : oSmall S = true) : oE d 156 12 [l0, l1, l2] (x0 :: .inr (.inr (.inl a)) :: S) σ Q = oE d 156 15 [l0, l1, l2] (v.toList ++ S) τ Q := pCallV f_156_12 ow_156 lk_11_75 mt_149 rfl rfl rfl hk hs hm
theorem f_156_15 : oFet 156 15 = some (.istore_n 2, 1) := by decide +kernel
theorem s_156_15 {d : Nat} {l0 l1 l2 : oV} {x : Int} {S : List oV} {σ : oSg} {Q : Option oV → (Nat → oC) → Prop} (c2 : oCat l2 = 1) (c1 : oCat l1 = 1)  : oE d 156 15 [l0, l1, l2] (.inl x :: S) σ Q = oE d 156 16 [l0, l1, .inl x] S σ Q := pSt (i := 2) f_156_15 rfl rfl (show (2 : Nat) < 3 by decide) (oC1n c1) (oC1n c2) rfl
theorem f_156_16 : oFet 156 16 = some (.aload_n 0, 1) := by decide +kernel
theorem s_156_16 {d : Nat} {l1 l2 : oV} {a : Nat} {S : List oV} {σ : oSg} {Q : Option oV → (Nat → oC) → Prop} : oE d 156 16 [.inr (.inr (.inl a)), l1, l2] S σ Q = oE d 156 17 [.inr (.inr (.inl a)), l1, l2] (.inr (.inr (.inl a)) :: S) σ Q := pLdN (k := 0) f_156_16 rfl rfl rfl
theorem f_156_17 : oFet 156 17 = some (.iload_n 1, 1) := by decide +kernel
theorem s_156_17 {d : Nat} {l0 l2 : oV} {x : Int} {S : List oV} {σ : oSg} {Q : Option oV → (Nat → oC) → Prop} : oE d 156 17 [l0, .inl x, l2] S σ Q = oE d 156 18 [l0, .inl x, l2] (.inl x :: S) σ Q := pLdN (k := 1) f_156_17 rfl rfl rfl
theorem f_156_18 : oFet 156 18 = some (.invokevirtual 87, 3) := by decide +kernel
theorem c_156_18 {d : Nat} {l0 l1 l2 : oV} {x0 : oV} {a : Nat} {v : Option oV} {τ : oSg} {S : List oV} {σ : oSg} {Q : Option oV → (Nat → oC) → Prop} (hm : oMi d 150 [.inr (.inr (.inl a)), x0] σ v τ) (hk : oKd a = some 11) (hs : oSmall S = true) : oE d 156 18 [l0, l1, l2] (x0 :: .inr (.inr (.inl a)) :: S) σ Q = oE d 156 21 [l0, l1, l2] (v.toList ++ S) τ Q := pCallV f_156_18 ow_156 lk_11_87 mt_150 rfl rfl rfl hk hs hm
theorem f_156_21 : oFet 156 21 = some (.iload_n 2, 1) := by decide +kernel
theorem s_156_21 {d : Nat} {l0 l1 : oV} {x : Int} {S : List oV} {σ : oSg} {Q : Option oV → (Nat → oC) → Prop} : oE d 156 21 [l0, l1, .inl x] S σ Q = oE d 156 22 [l0, l1, .inl x] (.inl x :: S) σ Q := pLdN (k := 2) f_156_21 rfl rfl rfl
theorem f_156_22 : oFet 156 22 = some (.bipush (-5), 2) := by decide +kernel
theorem s_156_22 {d : Nat} {l0 l1 l2 : oV} {S : List oV} {σ : oSg} {Q : Option oV → (Nat → oC) → Prop} : oE d 156 22 [l0, l1, l2] S σ Q = oE d 156 24 [l0, l1, l2] (.inl (-5) :: S) σ Q := pBip f_156_22 (by decide)
theorem f_156_24 : oFet 156 24 = some (.invokestatic 102, 3) := by decide +kernel
theorem c_156_24 {d : Nat} {l0 l1 l2 : oV} {x0 x1 : oV} {v : Option oV} {τ : oSg} {S : List oV} {σ : oSg} {Q : Option oV → (Nat → oC) → Prop} (hm : oMi d 157 [x0, x1] σ v τ) (hs : oSmall S = true) : oE d 156 24 [l0, l1, l2] (x1 :: x0 :: S) σ Q = oE d 156 27 [l0, l1, l2] (v.toList ++ S) τ Q := pCallS f_156_24 ow_156 lk_11_102 mt_157 rfl rfl rfl hs hm
theorem f_156_27 : oFet 156 27 = some (.ireturn, 1) := by decide +kernel
theorem s_156_27 {d : Nat} {l0 l1 l2 : oV} {x : Int} {σ : oSg} {Q : Option oV → (Nat → oC) → Prop} : oE d 156 27 [l0, l1, l2] [.inl x] σ Q = Q (some (.inl x)) (oBld σ) := oIret f_156_27 rt_156
theorem ow_157 : (oMt 157).2.2.2.2.1 = 11 := by decide +kernel
theorem rt_157 : (oMt 157).2.2.2.1 = some .int := by decide +kernel
theorem nl_157 : (oMt 157).2.2.1 = 2 := by decide +kernel
theorem f_157_0 : oFet 157 0 = some (.iload_n 0, 1) := by decide +kernel
theorem s_157_0 {d : Nat} {l1 : oV} {x : Int} {S : List oV} {σ : oSg} {Q : Option oV → (Nat → oC) → Prop} : oE d 157 0 [.inl x, l1] S σ Q = oE d 157 1 [.inl x, l1] (.inl x :: S) σ Q := pLdN (k := 0) f_157_0 rfl rfl rfl
theorem f_157_1 : oFet 157 1 = some (.iconst (-1), 1) := by decide +kernel
theorem s_157_1 {d : Nat} {l0 l1 : oV} {S : List oV} {σ : oSg} {Q : Option oV → (Nat → oC) → Prop} : oE d 157 1 [l0, l1] S σ Q = oE d 157 2 [l0, l1] (.inl (-1) :: S) σ Q := pKst f_157_1 (by decide)
theorem f_157_2 : oFet 157 2 = some (.if_icmp .ne 7, 3) := by decide +kernel
theorem s_157_2 {d : Nat} {l0 l1 : oV} {x y : Int} {S : List oV} {σ : oSg} {Q : Option oV → (Nat → oC) → Prop} : oE d 157 2 [l0, l1] (.inl y :: .inl x :: S) σ Q = if ¬ x = y then oE d 157 9 [l0, l1] S σ Q else oE d 157 5 [l0, l1] S σ Q := oCmpNe f_157_2 (by decide)
theorem f_157_5 : oFet 157 5 = some (.iload_n 1, 1) := by decide +kernel
theorem s_157_5 {d : Nat} {l0 : oV} {x : Int} {S : List oV} {σ : oSg} {Q : Option oV → (Nat → oC) → Prop} : oE d 157 5 [l0, .inl x] S σ Q = oE d 157 6 [l0, .inl x] (.inl x :: S) σ Q := pLdN (k := 1) f_157_5 rfl rfl rfl
theorem f_157_6 : oFet 157 6 = some (.goto 4, 3) := by decide +kernel
theorem s_157_6 {d : Nat} {l0 l1 : oV} {S : List oV} {σ : oSg} {Q : Option oV → (Nat → oC) → Prop} : oE d 157 6 [l0, l1] S σ Q = oE d 157 10 [l0, l1] S σ Q := pGoto f_157_6 (by decide)
theorem f_157_9 : oFet 157 9 = some (.iload_n 0, 1) := by decide +kernel
theorem s_157_9 {d : Nat} {l1 : oV} {x : Int} {S : List oV} {σ : oSg} {Q : Option oV → (Nat → oC) → Prop} : oE d 157 9 [.inl x, l1] S σ Q = oE d 157 10 [.inl x, l1] (.inl x :: S) σ Q := pLdN (k := 0) f_157_9 rfl rfl rfl
theorem f_157_10 : oFet 157 10 = some (.ireturn, 1) := by decide +kernel
theorem s_157_10 {d : Nat} {l0 l1 : oV} {x : Int} {σ : oSg} {Q : Option oV → (Nat → oC) → Prop} : oE d 157 10 [l0, l1] [.inl x] σ Q = Q (some (.inl x)) (oBld σ) := oIret f_157_10 rt_157
theorem ow_158 : (oMt 158).2.2.2.2.1 = 11 := by decide +kernel
theorem rt_158 : (oMt 158).2.2.2.1 = some .int := by decide +kernel
theorem nl_158 : (oMt 158).2.2.1 = 2 := by decide +kernel
theorem f_158_0 : oFet 158 0 = some (.iload_n 1, 1) := by decide +kernel
theorem s_158_0 {d : Nat} {l0 : oV} {x : Int} {S : List oV} {σ : oSg} {Q : Option oV → (Nat → oC) → Prop} : oE d 158 0 [l0, .inl x] S σ Q = oE d 158 1 [l0, .inl x] (.inl x :: S) σ Q := pLdN (k := 1) f_158_0 rfl rfl rfl
theorem f_158_1 : oFet 158 1 = some (.iconst 0, 1) := by decide +kernel
theorem s_158_1 {d : Nat} {l0 l1 : oV} {S : List oV} {σ : oSg} {Q : Option oV → (Nat → oC) → Prop} : oE d 158 1 [l0, l1] S σ Q = oE d 158 2 [l0, l1] (.inl (0) :: S) σ Q := pKst f_158_1 (by decide)
theorem f_158_2 : oFet 158 2 = some (.iconst 1, 1) := by decide +kernel
theorem s_158_2 {d : Nat} {l0 l1 : oV} {S : List oV} {σ : oSg} {Q : Option oV → (Nat → oC) → Prop} : oE d 158 2 [l0, l1] S σ Q = oE d 158 3 [l0, l1] (.inl (1) :: S) σ Q := pKst f_158_2 (by decide)
theorem f_158_3 : oFet 158 3 = some (.invokestatic 57, 3) := by decide +kernel
theorem c_158_3 {d : Nat} {l0 l1 : oV} {x0 x1 x2 : oV} {v : Option oV} {τ : oSg} {S : List oV} {σ : oSg} {Q : Option oV → (Nat → oC) → Prop} (hm : oMi d 146 [x0, x1, x2] σ v τ) (hs : oSmall S = true) : oE d 158 3 [l0, l1] (x2 :: x1 :: x0 :: S) σ Q = oE d 158 6 [l0, l1] (v.toList ++ S) τ Q := pCallS f_158_3 ow_158 lk_11_57 mt_146 rfl rfl rfl hs hm
theorem f_158_6 : oFet 158 6 = some (.ifCond .ne 6, 3) := by decide +kernel
theorem s_158_6 {d : Nat} {l0 l1 : oV} {x : Int} {S : List oV} {σ : oSg} {Q : Option oV → (Nat → oC) → Prop} : oE d 158 6 [l0, l1] (.inl x :: S) σ Q = if ¬ x = 0 then oE d 158 12 [l0, l1] S σ Q else oE d 158 9 [l0, l1] S σ Q := oIfNe f_158_6 (by decide)
theorem f_158_9 : oFet 158 9 = some (.bipush (-2), 2) := by decide +kernel
theorem s_158_9 {d : Nat} {l0 l1 : oV} {S : List oV} {σ : oSg} {Q : Option oV → (Nat → oC) → Prop} : oE d 158 9 [l0, l1] S σ Q = oE d 158 11 [l0, l1] (.inl (-2) :: S) σ Q := pBip f_158_9 (by decide)
theorem f_158_11 : oFet 158 11 = some (.ireturn, 1) := by decide +kernel
theorem s_158_11 {d : Nat} {l0 l1 : oV} {x : Int} {σ : oSg} {Q : Option oV → (Nat → oC) → Prop} : oE d 158 11 [l0, l1] [.inl x] σ Q = Q (some (.inl x)) (oBld σ) := oIret f_158_11 rt_158
theorem f_158_12 : oFet 158 12 = some (.aload_n 0, 1) := by decide +kernel
theorem s_158_12 {d : Nat} {l1 : oV} {a : Nat} {S : List oV} {σ : oSg} {Q : Option oV → (Nat → oC) → Prop} : oE d 158 12 [.inr (.inr (.inl a)), l1] S σ Q = oE d 158 13 [.inr (.inr (.inl a)), l1] (.inr (.inr (.inl a)) :: S) σ Q := pLdN (k := 0) f_158_12 rfl rfl rfl
theorem f_158_13 : oFet 158 13 = some (.iload_n 1, 1) := by decide +kernel
theorem s_158_13 {d : Nat} {l0 : oV} {x : Int} {S : List oV} {σ : oSg} {Q : Option oV → (Nat → oC) → Prop} : oE d 158 13 [l0, .inl x] S σ Q = oE d 158 14 [l0, .inl x] (.inl x :: S) σ Q := pLdN (k := 1) f_158_13 rfl rfl rfl
theorem f_158_14 : oFet 158 14 = some (.iconst (-1), 1) := by decide +kernel
theorem s_158_14 {d : Nat} {l0 l1 : oV} {S : List oV} {σ : oSg} {Q : Option oV → (Nat → oC) → Prop} : oE d 158 14 [l0, l1] S σ Q = oE d 158 15 [l0, l1] (.inl (-1) :: S) σ Q := pKst f_158_14 (by decide)
theorem f_158_15 : oFet 158 15 = some (.invokevirtual 105, 3) := by decide +kernel
theorem c_158_15 {d : Nat} {l0 l1 : oV} {x0 x1 : oV} {a : Nat} {v : Option oV} {τ : oSg} {S : List oV} {σ : oSg} {Q : Option oV → (Nat → oC) → Prop} (hm : oMi d 159 [.inr (.inr (.inl a)), x0, x1] σ v τ) (hk : oKd a = some 11) (hs : oSmall S = true) : oE d 158 15 [l0, l1] (x1 :: x0 :: .inr (.inr (.inl a)) :: S) σ Q = oE d 158 18 [l0, l1] (v.toList ++ S) τ Q := pCallV f_158_15 ow_158 lk_11_105 mt_159 rfl rfl rfl hk hs hm
theorem f_158_18 : oFet 158 18 = some (.aload_n 0, 1) := by decide +kernel
theorem s_158_18 {d : Nat} {l1 : oV} {a : Nat} {S : List oV} {σ : oSg} {Q : Option oV → (Nat → oC) → Prop} : oE d 158 18 [.inr (.inr (.inl a)), l1] S σ Q = oE d 158 19 [.inr (.inr (.inl a)), l1] (.inr (.inr (.inl a)) :: S) σ Q := pLdN (k := 0) f_158_18 rfl rfl rfl
theorem f_158_19 : oFet 158 19 = some (.getfield 33, 3) := by decide +kernel
theorem s_158_19 {d : Nat} {l0 l1 : oV} {a : Nat} {S : List oV} {σ : oSg} {Q : Option oV → (Nat → oC) → Prop} (hk : oKd a = some 11) : oE d 158 19 [l0, l1] (.inr (.inr (.inl a)) :: S) σ Q = oE d 158 22 [l0, l1] (.inr (.inr (.inl (oRf a 13))) :: S) σ Q := pGfR f_158_19 ow_158 fl_11_33 rfl (by decide) hk
theorem f_158_22 : oFet 158 22 = some (.iconst 0, 1) := by decide +kernel
theorem s_158_22 {d : Nat} {l0 l1 : oV} {S : List oV} {σ : oSg} {Q : Option oV → (Nat → oC) → Prop} : oE d 158 22 [l0, l1] S σ Q = oE d 158 23 [l0, l1] (.inl (0) :: S) σ Q := pKst f_158_22 (by decide)
theorem f_158_23 : oFet 158 23 = some (.aload_n 0, 1) := by decide +kernel
theorem s_158_23 {d : Nat} {l1 : oV} {a : Nat} {S : List oV} {σ : oSg} {Q : Option oV → (Nat → oC) → Prop} : oE d 158 23 [.inr (.inr (.inl a)), l1] S σ Q = oE d 158 24 [.inr (.inr (.inl a)), l1] (.inr (.inr (.inl a)) :: S) σ Q := pLdN (k := 0) f_158_23 rfl rfl rfl
theorem f_158_24 : oFet 158 24 = some (.getfield 11, 3) := by decide +kernel
theorem s_158_24 {d : Nat} {l0 l1 : oV} {a : Nat} {S : List oV} {σ : oSg} {Q : Option oV → (Nat → oC) → Prop} (hk : oKd a = some 11) : oE d 158 24 [l0, l1] (.inr (.inr (.inl a)) :: S) σ Q = oE d 158 27 [l0, l1] (.inr (.inr (.inl (oRf a 0))) :: S) σ Q := pGfR f_158_24 ow_158 fl_11_11 rfl (by decide) hk
theorem f_158_27 : oFet 158 27 = some (.bipush 50, 2) := by decide +kernel
theorem s_158_27 {d : Nat} {l0 l1 : oV} {S : List oV} {σ : oSg} {Q : Option oV → (Nat → oC) → Prop} : oE d 158 27 [l0, l1] S σ Q = oE d 158 29 [l0, l1] (.inl (50) :: S) σ Q := pBip f_158_27 (by decide)
theorem f_158_29 : oFet 158 29 = some (.bipush 7, 2) := by decide +kernel
theorem s_158_29 {d : Nat} {l0 l1 : oV} {S : List oV} {σ : oSg} {Q : Option oV → (Nat → oC) → Prop} : oE d 158 29 [l0, l1] S σ Q = oE d 158 31 [l0, l1] (.inl (7) :: S) σ Q := pBip f_158_29 (by decide)
theorem f_158_31 : oFet 158 31 = some (.invokestatic 69, 3) := by decide +kernel
theorem s_158_31 {d : Nat} {l0 l1 : oV} {a b : Nat} {sp dp n : Int} {S : List oV} {σ : oSg} {Q : Option oV → (Nat → oC) → Prop} (ha : oAk a = some 0) (hb : oAk b = some 0) (hs : oSmall S = true) (g1 : 0 ≤ sp) (g2 : 0 ≤ dp) (g3 : 0 ≤ n) (g4 : sp + n ≤ (oLn a : Int)) (g5 : dp + n ≤ (oLn b : Int)) : oE d 158 31 [l0, l1] (.inl n :: .inl dp :: .inr (.inr (.inl b)) :: .inl sp :: .inr (.inr (.inl a)) :: S) σ Q = oE d 158 34 [l0, l1] S (oCp σ a sp b dp n) Q := pCpy f_158_31 ow_158 lk_11_69 ha hb (by decide) hs g1 g2 g3 g4 g5
theorem f_158_34 : oFet 158 34 = some (.aload_n 0, 1) := by decide +kernel
theorem s_158_34 {d : Nat} {l1 : oV} {a : Nat} {S : List oV} {σ : oSg} {Q : Option oV → (Nat → oC) → Prop} : oE d 158 34 [.inr (.inr (.inl a)), l1] S σ Q = oE d 158 35 [.inr (.inr (.inl a)), l1] (.inr (.inr (.inl a)) :: S) σ Q := pLdN (k := 0) f_158_34 rfl rfl rfl
theorem f_158_35 : oFet 158 35 = some (.invokevirtual 98, 3) := by decide +kernel
theorem c_158_35 {d : Nat} {l0 l1 : oV} {a : Nat} {v : Option oV} {τ : oSg} {S : List oV} {σ : oSg} {Q : Option oV → (Nat → oC) → Prop} (hm : oMi d 155 [.inr (.inr (.inl a))] σ v τ) (hk : oKd a = some 11) (hs : oSmall S = true) : oE d 158 35 [l0, l1] (.inr (.inr (.inl a)) :: S) σ Q = oE d 158 38 [l0, l1] (v.toList ++ S) τ Q := pCallV f_158_35 ow_158 lk_11_98 mt_155 rfl rfl rfl hk hs hm
theorem f_158_38 : oFet 158 38 = some (.ireturn, 1) := by decide +kernel
theorem s_158_38 {d : Nat} {l0 l1 : oV} {x : Int} {σ : oSg} {Q : Option oV → (Nat → oC) → Prop} : oE d 158 38 [l0, l1] [.inl x] σ Q = Q (some (.inl x)) (oBld σ) := oIret f_158_38 rt_158
theorem ow_159 : (oMt 159).2.2.2.2.1 = 11 := by decide +kernel
theorem rt_159 : (oMt 159).2.2.2.1 = none := by decide +kernel
theorem nl_159 : (oMt 159).2.2.1 = 4 := by decide +kernel
theorem f_159_0 : oFet 159 0 = some (.aload_n 0, 1) := by decide +kernel
theorem s_159_0 {d : Nat} {l1 l2 l3 : oV} {a : Nat} {S : List oV} {σ : oSg} {Q : Option oV → (Nat → oC) → Prop} : oE d 159 0 [.inr (.inr (.inl a)), l1, l2, l3] S σ Q = oE d 159 1 [.inr (.inr (.inl a)), l1, l2, l3] (.inr (.inr (.inl a)) :: S) σ Q := pLdN (k := 0) f_159_0 rfl rfl rfl
theorem f_159_1 : oFet 159 1 = some (.iload_n 1, 1) := by decide +kernel
theorem s_159_1 {d : Nat} {l0 l2 l3 : oV} {x : Int} {S : List oV} {σ : oSg} {Q : Option oV → (Nat → oC) → Prop} : oE d 159 1 [l0, .inl x, l2, l3] S σ Q = oE d 159 2 [l0, .inl x, l2, l3] (.inl x :: S) σ Q := pLdN (k := 1) f_159_1 rfl rfl rfl
theorem f_159_2 : oFet 159 2 = some (.putfield 171, 3) := by decide +kernel
theorem s_159_2 {d : Nat} {l0 l1 l2 l3 : oV} {a : Nat} {v : Int} {S : List oV} {σ : oSg} {Q : Option oV → (Nat → oC) → Prop} (hk : oKd a = some 11) : oE d 159 2 [l0, l1, l2, l3] (.inl v :: .inr (.inr (.inl a)) :: S) σ Q = oE d 159 5 [l0, l1, l2, l3] S (oSF σ a 17 v) Q := pPfI f_159_2 ow_159 fl_11_171 rfl (by decide) rfl rfl hk
theorem f_159_5 : oFet 159 5 = some (.aload_n 0, 1) := by decide +kernel
theorem s_159_5 {d : Nat} {l1 l2 l3 : oV} {a : Nat} {S : List oV} {σ : oSg} {Q : Option oV → (Nat → oC) → Prop} : oE d 159 5 [.inr (.inr (.inl a)), l1, l2, l3] S σ Q = oE d 159 6 [.inr (.inr (.inl a)), l1, l2, l3] (.inr (.inr (.inl a)) :: S) σ Q := pLdN (k := 0) f_159_5 rfl rfl rfl
theorem f_159_6 : oFet 159 6 = some (.iload_n 2, 1) := by decide +kernel
theorem s_159_6 {d : Nat} {l0 l1 l3 : oV} {x : Int} {S : List oV} {σ : oSg} {Q : Option oV → (Nat → oC) → Prop} : oE d 159 6 [l0, l1, .inl x, l3] S σ Q = oE d 159 7 [l0, l1, .inl x, l3] (.inl x :: S) σ Q := pLdN (k := 2) f_159_6 rfl rfl rfl
theorem f_159_7 : oFet 159 7 = some (.putfield 174, 3) := by decide +kernel
theorem s_159_7 {d : Nat} {l0 l1 l2 l3 : oV} {a : Nat} {v : Int} {S : List oV} {σ : oSg} {Q : Option oV → (Nat → oC) → Prop} (hk : oKd a = some 11) : oE d 159 7 [l0, l1, l2, l3] (.inl v :: .inr (.inr (.inl a)) :: S) σ Q = oE d 159 10 [l0, l1, l2, l3] S (oSF σ a 16 v) Q := pPfI f_159_7 ow_159 fl_11_174 rfl (by decide) rfl rfl hk
theorem f_159_10 : oFet 159 10 = some (.aload_n 0, 1) := by decide +kernel
theorem s_159_10 {d : Nat} {l1 l2 l3 : oV} {a : Nat} {S : List oV} {σ : oSg} {Q : Option oV → (Nat → oC) → Prop} : oE d 159 10 [.inr (.inr (.inl a)), l1, l2, l3] S σ Q = oE d 159 11 [.inr (.inr (.inl a)), l1, l2, l3] (.inr (.inr (.inl a)) :: S) σ Q := pLdN (k := 0) f_159_10 rfl rfl rfl
theorem f_159_11 : oFet 159 11 = some (.iconst (-1), 1) := by decide +kernel
theorem s_159_11 {d : Nat} {l0 l1 l2 l3 : oV} {S : List oV} {σ : oSg} {Q : Option oV → (Nat → oC) → Prop} : oE d 159 11 [l0, l1, l2, l3] S σ Q = oE d 159 12 [l0, l1, l2, l3] (.inl (-1) :: S) σ Q := pKst f_159_11 (by decide)
theorem f_159_12 : oFet 159 12 = some (.putfield 177, 3) := by decide +kernel
theorem s_159_12 {d : Nat} {l0 l1 l2 l3 : oV} {a : Nat} {v : Int} {S : List oV} {σ : oSg} {Q : Option oV → (Nat → oC) → Prop} (hk : oKd a = some 11) : oE d 159 12 [l0, l1, l2, l3] (.inl v :: .inr (.inr (.inl a)) :: S) σ Q = oE d 159 15 [l0, l1, l2, l3] S (oSF σ a 14 v) Q := pPfI f_159_12 ow_159 fl_11_177 rfl (by decide) rfl rfl hk
theorem f_159_15 : oFet 159 15 = some (.aload_n 0, 1) := by decide +kernel
theorem s_159_15 {d : Nat} {l1 l2 l3 : oV} {a : Nat} {S : List oV} {σ : oSg} {Q : Option oV → (Nat → oC) → Prop} : oE d 159 15 [.inr (.inr (.inl a)), l1, l2, l3] S σ Q = oE d 159 16 [.inr (.inr (.inl a)), l1, l2, l3] (.inr (.inr (.inl a)) :: S) σ Q := pLdN (k := 0) f_159_15 rfl rfl rfl
theorem f_159_16 : oFet 159 16 = some (.iconst (-1), 1) := by decide +kernel
theorem s_159_16 {d : Nat} {l0 l1 l2 l3 : oV} {S : List oV} {σ : oSg} {Q : Option oV → (Nat → oC) → Prop} : oE d 159 16 [l0, l1, l2, l3] S σ Q = oE d 159 17 [l0, l1, l2, l3] (.inl (-1) :: S) σ Q := pKst f_159_16 (by decide)
theorem f_159_17 : oFet 159 17 = some (.putfield 180, 3) := by decide +kernel
theorem s_159_17 {d : Nat} {l0 l1 l2 l3 : oV} {a : Nat} {v : Int} {S : List oV} {σ : oSg} {Q : Option oV → (Nat → oC) → Prop} (hk : oKd a = some 11) : oE d 159 17 [l0, l1, l2, l3] (.inl v :: .inr (.inr (.inl a)) :: S) σ Q = oE d 159 20 [l0, l1, l2, l3] S (oSF σ a 15 v) Q := pPfI f_159_17 ow_159 fl_11_180 rfl (by decide) rfl rfl hk
theorem f_159_20 : oFet 159 20 = some (.iconst 0, 1) := by decide +kernel
theorem s_159_20 {d : Nat} {l0 l1 l2 l3 : oV} {S : List oV} {σ : oSg} {Q : Option oV → (Nat → oC) → Prop} : oE d 159 20 [l0, l1, l2, l3] S σ Q = oE d 159 21 [l0, l1, l2, l3] (.inl (0) :: S) σ Q := pKst f_159_20 (by decide)
theorem f_159_21 : oFet 159 21 = some (.istore_n 3, 1) := by decide +kernel
theorem s_159_21 {d : Nat} {l0 l1 l2 l3 : oV} {x : Int} {S : List oV} {σ : oSg} {Q : Option oV → (Nat → oC) → Prop} (c3 : oCat l3 = 1) (c2 : oCat l2 = 1)  : oE d 159 21 [l0, l1, l2, l3] (.inl x :: S) σ Q = oE d 159 22 [l0, l1, l2, .inl x] S σ Q := pSt (i := 3) f_159_21 rfl rfl (show (3 : Nat) < 4 by decide) (oC1n c2) (oC1n c3) rfl
theorem f_159_22 : oFet 159 22 = some (.iload_n 3, 1) := by decide +kernel
theorem s_159_22 {d : Nat} {l0 l1 l2 : oV} {x : Int} {S : List oV} {σ : oSg} {Q : Option oV → (Nat → oC) → Prop} : oE d 159 22 [l0, l1, l2, .inl x] S σ Q = oE d 159 23 [l0, l1, l2, .inl x] (.inl x :: S) σ Q := pLdN (k := 3) f_159_22 rfl rfl rfl
theorem f_159_23 : oFet 159 23 = some (.bipush 7, 2) := by decide +kernel
theorem s_159_23 {d : Nat} {l0 l1 l2 l3 : oV} {S : List oV} {σ : oSg} {Q : Option oV → (Nat → oC) → Prop} : oE d 159 23 [l0, l1, l2, l3] S σ Q = oE d 159 25 [l0, l1, l2, l3] (.inl (7) :: S) σ Q := pBip f_159_23 (by decide)
theorem f_159_25 : oFet 159 25 = some (.if_icmp .ge 16, 3) := by decide +kernel
theorem s_159_25 {d : Nat} {l0 l1 l2 l3 : oV} {x y : Int} {S : List oV} {σ : oSg} {Q : Option oV → (Nat → oC) → Prop} : oE d 159 25 [l0, l1, l2, l3] (.inl y :: .inl x :: S) σ Q = if y ≤ x then oE d 159 41 [l0, l1, l2, l3] S σ Q else oE d 159 28 [l0, l1, l2, l3] S σ Q := oCmpGe f_159_25 (by decide)
theorem f_159_28 : oFet 159 28 = some (.aload_n 0, 1) := by decide +kernel
theorem s_159_28 {d : Nat} {l1 l2 l3 : oV} {a : Nat} {S : List oV} {σ : oSg} {Q : Option oV → (Nat → oC) → Prop} : oE d 159 28 [.inr (.inr (.inl a)), l1, l2, l3] S σ Q = oE d 159 29 [.inr (.inr (.inl a)), l1, l2, l3] (.inr (.inr (.inl a)) :: S) σ Q := pLdN (k := 0) f_159_28 rfl rfl rfl
theorem f_159_29 : oFet 159 29 = some (.getfield 30, 3) := by decide +kernel
theorem s_159_29 {d : Nat} {l0 l1 l2 l3 : oV} {a : Nat} {S : List oV} {σ : oSg} {Q : Option oV → (Nat → oC) → Prop} (hk : oKd a = some 11) : oE d 159 29 [l0, l1, l2, l3] (.inr (.inr (.inl a)) :: S) σ Q = oE d 159 32 [l0, l1, l2, l3] (.inr (.inr (.inl (oRf a 12))) :: S) σ Q := pGfR f_159_29 ow_159 fl_11_30 rfl (by decide) hk
theorem f_159_32 : oFet 159 32 = some (.iload_n 3, 1) := by decide +kernel
theorem s_159_32 {d : Nat} {l0 l1 l2 : oV} {x : Int} {S : List oV} {σ : oSg} {Q : Option oV → (Nat → oC) → Prop} : oE d 159 32 [l0, l1, l2, .inl x] S σ Q = oE d 159 33 [l0, l1, l2, .inl x] (.inl x :: S) σ Q := pLdN (k := 3) f_159_32 rfl rfl rfl
theorem f_159_33 : oFet 159 33 = some (.iconst (-1), 1) := by decide +kernel
theorem s_159_33 {d : Nat} {l0 l1 l2 l3 : oV} {S : List oV} {σ : oSg} {Q : Option oV → (Nat → oC) → Prop} : oE d 159 33 [l0, l1, l2, l3] S σ Q = oE d 159 34 [l0, l1, l2, l3] (.inl (-1) :: S) σ Q := pKst f_159_33 (by decide)
theorem f_159_34 : oFet 159 34 = some (.iastore, 1) := by decide +kernel
theorem s_159_34 {d : Nat} {l0 l1 l2 l3 : oV} {a : Nat} {i v : Int} {S : List oV} {σ : oSg} {Q : Option oV → (Nat → oC) → Prop} (hk : oAk a = some 0) (h0 : 0 ≤ i) (h1 : i < (oLn a : Int)) : oE d 159 34 [l0, l1, l2, l3] (.inl v :: .inl i :: .inr (.inr (.inl a)) :: S) σ Q = oE d 159 35 [l0, l1, l2, l3] S (oSA σ a i.toNat v) Q := oIas f_159_34 hk h0 h1
theorem f_159_35 : oFet 159 35 = some (.iinc 3 1, 3) := by decide +kernel
theorem s_159_35 {d : Nat} {l0 l1 l2 : oV} {x : Int} {S : List oV} {σ : oSg} {Q : Option oV → (Nat → oC) → Prop} (c2 : oCat l2 = 1)  : oE d 159 35 [l0, l1, l2, .inl x] S σ Q = oE d 159 38 [l0, l1, l2, .inl (oAdd x (1))] S σ Q := pInc f_159_35 rfl (show (3 : Nat) < 4 by decide) (oC1n c2) (oC1n (v := .inl x) rfl) rfl
theorem f_159_38 : oFet 159 38 = some (.goto (-16), 3) := by decide +kernel
theorem s_159_38 {d : Nat} {l0 l1 l2 l3 : oV} {S : List oV} {σ : oSg} {Q : Option oV → (Nat → oC) → Prop} : oE d 159 38 [l0, l1, l2, l3] S σ Q = oE d 159 22 [l0, l1, l2, l3] S σ Q := pGoto f_159_38 (by decide)
theorem f_159_41 : oFet 159 41 = some (.aload_n 0, 1) := by decide +kernel
theorem s_159_41 {d : Nat} {l1 l2 l3 : oV} {a : Nat} {S : List oV} {σ : oSg} {Q : Option oV → (Nat → oC) → Prop} : oE d 159 41 [.inr (.inr (.inl a)), l1, l2, l3] S σ Q = oE d 159 42 [.inr (.inr (.inl a)), l1, l2, l3] (.inr (.inr (.inl a)) :: S) σ Q := pLdN (k := 0) f_159_41 rfl rfl rfl
theorem f_159_42 : oFet 159 42 = some (.iconst 0, 1) := by decide +kernel
theorem s_159_42 {d : Nat} {l0 l1 l2 l3 : oV} {S : List oV} {σ : oSg} {Q : Option oV → (Nat → oC) → Prop} : oE d 159 42 [l0, l1, l2, l3] S σ Q = oE d 159 43 [l0, l1, l2, l3] (.inl (0) :: S) σ Q := pKst f_159_42 (by decide)
theorem f_159_43 : oFet 159 43 = some (.iconst 0, 1) := by decide +kernel
theorem s_159_43 {d : Nat} {l0 l1 l2 l3 : oV} {S : List oV} {σ : oSg} {Q : Option oV → (Nat → oC) → Prop} : oE d 159 43 [l0, l1, l2, l3] S σ Q = oE d 159 44 [l0, l1, l2, l3] (.inl (0) :: S) σ Q := pKst f_159_43 (by decide)
theorem f_159_44 : oFet 159 44 = some (.iconst 0, 1) := by decide +kernel
theorem s_159_44 {d : Nat} {l0 l1 l2 l3 : oV} {S : List oV} {σ : oSg} {Q : Option oV → (Nat → oC) → Prop} : oE d 159 44 [l0, l1, l2, l3] S σ Q = oE d 159 45 [l0, l1, l2, l3] (.inl (0) :: S) σ Q := pKst f_159_44 (by decide)
theorem f_159_45 : oFet 159 45 = some (.invokevirtual 183, 3) := by decide +kernel
theorem c_159_45 {d : Nat} {l0 l1 l2 l3 : oV} {x0 x1 x2 : oV} {a : Nat} {v : Option oV} {τ : oSg} {S : List oV} {σ : oSg} {Q : Option oV → (Nat → oC) → Prop} (hm : oMi d 160 [.inr (.inr (.inl a)), x0, x1, x2] σ v τ) (hk : oKd a = some 11) (hs : oSmall S = true) : oE d 159 45 [l0, l1, l2, l3] (x2 :: x1 :: x0 :: .inr (.inr (.inl a)) :: S) σ Q = oE d 159 48 [l0, l1, l2, l3] (v.toList ++ S) τ Q := pCallV f_159_45 ow_159 lk_11_183 mt_160 rfl rfl rfl hk hs hm
theorem f_159_48 : oFet 159 48 = some (.return_, 1) := by decide +kernel
theorem s_159_48 {d : Nat} {l0 l1 l2 l3 : oV} {σ : oSg} {Q : Option oV → (Nat → oC) → Prop} : oE d 159 48 [l0, l1, l2, l3] [] σ Q = Q none (oBld σ) := oVret f_159_48 rt_159
theorem ow_160 : (oMt 160).2.2.2.2.1 = 11 := by decide +kernel
theorem rt_160 : (oMt 160).2.2.2.1 = none := by decide +kernel
theorem nl_160 : (oMt 160).2.2.1 = 5 := by decide +kernel
theorem f_160_0 : oFet 160 0 = some (.iload_n 1, 1) := by decide +kernel
theorem s_160_0 {d : Nat} {l0 l2 l3 l4 : oV} {x : Int} {S : List oV} {σ : oSg} {Q : Option oV → (Nat → oC) → Prop} : oE d 160 0 [l0, .inl x, l2, l3, l4] S σ Q = oE d 160 1 [l0, .inl x, l2, l3, l4] (.inl x :: S) σ Q := pLdN (k := 1) f_160_0 rfl rfl rfl
theorem f_160_1 : oFet 160 1 = some (.aload_n 0, 1) := by decide +kernel
theorem s_160_1 {d : Nat} {l1 l2 l3 l4 : oV} {a : Nat} {S : List oV} {σ : oSg} {Q : Option oV → (Nat → oC) → Prop} : oE d 160 1 [.inr (.inr (.inl a)), l1, l2, l3, l4] S σ Q = oE d 160 2 [.inr (.inr (.inl a)), l1, l2, l3, l4] (.inr (.inr (.inl a)) :: S) σ Q := pLdN (k := 0) f_160_1 rfl rfl rfl
theorem f_160_2 : oFet 160 2 = some (.getfield 11, 3) := by decide +kernel
theorem s_160_2 {d : Nat} {l0 l1 l2 l3 l4 : oV} {a : Nat} {S : List oV} {σ : oSg} {Q : Option oV → (Nat → oC) → Prop} (hk : oKd a = some 11) : oE d 160 2 [l0, l1, l2, l3, l4] (.inr (.inr (.inl a)) :: S) σ Q = oE d 160 5 [l0, l1, l2, l3, l4] (.inr (.inr (.inl (oRf a 0))) :: S) σ Q := pGfR f_160_2 ow_160 fl_11_11 rfl (by decide) hk
theorem f_160_5 : oFet 160 5 = some (.iconst 0, 1) := by decide +kernel
theorem s_160_5 {d : Nat} {l0 l1 l2 l3 l4 : oV} {S : List oV} {σ : oSg} {Q : Option oV → (Nat → oC) → Prop} : oE d 160 5 [l0, l1, l2, l3, l4] S σ Q = oE d 160 6 [l0, l1, l2, l3, l4] (.inl (0) :: S) σ Q := pKst f_160_5 (by decide)
theorem f_160_6 : oFet 160 6 = some (.iaload, 1) := by decide +kernel
theorem s_160_6 {d : Nat} {l0 l1 l2 l3 l4 : oV} {a : Nat} {i : Int} {S : List oV} {σ : oSg} {Q : Option oV → (Nat → oC) → Prop} (hk : oAk a = some 0) (h0 : 0 ≤ i) (h1 : i < (oLn a : Int)) : oE d 160 6 [l0, l1, l2, l3, l4] (.inl i :: .inr (.inr (.inl a)) :: S) σ Q = oE d 160 7 [l0, l1, l2, l3, l4] (.inl (σ.2 a i.toNat) :: S) σ Q := oIal f_160_6 hk h0 h1
theorem f_160_7 : oFet 160 7 = some (.if_icmp .ne 89, 3) := by decide +kernel
theorem s_160_7 {d : Nat} {l0 l1 l2 l3 l4 : oV} {x y : Int} {S : List oV} {σ : oSg} {Q : Option oV → (Nat → oC) → Prop} : oE d 160 7 [l0, l1, l2, l3, l4] (.inl y :: .inl x :: S) σ Q = if ¬ x = y then oE d 160 96 [l0, l1, l2, l3, l4] S σ Q else oE d 160 10 [l0, l1, l2, l3, l4] S σ Q := oCmpNe f_160_7 (by decide)
theorem f_160_10 : oFet 160 10 = some (.aload_n 0, 1) := by decide +kernel
theorem s_160_10 {d : Nat} {l1 l2 l3 l4 : oV} {a : Nat} {S : List oV} {σ : oSg} {Q : Option oV → (Nat → oC) → Prop} : oE d 160 10 [.inr (.inr (.inl a)), l1, l2, l3, l4] S σ Q = oE d 160 11 [.inr (.inr (.inl a)), l1, l2, l3, l4] (.inr (.inr (.inl a)) :: S) σ Q := pLdN (k := 0) f_160_10 rfl rfl rfl
theorem f_160_11 : oFet 160 11 = some (.getfield 171, 3) := by decide +kernel
theorem s_160_11 {d : Nat} {l0 l1 l2 l3 l4 : oV} {a : Nat} {S : List oV} {σ : oSg} {Q : Option oV → (Nat → oC) → Prop} (hk : oKd a = some 11) : oE d 160 11 [l0, l1, l2, l3, l4] (.inr (.inr (.inl a)) :: S) σ Q = oE d 160 14 [l0, l1, l2, l3, l4] (.inl (σ.1 a 17) :: S) σ Q := pGfI f_160_11 ow_160 fl_11_171 rfl (by decide) hk
theorem f_160_14 : oFet 160 14 = some (.ifCond .ne 19, 3) := by decide +kernel
theorem s_160_14 {d : Nat} {l0 l1 l2 l3 l4 : oV} {x : Int} {S : List oV} {σ : oSg} {Q : Option oV → (Nat → oC) → Prop} : oE d 160 14 [l0, l1, l2, l3, l4] (.inl x :: S) σ Q = if ¬ x = 0 then oE d 160 33 [l0, l1, l2, l3, l4] S σ Q else oE d 160 17 [l0, l1, l2, l3, l4] S σ Q := oIfNe f_160_14 (by decide)
theorem f_160_17 : oFet 160 17 = some (.iload_n 3, 1) := by decide +kernel
theorem s_160_17 {d : Nat} {l0 l1 l2 l4 : oV} {x : Int} {S : List oV} {σ : oSg} {Q : Option oV → (Nat → oC) → Prop} : oE d 160 17 [l0, l1, l2, .inl x, l4] S σ Q = oE d 160 18 [l0, l1, l2, .inl x, l4] (.inl x :: S) σ Q := pLdN (k := 3) f_160_17 rfl rfl rfl
theorem f_160_18 : oFet 160 18 = some (.aload_n 0, 1) := by decide +kernel
theorem s_160_18 {d : Nat} {l1 l2 l3 l4 : oV} {a : Nat} {S : List oV} {σ : oSg} {Q : Option oV → (Nat → oC) → Prop} : oE d 160 18 [.inr (.inr (.inl a)), l1, l2, l3, l4] S σ Q = oE d 160 19 [.inr (.inr (.inl a)), l1, l2, l3, l4] (.inr (.inr (.inl a)) :: S) σ Q := pLdN (k := 0) f_160_18 rfl rfl rfl
theorem f_160_19 : oFet 160 19 = some (.getfield 180, 3) := by decide +kernel
theorem s_160_19 {d : Nat} {l0 l1 l2 l3 l4 : oV} {a : Nat} {S : List oV} {σ : oSg} {Q : Option oV → (Nat → oC) → Prop} (hk : oKd a = some 11) : oE d 160 19 [l0, l1, l2, l3, l4] (.inr (.inr (.inl a)) :: S) σ Q = oE d 160 22 [l0, l1, l2, l3, l4] (.inl (σ.1 a 15) :: S) σ Q := pGfI f_160_19 ow_160 fl_11_180 rfl (by decide) hk
theorem f_160_22 : oFet 160 22 = some (.if_icmp .le 7, 3) := by decide +kernel
theorem s_160_22 {d : Nat} {l0 l1 l2 l3 l4 : oV} {x y : Int} {S : List oV} {σ : oSg} {Q : Option oV → (Nat → oC) → Prop} : oE d 160 22 [l0, l1, l2, l3, l4] (.inl y :: .inl x :: S) σ Q = if x ≤ y then oE d 160 29 [l0, l1, l2, l3, l4] S σ Q else oE d 160 25 [l0, l1, l2, l3, l4] S σ Q := oCmpLe f_160_22 (by decide)
theorem f_160_25 : oFet 160 25 = some (.iconst 1, 1) := by decide +kernel
theorem s_160_25 {d : Nat} {l0 l1 l2 l3 l4 : oV} {S : List oV} {σ : oSg} {Q : Option oV → (Nat → oC) → Prop} : oE d 160 25 [l0, l1, l2, l3, l4] S σ Q = oE d 160 26 [l0, l1, l2, l3, l4] (.inl (1) :: S) σ Q := pKst f_160_25 (by decide)
theorem f_160_26 : oFet 160 26 = some (.goto 36, 3) := by decide +kernel
theorem s_160_26 {d : Nat} {l0 l1 l2 l3 l4 : oV} {S : List oV} {σ : oSg} {Q : Option oV → (Nat → oC) → Prop} : oE d 160 26 [l0, l1, l2, l3, l4] S σ Q = oE d 160 62 [l0, l1, l2, l3, l4] S σ Q := pGoto f_160_26 (by decide)
theorem f_160_29 : oFet 160 29 = some (.iconst 0, 1) := by decide +kernel
theorem s_160_29 {d : Nat} {l0 l1 l2 l3 l4 : oV} {S : List oV} {σ : oSg} {Q : Option oV → (Nat → oC) → Prop} : oE d 160 29 [l0, l1, l2, l3, l4] S σ Q = oE d 160 30 [l0, l1, l2, l3, l4] (.inl (0) :: S) σ Q := pKst f_160_29 (by decide)
theorem f_160_30 : oFet 160 30 = some (.goto 32, 3) := by decide +kernel
theorem s_160_30 {d : Nat} {l0 l1 l2 l3 l4 : oV} {S : List oV} {σ : oSg} {Q : Option oV → (Nat → oC) → Prop} : oE d 160 30 [l0, l1, l2, l3, l4] S σ Q = oE d 160 62 [l0, l1, l2, l3, l4] S σ Q := pGoto f_160_30 (by decide)
theorem f_160_33 : oFet 160 33 = some (.iload_n 2, 1) := by decide +kernel
theorem s_160_33 {d : Nat} {l0 l1 l3 l4 : oV} {x : Int} {S : List oV} {σ : oSg} {Q : Option oV → (Nat → oC) → Prop} : oE d 160 33 [l0, l1, .inl x, l3, l4] S σ Q = oE d 160 34 [l0, l1, .inl x, l3, l4] (.inl x :: S) σ Q := pLdN (k := 2) f_160_33 rfl rfl rfl
theorem f_160_34 : oFet 160 34 = some (.aload_n 0, 1) := by decide +kernel
theorem s_160_34 {d : Nat} {l1 l2 l3 l4 : oV} {a : Nat} {S : List oV} {σ : oSg} {Q : Option oV → (Nat → oC) → Prop} : oE d 160 34 [.inr (.inr (.inl a)), l1, l2, l3, l4] S σ Q = oE d 160 35 [.inr (.inr (.inl a)), l1, l2, l3, l4] (.inr (.inr (.inl a)) :: S) σ Q := pLdN (k := 0) f_160_34 rfl rfl rfl
theorem f_160_35 : oFet 160 35 = some (.getfield 177, 3) := by decide +kernel
theorem s_160_35 {d : Nat} {l0 l1 l2 l3 l4 : oV} {a : Nat} {S : List oV} {σ : oSg} {Q : Option oV → (Nat → oC) → Prop} (hk : oKd a = some 11) : oE d 160 35 [l0, l1, l2, l3, l4] (.inr (.inr (.inl a)) :: S) σ Q = oE d 160 38 [l0, l1, l2, l3, l4] (.inl (σ.1 a 14) :: S) σ Q := pGfI f_160_35 ow_160 fl_11_177 rfl (by decide) hk
theorem f_160_38 : oFet 160 38 = some (.if_icmp .gt 19, 3) := by decide +kernel
theorem s_160_38 {d : Nat} {l0 l1 l2 l3 l4 : oV} {x y : Int} {S : List oV} {σ : oSg} {Q : Option oV → (Nat → oC) → Prop} : oE d 160 38 [l0, l1, l2, l3, l4] (.inl y :: .inl x :: S) σ Q = if y < x then oE d 160 57 [l0, l1, l2, l3, l4] S σ Q else oE d 160 41 [l0, l1, l2, l3, l4] S σ Q := oCmpGt f_160_38 (by decide)
theorem f_160_41 : oFet 160 41 = some (.iload_n 2, 1) := by decide +kernel
theorem s_160_41 {d : Nat} {l0 l1 l3 l4 : oV} {x : Int} {S : List oV} {σ : oSg} {Q : Option oV → (Nat → oC) → Prop} : oE d 160 41 [l0, l1, .inl x, l3, l4] S σ Q = oE d 160 42 [l0, l1, .inl x, l3, l4] (.inl x :: S) σ Q := pLdN (k := 2) f_160_41 rfl rfl rfl
theorem f_160_42 : oFet 160 42 = some (.aload_n 0, 1) := by decide +kernel
theorem s_160_42 {d : Nat} {l1 l2 l3 l4 : oV} {a : Nat} {S : List oV} {σ : oSg} {Q : Option oV → (Nat → oC) → Prop} : oE d 160 42 [.inr (.inr (.inl a)), l1, l2, l3, l4] S σ Q = oE d 160 43 [.inr (.inr (.inl a)), l1, l2, l3, l4] (.inr (.inr (.inl a)) :: S) σ Q := pLdN (k := 0) f_160_42 rfl rfl rfl
theorem f_160_43 : oFet 160 43 = some (.getfield 177, 3) := by decide +kernel
theorem s_160_43 {d : Nat} {l0 l1 l2 l3 l4 : oV} {a : Nat} {S : List oV} {σ : oSg} {Q : Option oV → (Nat → oC) → Prop} (hk : oKd a = some 11) : oE d 160 43 [l0, l1, l2, l3, l4] (.inr (.inr (.inl a)) :: S) σ Q = oE d 160 46 [l0, l1, l2, l3, l4] (.inl (σ.1 a 14) :: S) σ Q := pGfI f_160_43 ow_160 fl_11_177 rfl (by decide) hk
theorem f_160_46 : oFet 160 46 = some (.if_icmp .ne 15, 3) := by decide +kernel
theorem s_160_46 {d : Nat} {l0 l1 l2 l3 l4 : oV} {x y : Int} {S : List oV} {σ : oSg} {Q : Option oV → (Nat → oC) → Prop} : oE d 160 46 [l0, l1, l2, l3, l4] (.inl y :: .inl x :: S) σ Q = if ¬ x = y then oE d 160 61 [l0, l1, l2, l3, l4] S σ Q else oE d 160 49 [l0, l1, l2, l3, l4] S σ Q := oCmpNe f_160_46 (by decide)
theorem f_160_49 : oFet 160 49 = some (.iload_n 3, 1) := by decide +kernel
theorem s_160_49 {d : Nat} {l0 l1 l2 l4 : oV} {x : Int} {S : List oV} {σ : oSg} {Q : Option oV → (Nat → oC) → Prop} : oE d 160 49 [l0, l1, l2, .inl x, l4] S σ Q = oE d 160 50 [l0, l1, l2, .inl x, l4] (.inl x :: S) σ Q := pLdN (k := 3) f_160_49 rfl rfl rfl
theorem f_160_50 : oFet 160 50 = some (.aload_n 0, 1) := by decide +kernel
theorem s_160_50 {d : Nat} {l1 l2 l3 l4 : oV} {a : Nat} {S : List oV} {σ : oSg} {Q : Option oV → (Nat → oC) → Prop} : oE d 160 50 [.inr (.inr (.inl a)), l1, l2, l3, l4] S σ Q = oE d 160 51 [.inr (.inr (.inl a)), l1, l2, l3, l4] (.inr (.inr (.inl a)) :: S) σ Q := pLdN (k := 0) f_160_50 rfl rfl rfl
theorem f_160_51 : oFet 160 51 = some (.getfield 180, 3) := by decide +kernel
theorem s_160_51 {d : Nat} {l0 l1 l2 l3 l4 : oV} {a : Nat} {S : List oV} {σ : oSg} {Q : Option oV → (Nat → oC) → Prop} (hk : oKd a = some 11) : oE d 160 51 [l0, l1, l2, l3, l4] (.inr (.inr (.inl a)) :: S) σ Q = oE d 160 54 [l0, l1, l2, l3, l4] (.inl (σ.1 a 15) :: S) σ Q := pGfI f_160_51 ow_160 fl_11_180 rfl (by decide) hk
theorem f_160_54 : oFet 160 54 = some (.if_icmp .le 7, 3) := by decide +kernel
theorem s_160_54 {d : Nat} {l0 l1 l2 l3 l4 : oV} {x y : Int} {S : List oV} {σ : oSg} {Q : Option oV → (Nat → oC) → Prop} : oE d 160 54 [l0, l1, l2, l3, l4] (.inl y :: .inl x :: S) σ Q = if x ≤ y then oE d 160 61 [l0, l1, l2, l3, l4] S σ Q else oE d 160 57 [l0, l1, l2, l3, l4] S σ Q := oCmpLe f_160_54 (by decide)
theorem f_160_57 : oFet 160 57 = some (.iconst 1, 1) := by decide +kernel
theorem s_160_57 {d : Nat} {l0 l1 l2 l3 l4 : oV} {S : List oV} {σ : oSg} {Q : Option oV → (Nat → oC) → Prop} : oE d 160 57 [l0, l1, l2, l3, l4] S σ Q = oE d 160 58 [l0, l1, l2, l3, l4] (.inl (1) :: S) σ Q := pKst f_160_57 (by decide)
theorem f_160_58 : oFet 160 58 = some (.goto 4, 3) := by decide +kernel
theorem s_160_58 {d : Nat} {l0 l1 l2 l3 l4 : oV} {S : List oV} {σ : oSg} {Q : Option oV → (Nat → oC) → Prop} : oE d 160 58 [l0, l1, l2, l3, l4] S σ Q = oE d 160 62 [l0, l1, l2, l3, l4] S σ Q := pGoto f_160_58 (by decide)
theorem f_160_61 : oFet 160 61 = some (.iconst 0, 1) := by decide +kernel
theorem s_160_61 {d : Nat} {l0 l1 l2 l3 l4 : oV} {S : List oV} {σ : oSg} {Q : Option oV → (Nat → oC) → Prop} : oE d 160 61 [l0, l1, l2, l3, l4] S σ Q = oE d 160 62 [l0, l1, l2, l3, l4] (.inl (0) :: S) σ Q := pKst f_160_61 (by decide)
theorem f_160_62 : oFet 160 62 = some (.istore 4, 2) := by decide +kernel
theorem s_160_62 {d : Nat} {l0 l1 l2 l3 l4 : oV} {x : Int} {S : List oV} {σ : oSg} {Q : Option oV → (Nat → oC) → Prop} (c4 : oCat l4 = 1) (c3 : oCat l3 = 1)  : oE d 160 62 [l0, l1, l2, l3, l4] (.inl x :: S) σ Q = oE d 160 64 [l0, l1, l2, l3, .inl x] S σ Q := pSt (i := 4) f_160_62 rfl rfl (show (4 : Nat) < 5 by decide) (oC1n c3) (oC1n c4) rfl
theorem f_160_64 : oFet 160 64 = some (.iload 4, 2) := by decide +kernel
theorem s_160_64 {d : Nat} {l0 l1 l2 l3 : oV} {x : Int} {S : List oV} {σ : oSg} {Q : Option oV → (Nat → oC) → Prop} : oE d 160 64 [l0, l1, l2, l3, .inl x] S σ Q = oE d 160 66 [l0, l1, l2, l3, .inl x] (.inl x :: S) σ Q := pLd (i := 4) f_160_64 rfl rfl rfl
theorem f_160_66 : oFet 160 66 = some (.ifCond .ne 4, 3) := by decide +kernel
theorem s_160_66 {d : Nat} {l0 l1 l2 l3 l4 : oV} {x : Int} {S : List oV} {σ : oSg} {Q : Option oV → (Nat → oC) → Prop} : oE d 160 66 [l0, l1, l2, l3, l4] (.inl x :: S) σ Q = if ¬ x = 0 then oE d 160 70 [l0, l1, l2, l3, l4] S σ Q else oE d 160 69 [l0, l1, l2, l3, l4] S σ Q := oIfNe f_160_66 (by decide)
theorem f_160_69 : oFet 160 69 = some (.return_, 1) := by decide +kernel
theorem s_160_69 {d : Nat} {l0 l1 l2 l3 l4 : oV} {σ : oSg} {Q : Option oV → (Nat → oC) → Prop} : oE d 160 69 [l0, l1, l2, l3, l4] [] σ Q = Q none (oBld σ) := oVret f_160_69 rt_160
theorem f_160_70 : oFet 160 70 = some (.aload_n 0, 1) := by decide +kernel
theorem s_160_70 {d : Nat} {l1 l2 l3 l4 : oV} {a : Nat} {S : List oV} {σ : oSg} {Q : Option oV → (Nat → oC) → Prop} : oE d 160 70 [.inr (.inr (.inl a)), l1, l2, l3, l4] S σ Q = oE d 160 71 [.inr (.inr (.inl a)), l1, l2, l3, l4] (.inr (.inr (.inl a)) :: S) σ Q := pLdN (k := 0) f_160_70 rfl rfl rfl
theorem f_160_71 : oFet 160 71 = some (.iload_n 2, 1) := by decide +kernel
theorem s_160_71 {d : Nat} {l0 l1 l3 l4 : oV} {x : Int} {S : List oV} {σ : oSg} {Q : Option oV → (Nat → oC) → Prop} : oE d 160 71 [l0, l1, .inl x, l3, l4] S σ Q = oE d 160 72 [l0, l1, .inl x, l3, l4] (.inl x :: S) σ Q := pLdN (k := 2) f_160_71 rfl rfl rfl
theorem f_160_72 : oFet 160 72 = some (.putfield 177, 3) := by decide +kernel
theorem s_160_72 {d : Nat} {l0 l1 l2 l3 l4 : oV} {a : Nat} {v : Int} {S : List oV} {σ : oSg} {Q : Option oV → (Nat → oC) → Prop} (hk : oKd a = some 11) : oE d 160 72 [l0, l1, l2, l3, l4] (.inl v :: .inr (.inr (.inl a)) :: S) σ Q = oE d 160 75 [l0, l1, l2, l3, l4] S (oSF σ a 14 v) Q := pPfI f_160_72 ow_160 fl_11_177 rfl (by decide) rfl rfl hk
theorem f_160_75 : oFet 160 75 = some (.aload_n 0, 1) := by decide +kernel
theorem s_160_75 {d : Nat} {l1 l2 l3 l4 : oV} {a : Nat} {S : List oV} {σ : oSg} {Q : Option oV → (Nat → oC) → Prop} : oE d 160 75 [.inr (.inr (.inl a)), l1, l2, l3, l4] S σ Q = oE d 160 76 [.inr (.inr (.inl a)), l1, l2, l3, l4] (.inr (.inr (.inl a)) :: S) σ Q := pLdN (k := 0) f_160_75 rfl rfl rfl
theorem f_160_76 : oFet 160 76 = some (.iload_n 3, 1) := by decide +kernel
theorem s_160_76 {d : Nat} {l0 l1 l2 l4 : oV} {x : Int} {S : List oV} {σ : oSg} {Q : Option oV → (Nat → oC) → Prop} : oE d 160 76 [l0, l1, l2, .inl x, l4] S σ Q = oE d 160 77 [l0, l1, l2, .inl x, l4] (.inl x :: S) σ Q := pLdN (k := 3) f_160_76 rfl rfl rfl
theorem f_160_77 : oFet 160 77 = some (.putfield 180, 3) := by decide +kernel
theorem s_160_77 {d : Nat} {l0 l1 l2 l3 l4 : oV} {a : Nat} {v : Int} {S : List oV} {σ : oSg} {Q : Option oV → (Nat → oC) → Prop} (hk : oKd a = some 11) : oE d 160 77 [l0, l1, l2, l3, l4] (.inl v :: .inr (.inr (.inl a)) :: S) σ Q = oE d 160 80 [l0, l1, l2, l3, l4] S (oSF σ a 15 v) Q := pPfI f_160_77 ow_160 fl_11_180 rfl (by decide) rfl rfl hk
theorem f_160_80 : oFet 160 80 = some (.aload_n 0, 1) := by decide +kernel
theorem s_160_80 {d : Nat} {l1 l2 l3 l4 : oV} {a : Nat} {S : List oV} {σ : oSg} {Q : Option oV → (Nat → oC) → Prop} : oE d 160 80 [.inr (.inr (.inl a)), l1, l2, l3, l4] S σ Q = oE d 160 81 [.inr (.inr (.inl a)), l1, l2, l3, l4] (.inr (.inr (.inl a)) :: S) σ Q := pLdN (k := 0) f_160_80 rfl rfl rfl
theorem f_160_81 : oFet 160 81 = some (.getfield 30, 3) := by decide +kernel
theorem s_160_81 {d : Nat} {l0 l1 l2 l3 l4 : oV} {a : Nat} {S : List oV} {σ : oSg} {Q : Option oV → (Nat → oC) → Prop} (hk : oKd a = some 11) : oE d 160 81 [l0, l1, l2, l3, l4] (.inr (.inr (.inl a)) :: S) σ Q = oE d 160 84 [l0, l1, l2, l3, l4] (.inr (.inr (.inl (oRf a 12))) :: S) σ Q := pGfR f_160_81 ow_160 fl_11_30 rfl (by decide) hk
theorem f_160_84 : oFet 160 84 = some (.iconst 0, 1) := by decide +kernel
theorem s_160_84 {d : Nat} {l0 l1 l2 l3 l4 : oV} {S : List oV} {σ : oSg} {Q : Option oV → (Nat → oC) → Prop} : oE d 160 84 [l0, l1, l2, l3, l4] S σ Q = oE d 160 85 [l0, l1, l2, l3, l4] (.inl (0) :: S) σ Q := pKst f_160_84 (by decide)
theorem f_160_85 : oFet 160 85 = some (.aload_n 0, 1) := by decide +kernel
theorem s_160_85 {d : Nat} {l1 l2 l3 l4 : oV} {a : Nat} {S : List oV} {σ : oSg} {Q : Option oV → (Nat → oC) → Prop} : oE d 160 85 [.inr (.inr (.inl a)), l1, l2, l3, l4] S σ Q = oE d 160 86 [.inr (.inr (.inl a)), l1, l2, l3, l4] (.inr (.inr (.inl a)) :: S) σ Q := pLdN (k := 0) f_160_85 rfl rfl rfl
theorem f_160_86 : oFet 160 86 = some (.getfield 33, 3) := by decide +kernel
theorem s_160_86 {d : Nat} {l0 l1 l2 l3 l4 : oV} {a : Nat} {S : List oV} {σ : oSg} {Q : Option oV → (Nat → oC) → Prop} (hk : oKd a = some 11) : oE d 160 86 [l0, l1, l2, l3, l4] (.inr (.inr (.inl a)) :: S) σ Q = oE d 160 89 [l0, l1, l2, l3, l4] (.inr (.inr (.inl (oRf a 13))) :: S) σ Q := pGfR f_160_86 ow_160 fl_11_33 rfl (by decide) hk
theorem f_160_89 : oFet 160 89 = some (.iconst 0, 1) := by decide +kernel
theorem s_160_89 {d : Nat} {l0 l1 l2 l3 l4 : oV} {S : List oV} {σ : oSg} {Q : Option oV → (Nat → oC) → Prop} : oE d 160 89 [l0, l1, l2, l3, l4] S σ Q = oE d 160 90 [l0, l1, l2, l3, l4] (.inl (0) :: S) σ Q := pKst f_160_89 (by decide)
theorem f_160_90 : oFet 160 90 = some (.bipush 7, 2) := by decide +kernel
theorem s_160_90 {d : Nat} {l0 l1 l2 l3 l4 : oV} {S : List oV} {σ : oSg} {Q : Option oV → (Nat → oC) → Prop} : oE d 160 90 [l0, l1, l2, l3, l4] S σ Q = oE d 160 92 [l0, l1, l2, l3, l4] (.inl (7) :: S) σ Q := pBip f_160_90 (by decide)
theorem f_160_92 : oFet 160 92 = some (.invokestatic 69, 3) := by decide +kernel
theorem s_160_92 {d : Nat} {l0 l1 l2 l3 l4 : oV} {a b : Nat} {sp dp n : Int} {S : List oV} {σ : oSg} {Q : Option oV → (Nat → oC) → Prop} (ha : oAk a = some 0) (hb : oAk b = some 0) (hs : oSmall S = true) (g1 : 0 ≤ sp) (g2 : 0 ≤ dp) (g3 : 0 ≤ n) (g4 : sp + n ≤ (oLn a : Int)) (g5 : dp + n ≤ (oLn b : Int)) : oE d 160 92 [l0, l1, l2, l3, l4] (.inl n :: .inl dp :: .inr (.inr (.inl b)) :: .inl sp :: .inr (.inr (.inl a)) :: S) σ Q = oE d 160 95 [l0, l1, l2, l3, l4] S (oCp σ a sp b dp n) Q := pCpy f_160_92 ow_160 lk_11_69 ha hb (by decide) hs g1 g2 g3 g4 g5
theorem f_160_95 : oFet 160 95 = some (.return_, 1) := by decide +kernel
theorem s_160_95 {d : Nat} {l0 l1 l2 l3 l4 : oV} {σ : oSg} {Q : Option oV → (Nat → oC) → Prop} : oE d 160 95 [l0, l1, l2, l3, l4] [] σ Q = Q none (oBld σ) := oVret f_160_95 rt_160
theorem f_160_96 : oFet 160 96 = some (.aload_n 0, 1) := by decide +kernel
theorem s_160_96 {d : Nat} {l1 l2 l3 l4 : oV} {a : Nat} {S : List oV} {σ : oSg} {Q : Option oV → (Nat → oC) → Prop} : oE d 160 96 [.inr (.inr (.inl a)), l1, l2, l3, l4] S σ Q = oE d 160 97 [.inr (.inr (.inl a)), l1, l2, l3, l4] (.inr (.inr (.inl a)) :: S) σ Q := pLdN (k := 0) f_160_96 rfl rfl rfl
theorem f_160_97 : oFet 160 97 = some (.getfield 30, 3) := by decide +kernel
theorem s_160_97 {d : Nat} {l0 l1 l2 l3 l4 : oV} {a : Nat} {S : List oV} {σ : oSg} {Q : Option oV → (Nat → oC) → Prop} (hk : oKd a = some 11) : oE d 160 97 [l0, l1, l2, l3, l4] (.inr (.inr (.inl a)) :: S) σ Q = oE d 160 100 [l0, l1, l2, l3, l4] (.inr (.inr (.inl (oRf a 12))) :: S) σ Q := pGfR f_160_97 ow_160 fl_11_30 rfl (by decide) hk
theorem f_160_100 : oFet 160 100 = some (.iload_n 1, 1) := by decide +kernel
theorem s_160_100 {d : Nat} {l0 l2 l3 l4 : oV} {x : Int} {S : List oV} {σ : oSg} {Q : Option oV → (Nat → oC) → Prop} : oE d 160 100 [l0, .inl x, l2, l3, l4] S σ Q = oE d 160 101 [l0, .inl x, l2, l3, l4] (.inl x :: S) σ Q := pLdN (k := 1) f_160_100 rfl rfl rfl
theorem f_160_101 : oFet 160 101 = some (.iaload, 1) := by decide +kernel
theorem s_160_101 {d : Nat} {l0 l1 l2 l3 l4 : oV} {a : Nat} {i : Int} {S : List oV} {σ : oSg} {Q : Option oV → (Nat → oC) → Prop} (hk : oAk a = some 0) (h0 : 0 ≤ i) (h1 : i < (oLn a : Int)) : oE d 160 101 [l0, l1, l2, l3, l4] (.inl i :: .inr (.inr (.inl a)) :: S) σ Q = oE d 160 102 [l0, l1, l2, l3, l4] (.inl (σ.2 a i.toNat) :: S) σ Q := oIal f_160_101 hk h0 h1
theorem f_160_102 : oFet 160 102 = some (.iconst (-1), 1) := by decide +kernel
theorem s_160_102 {d : Nat} {l0 l1 l2 l3 l4 : oV} {S : List oV} {σ : oSg} {Q : Option oV → (Nat → oC) → Prop} : oE d 160 102 [l0, l1, l2, l3, l4] S σ Q = oE d 160 103 [l0, l1, l2, l3, l4] (.inl (-1) :: S) σ Q := pKst f_160_102 (by decide)
theorem f_160_103 : oFet 160 103 = some (.if_icmp .ne 11, 3) := by decide +kernel
theorem s_160_103 {d : Nat} {l0 l1 l2 l3 l4 : oV} {x y : Int} {S : List oV} {σ : oSg} {Q : Option oV → (Nat → oC) → Prop} : oE d 160 103 [l0, l1, l2, l3, l4] (.inl y :: .inl x :: S) σ Q = if ¬ x = y then oE d 160 114 [l0, l1, l2, l3, l4] S σ Q else oE d 160 106 [l0, l1, l2, l3, l4] S σ Q := oCmpNe f_160_103 (by decide)
theorem f_160_106 : oFet 160 106 = some (.iload_n 1, 1) := by decide +kernel
theorem s_160_106 {d : Nat} {l0 l2 l3 l4 : oV} {x : Int} {S : List oV} {σ : oSg} {Q : Option oV → (Nat → oC) → Prop} : oE d 160 106 [l0, .inl x, l2, l3, l4] S σ Q = oE d 160 107 [l0, .inl x, l2, l3, l4] (.inl x :: S) σ Q := pLdN (k := 1) f_160_106 rfl rfl rfl
theorem f_160_107 : oFet 160 107 = some (.aload_n 0, 1) := by decide +kernel
theorem s_160_107 {d : Nat} {l1 l2 l3 l4 : oV} {a : Nat} {S : List oV} {σ : oSg} {Q : Option oV → (Nat → oC) → Prop} : oE d 160 107 [.inr (.inr (.inl a)), l1, l2, l3, l4] S σ Q = oE d 160 108 [.inr (.inr (.inl a)), l1, l2, l3, l4] (.inr (.inr (.inl a)) :: S) σ Q := pLdN (k := 0) f_160_107 rfl rfl rfl
theorem f_160_108 : oFet 160 108 = some (.getfield 174, 3) := by decide +kernel
theorem s_160_108 {d : Nat} {l0 l1 l2 l3 l4 : oV} {a : Nat} {S : List oV} {σ : oSg} {Q : Option oV → (Nat → oC) → Prop} (hk : oKd a = some 11) : oE d 160 108 [l0, l1, l2, l3, l4] (.inr (.inr (.inl a)) :: S) σ Q = oE d 160 111 [l0, l1, l2, l3, l4] (.inl (σ.1 a 16) :: S) σ Q := pGfI f_160_108 ow_160 fl_11_174 rfl (by decide) hk
theorem f_160_111 : oFet 160 111 = some (.if_icmp .ne 13, 3) := by decide +kernel
theorem s_160_111 {d : Nat} {l0 l1 l2 l3 l4 : oV} {x y : Int} {S : List oV} {σ : oSg} {Q : Option oV → (Nat → oC) → Prop} : oE d 160 111 [l0, l1, l2, l3, l4] (.inl y :: .inl x :: S) σ Q = if ¬ x = y then oE d 160 124 [l0, l1, l2, l3, l4] S σ Q else oE d 160 114 [l0, l1, l2, l3, l4] S σ Q := oCmpNe f_160_111 (by decide)
theorem f_160_114 : oFet 160 114 = some (.aload_n 0, 1) := by decide +kernel
theorem s_160_114 {d : Nat} {l1 l2 l3 l4 : oV} {a : Nat} {S : List oV} {σ : oSg} {Q : Option oV → (Nat → oC) → Prop} : oE d 160 114 [.inr (.inr (.inl a)), l1, l2, l3, l4] S σ Q = oE d 160 115 [.inr (.inr (.inl a)), l1, l2, l3, l4] (.inr (.inr (.inl a)) :: S) σ Q := pLdN (k := 0) f_160_114 rfl rfl rfl
theorem f_160_115 : oFet 160 115 = some (.iload_n 1, 1) := by decide +kernel
theorem s_160_115 {d : Nat} {l0 l2 l3 l4 : oV} {x : Int} {S : List oV} {σ : oSg} {Q : Option oV → (Nat → oC) → Prop} : oE d 160 115 [l0, .inl x, l2, l3, l4] S σ Q = oE d 160 116 [l0, .inl x, l2, l3, l4] (.inl x :: S) σ Q := pLdN (k := 1) f_160_115 rfl rfl rfl
theorem f_160_116 : oFet 160 116 = some (.iconst 1, 1) := by decide +kernel
theorem s_160_116 {d : Nat} {l0 l1 l2 l3 l4 : oV} {S : List oV} {σ : oSg} {Q : Option oV → (Nat → oC) → Prop} : oE d 160 116 [l0, l1, l2, l3, l4] S σ Q = oE d 160 117 [l0, l1, l2, l3, l4] (.inl (1) :: S) σ Q := pKst f_160_116 (by decide)
theorem f_160_117 : oFet 160 117 = some (.iadd, 1) := by decide +kernel
theorem s_160_117 {d : Nat} {l0 l1 l2 l3 l4 : oV} {x y : Int} {S : List oV} {σ : oSg} {Q : Option oV → (Nat → oC) → Prop} : oE d 160 117 [l0, l1, l2, l3, l4] (.inl y :: .inl x :: S) σ Q = oE d 160 118 [l0, l1, l2, l3, l4] (.inl (oAdd x y) :: S) σ Q := oS3 f_160_117 rfl rfl rfl
theorem f_160_118 : oFet 160 118 = some (.iload_n 2, 1) := by decide +kernel
theorem s_160_118 {d : Nat} {l0 l1 l3 l4 : oV} {x : Int} {S : List oV} {σ : oSg} {Q : Option oV → (Nat → oC) → Prop} : oE d 160 118 [l0, l1, .inl x, l3, l4] S σ Q = oE d 160 119 [l0, l1, .inl x, l3, l4] (.inl x :: S) σ Q := pLdN (k := 2) f_160_118 rfl rfl rfl
theorem f_160_119 : oFet 160 119 = some (.iload_n 3, 1) := by decide +kernel
theorem s_160_119 {d : Nat} {l0 l1 l2 l4 : oV} {x : Int} {S : List oV} {σ : oSg} {Q : Option oV → (Nat → oC) → Prop} : oE d 160 119 [l0, l1, l2, .inl x, l4] S σ Q = oE d 160 120 [l0, l1, l2, .inl x, l4] (.inl x :: S) σ Q := pLdN (k := 3) f_160_119 rfl rfl rfl
theorem f_160_120 : oFet 160 120 = some (.invokevirtual 183, 3) := by decide +kernel
theorem c_160_120 {d : Nat} {l0 l1 l2 l3 l4 : oV} {x0 x1 x2 : oV} {a : Nat} {v : Option oV} {τ : oSg} {S : List oV} {σ : oSg} {Q : Option oV → (Nat → oC) → Prop} (hm : oMi d 160 [.inr (.inr (.inl a)), x0, x1, x2] σ v τ) (hk : oKd a = some 11) (hs : oSmall S = true) : oE d 160 120 [l0, l1, l2, l3, l4] (x2 :: x1 :: x0 :: .inr (.inr (.inl a)) :: S) σ Q = oE d 160 123 [l0, l1, l2, l3, l4] (v.toList ++ S) τ Q := pCallV f_160_120 ow_160 lk_11_183 mt_160 rfl rfl rfl hk hs hm
theorem f_160_123 : oFet 160 123 = some (.return_, 1) := by decide +kernel
theorem s_160_123 {d : Nat} {l0 l1 l2 l3 l4 : oV} {σ : oSg} {Q : Option oV → (Nat → oC) → Prop} : oE d 160 123 [l0, l1, l2, l3, l4] [] σ Q = Q none (oBld σ) := oVret f_160_123 rt_160
theorem f_160_124 : oFet 160 124 = some (.iload_n 1, 1) := by decide +kernel
theorem s_160_124 {d : Nat} {l0 l2 l3 l4 : oV} {x : Int} {S : List oV} {σ : oSg} {Q : Option oV → (Nat → oC) → Prop} : oE d 160 124 [l0, .inl x, l2, l3, l4] S σ Q = oE d 160 125 [l0, .inl x, l2, l3, l4] (.inl x :: S) σ Q := pLdN (k := 1) f_160_124 rfl rfl rfl
theorem f_160_125 : oFet 160 125 = some (.iconst 1, 1) := by decide +kernel
theorem s_160_125 {d : Nat} {l0 l1 l2 l3 l4 : oV} {S : List oV} {σ : oSg} {Q : Option oV → (Nat → oC) → Prop} : oE d 160 125 [l0, l1, l2, l3, l4] S σ Q = oE d 160 126 [l0, l1, l2, l3, l4] (.inl (1) :: S) σ Q := pKst f_160_125 (by decide)
theorem f_160_126 : oFet 160 126 = some (.iadd, 1) := by decide +kernel
theorem s_160_126 {d : Nat} {l0 l1 l2 l3 l4 : oV} {x y : Int} {S : List oV} {σ : oSg} {Q : Option oV → (Nat → oC) → Prop} : oE d 160 126 [l0, l1, l2, l3, l4] (.inl y :: .inl x :: S) σ Q = oE d 160 127 [l0, l1, l2, l3, l4] (.inl (oAdd x y) :: S) σ Q := oS3 f_160_126 rfl rfl rfl
theorem f_160_127 : oFet 160 127 = some (.istore 4, 2) := by decide +kernel
theorem s_160_127 {d : Nat} {l0 l1 l2 l3 l4 : oV} {x : Int} {S : List oV} {σ : oSg} {Q : Option oV → (Nat → oC) → Prop} (c4 : oCat l4 = 1) (c3 : oCat l3 = 1)  : oE d 160 127 [l0, l1, l2, l3, l4] (.inl x :: S) σ Q = oE d 160 129 [l0, l1, l2, l3, .inl x] S σ Q := pSt (i := 4) f_160_127 rfl rfl (show (4 : Nat) < 5 by decide) (oC1n c3) (oC1n c4) rfl
theorem f_160_129 : oFet 160 129 = some (.iload 4, 2) := by decide +kernel
theorem s_160_129 {d : Nat} {l0 l1 l2 l3 : oV} {x : Int} {S : List oV} {σ : oSg} {Q : Option oV → (Nat → oC) → Prop} : oE d 160 129 [l0, l1, l2, l3, .inl x] S σ Q = oE d 160 131 [l0, l1, l2, l3, .inl x] (.inl x :: S) σ Q := pLd (i := 4) f_160_129 rfl rfl rfl
theorem f_160_131 : oFet 160 131 = some (.aload_n 0, 1) := by decide +kernel
theorem s_160_131 {d : Nat} {l1 l2 l3 l4 : oV} {a : Nat} {S : List oV} {σ : oSg} {Q : Option oV → (Nat → oC) → Prop} : oE d 160 131 [.inr (.inr (.inl a)), l1, l2, l3, l4] S σ Q = oE d 160 132 [.inr (.inr (.inl a)), l1, l2, l3, l4] (.inr (.inr (.inl a)) :: S) σ Q := pLdN (k := 0) f_160_131 rfl rfl rfl
theorem f_160_132 : oFet 160 132 = some (.getfield 11, 3) := by decide +kernel
theorem s_160_132 {d : Nat} {l0 l1 l2 l3 l4 : oV} {a : Nat} {S : List oV} {σ : oSg} {Q : Option oV → (Nat → oC) → Prop} (hk : oKd a = some 11) : oE d 160 132 [l0, l1, l2, l3, l4] (.inr (.inr (.inl a)) :: S) σ Q = oE d 160 135 [l0, l1, l2, l3, l4] (.inr (.inr (.inl (oRf a 0))) :: S) σ Q := pGfR f_160_132 ow_160 fl_11_11 rfl (by decide) hk
theorem f_160_135 : oFet 160 135 = some (.iconst 0, 1) := by decide +kernel
theorem s_160_135 {d : Nat} {l0 l1 l2 l3 l4 : oV} {S : List oV} {σ : oSg} {Q : Option oV → (Nat → oC) → Prop} : oE d 160 135 [l0, l1, l2, l3, l4] S σ Q = oE d 160 136 [l0, l1, l2, l3, l4] (.inl (0) :: S) σ Q := pKst f_160_135 (by decide)
theorem f_160_136 : oFet 160 136 = some (.iaload, 1) := by decide +kernel
theorem s_160_136 {d : Nat} {l0 l1 l2 l3 l4 : oV} {a : Nat} {i : Int} {S : List oV} {σ : oSg} {Q : Option oV → (Nat → oC) → Prop} (hk : oAk a = some 0) (h0 : 0 ≤ i) (h1 : i < (oLn a : Int)) : oE d 160 136 [l0, l1, l2, l3, l4] (.inl i :: .inr (.inr (.inl a)) :: S) σ Q = oE d 160 137 [l0, l1, l2, l3, l4] (.inl (σ.2 a i.toNat) :: S) σ Q := oIal f_160_136 hk h0 h1
theorem f_160_137 : oFet 160 137 = some (.if_icmp .ge 92, 3) := by decide +kernel
theorem s_160_137 {d : Nat} {l0 l1 l2 l3 l4 : oV} {x y : Int} {S : List oV} {σ : oSg} {Q : Option oV → (Nat → oC) → Prop} : oE d 160 137 [l0, l1, l2, l3, l4] (.inl y :: .inl x :: S) σ Q = if y ≤ x then oE d 160 229 [l0, l1, l2, l3, l4] S σ Q else oE d 160 140 [l0, l1, l2, l3, l4] S σ Q := oCmpGe f_160_137 (by decide)
theorem f_160_140 : oFet 160 140 = some (.iload 4, 2) := by decide +kernel
theorem s_160_140 {d : Nat} {l0 l1 l2 l3 : oV} {x : Int} {S : List oV} {σ : oSg} {Q : Option oV → (Nat → oC) → Prop} : oE d 160 140 [l0, l1, l2, l3, .inl x] S σ Q = oE d 160 142 [l0, l1, l2, l3, .inl x] (.inl x :: S) σ Q := pLd (i := 4) f_160_140 rfl rfl rfl
theorem f_160_142 : oFet 160 142 = some (.aload_n 0, 1) := by decide +kernel
theorem s_160_142 {d : Nat} {l1 l2 l3 l4 : oV} {a : Nat} {S : List oV} {σ : oSg} {Q : Option oV → (Nat → oC) → Prop} : oE d 160 142 [.inr (.inr (.inl a)), l1, l2, l3, l4] S σ Q = oE d 160 143 [.inr (.inr (.inl a)), l1, l2, l3, l4] (.inr (.inr (.inl a)) :: S) σ Q := pLdN (k := 0) f_160_142 rfl rfl rfl
theorem f_160_143 : oFet 160 143 = some (.getfield 174, 3) := by decide +kernel
theorem s_160_143 {d : Nat} {l0 l1 l2 l3 l4 : oV} {a : Nat} {S : List oV} {σ : oSg} {Q : Option oV → (Nat → oC) → Prop} (hk : oKd a = some 11) : oE d 160 143 [l0, l1, l2, l3, l4] (.inr (.inr (.inl a)) :: S) σ Q = oE d 160 146 [l0, l1, l2, l3, l4] (.inl (σ.1 a 16) :: S) σ Q := pGfI f_160_143 ow_160 fl_11_174 rfl (by decide) hk
theorem f_160_146 : oFet 160 146 = some (.if_icmp .eq 77, 3) := by decide +kernel
theorem s_160_146 {d : Nat} {l0 l1 l2 l3 l4 : oV} {x y : Int} {S : List oV} {σ : oSg} {Q : Option oV → (Nat → oC) → Prop} : oE d 160 146 [l0, l1, l2, l3, l4] (.inl y :: .inl x :: S) σ Q = if x = y then oE d 160 223 [l0, l1, l2, l3, l4] S σ Q else oE d 160 149 [l0, l1, l2, l3, l4] S σ Q := oCmpEq f_160_146 (by decide)
theorem f_160_149 : oFet 160 149 = some (.aload_n 0, 1) := by decide +kernel
theorem s_160_149 {d : Nat} {l1 l2 l3 l4 : oV} {a : Nat} {S : List oV} {σ : oSg} {Q : Option oV → (Nat → oC) → Prop} : oE d 160 149 [.inr (.inr (.inl a)), l1, l2, l3, l4] S σ Q = oE d 160 150 [.inr (.inr (.inl a)), l1, l2, l3, l4] (.inr (.inr (.inl a)) :: S) σ Q := pLdN (k := 0) f_160_149 rfl rfl rfl
theorem f_160_150 : oFet 160 150 = some (.getfield 30, 3) := by decide +kernel
theorem s_160_150 {d : Nat} {l0 l1 l2 l3 l4 : oV} {a : Nat} {S : List oV} {σ : oSg} {Q : Option oV → (Nat → oC) → Prop} (hk : oKd a = some 11) : oE d 160 150 [l0, l1, l2, l3, l4] (.inr (.inr (.inl a)) :: S) σ Q = oE d 160 153 [l0, l1, l2, l3, l4] (.inr (.inr (.inl (oRf a 12))) :: S) σ Q := pGfR f_160_150 ow_160 fl_11_30 rfl (by decide) hk
theorem f_160_153 : oFet 160 153 = some (.iload 4, 2) := by decide +kernel
theorem s_160_153 {d : Nat} {l0 l1 l2 l3 : oV} {x : Int} {S : List oV} {σ : oSg} {Q : Option oV → (Nat → oC) → Prop} : oE d 160 153 [l0, l1, l2, l3, .inl x] S σ Q = oE d 160 155 [l0, l1, l2, l3, .inl x] (.inl x :: S) σ Q := pLd (i := 4) f_160_153 rfl rfl rfl
theorem f_160_155 : oFet 160 155 = some (.iaload, 1) := by decide +kernel
theorem s_160_155 {d : Nat} {l0 l1 l2 l3 l4 : oV} {a : Nat} {i : Int} {S : List oV} {σ : oSg} {Q : Option oV → (Nat → oC) → Prop} (hk : oAk a = some 0) (h0 : 0 ≤ i) (h1 : i < (oLn a : Int)) : oE d 160 155 [l0, l1, l2, l3, l4] (.inl i :: .inr (.inr (.inl a)) :: S) σ Q = oE d 160 156 [l0, l1, l2, l3, l4] (.inl (σ.2 a i.toNat) :: S) σ Q := oIal f_160_155 hk h0 h1
theorem f_160_156 : oFet 160 156 = some (.iconst (-1), 1) := by decide +kernel
theorem s_160_156 {d : Nat} {l0 l1 l2 l3 l4 : oV} {S : List oV} {σ : oSg} {Q : Option oV → (Nat → oC) → Prop} : oE d 160 156 [l0, l1, l2, l3, l4] S σ Q = oE d 160 157 [l0, l1, l2, l3, l4] (.inl (-1) :: S) σ Q := pKst f_160_156 (by decide)
theorem f_160_157 : oFet 160 157 = some (.if_icmp .ne 66, 3) := by decide +kernel
theorem s_160_157 {d : Nat} {l0 l1 l2 l3 l4 : oV} {x y : Int} {S : List oV} {σ : oSg} {Q : Option oV → (Nat → oC) → Prop} : oE d 160 157 [l0, l1, l2, l3, l4] (.inl y :: .inl x :: S) σ Q = if ¬ x = y then oE d 160 223 [l0, l1, l2, l3, l4] S σ Q else oE d 160 160 [l0, l1, l2, l3, l4] S σ Q := oCmpNe f_160_157 (by decide)
theorem f_160_160 : oFet 160 160 = some (.aload_n 0, 1) := by decide +kernel
theorem s_160_160 {d : Nat} {l1 l2 l3 l4 : oV} {a : Nat} {S : List oV} {σ : oSg} {Q : Option oV → (Nat → oC) → Prop} : oE d 160 160 [.inr (.inr (.inl a)), l1, l2, l3, l4] S σ Q = oE d 160 161 [.inr (.inr (.inl a)), l1, l2, l3, l4] (.inr (.inr (.inl a)) :: S) σ Q := pLdN (k := 0) f_160_160 rfl rfl rfl
theorem f_160_161 : oFet 160 161 = some (.iload_n 1, 1) := by decide +kernel
theorem s_160_161 {d : Nat} {l0 l2 l3 l4 : oV} {x : Int} {S : List oV} {σ : oSg} {Q : Option oV → (Nat → oC) → Prop} : oE d 160 161 [l0, .inl x, l2, l3, l4] S σ Q = oE d 160 162 [l0, .inl x, l2, l3, l4] (.inl x :: S) σ Q := pLdN (k := 1) f_160_161 rfl rfl rfl
theorem f_160_162 : oFet 160 162 = some (.iload 4, 2) := by decide +kernel
theorem s_160_162 {d : Nat} {l0 l1 l2 l3 : oV} {x : Int} {S : List oV} {σ : oSg} {Q : Option oV → (Nat → oC) → Prop} : oE d 160 162 [l0, l1, l2, l3, .inl x] S σ Q = oE d 160 164 [l0, l1, l2, l3, .inl x] (.inl x :: S) σ Q := pLd (i := 4) f_160_162 rfl rfl rfl
theorem f_160_164 : oFet 160 164 = some (.invokevirtual 91, 3) := by decide +kernel
theorem c_160_164 {d : Nat} {l0 l1 l2 l3 l4 : oV} {x0 x1 : oV} {a : Nat} {v : Option oV} {τ : oSg} {S : List oV} {σ : oSg} {Q : Option oV → (Nat → oC) → Prop} (hm : oMi d 153 [.inr (.inr (.inl a)), x0, x1] σ v τ) (hk : oKd a = some 11) (hs : oSmall S = true) : oE d 160 164 [l0, l1, l2, l3, l4] (x1 :: x0 :: .inr (.inr (.inl a)) :: S) σ Q = oE d 160 167 [l0, l1, l2, l3, l4] (v.toList ++ S) τ Q := pCallV f_160_164 ow_160 lk_11_91 mt_153 rfl rfl rfl hk hs hm
theorem f_160_167 : oFet 160 167 = some (.ifCond .ne 6, 3) := by decide +kernel
theorem s_160_167 {d : Nat} {l0 l1 l2 l3 l4 : oV} {x : Int} {S : List oV} {σ : oSg} {Q : Option oV → (Nat → oC) → Prop} : oE d 160 167 [l0, l1, l2, l3, l4] (.inl x :: S) σ Q = if ¬ x = 0 then oE d 160 173 [l0, l1, l2, l3, l4] S σ Q else oE d 160 170 [l0, l1, l2, l3, l4] S σ Q := oIfNe f_160_167 (by decide)
theorem f_160_170 : oFet 160 170 = some (.goto 53, 3) := by decide +kernel
theorem s_160_170 {d : Nat} {l0 l1 l2 l3 l4 : oV} {S : List oV} {σ : oSg} {Q : Option oV → (Nat → oC) → Prop} : oE d 160 170 [l0, l1, l2, l3, l4] S σ Q = oE d 160 223 [l0, l1, l2, l3, l4] S σ Q := pGoto f_160_170 (by decide)
theorem f_160_173 : oFet 160 173 = some (.aload_n 0, 1) := by decide +kernel
theorem s_160_173 {d : Nat} {l1 l2 l3 l4 : oV} {a : Nat} {S : List oV} {σ : oSg} {Q : Option oV → (Nat → oC) → Prop} : oE d 160 173 [.inr (.inr (.inl a)), l1, l2, l3, l4] S σ Q = oE d 160 174 [.inr (.inr (.inl a)), l1, l2, l3, l4] (.inr (.inr (.inl a)) :: S) σ Q := pLdN (k := 0) f_160_173 rfl rfl rfl
theorem f_160_174 : oFet 160 174 = some (.getfield 30, 3) := by decide +kernel
theorem s_160_174 {d : Nat} {l0 l1 l2 l3 l4 : oV} {a : Nat} {S : List oV} {σ : oSg} {Q : Option oV → (Nat → oC) → Prop} (hk : oKd a = some 11) : oE d 160 174 [l0, l1, l2, l3, l4] (.inr (.inr (.inl a)) :: S) σ Q = oE d 160 177 [l0, l1, l2, l3, l4] (.inr (.inr (.inl (oRf a 12))) :: S) σ Q := pGfR f_160_174 ow_160 fl_11_30 rfl (by decide) hk
theorem f_160_177 : oFet 160 177 = some (.iload_n 1, 1) := by decide +kernel
theorem s_160_177 {d : Nat} {l0 l2 l3 l4 : oV} {x : Int} {S : List oV} {σ : oSg} {Q : Option oV → (Nat → oC) → Prop} : oE d 160 177 [l0, .inl x, l2, l3, l4] S σ Q = oE d 160 178 [l0, .inl x, l2, l3, l4] (.inl x :: S) σ Q := pLdN (k := 1) f_160_177 rfl rfl rfl
theorem f_160_178 : oFet 160 178 = some (.iload 4, 2) := by decide +kernel
theorem s_160_178 {d : Nat} {l0 l1 l2 l3 : oV} {x : Int} {S : List oV} {σ : oSg} {Q : Option oV → (Nat → oC) → Prop} : oE d 160 178 [l0, l1, l2, l3, .inl x] S σ Q = oE d 160 180 [l0, l1, l2, l3, .inl x] (.inl x :: S) σ Q := pLd (i := 4) f_160_178 rfl rfl rfl
theorem f_160_180 : oFet 160 180 = some (.iastore, 1) := by decide +kernel
theorem s_160_180 {d : Nat} {l0 l1 l2 l3 l4 : oV} {a : Nat} {i v : Int} {S : List oV} {σ : oSg} {Q : Option oV → (Nat → oC) → Prop} (hk : oAk a = some 0) (h0 : 0 ≤ i) (h1 : i < (oLn a : Int)) : oE d 160 180 [l0, l1, l2, l3, l4] (.inl v :: .inl i :: .inr (.inr (.inl a)) :: S) σ Q = oE d 160 181 [l0, l1, l2, l3, l4] S (oSA σ a i.toNat v) Q := oIas f_160_180 hk h0 h1
theorem f_160_181 : oFet 160 181 = some (.aload_n 0, 1) := by decide +kernel
theorem s_160_181 {d : Nat} {l1 l2 l3 l4 : oV} {a : Nat} {S : List oV} {σ : oSg} {Q : Option oV → (Nat → oC) → Prop} : oE d 160 181 [.inr (.inr (.inl a)), l1, l2, l3, l4] S σ Q = oE d 160 182 [.inr (.inr (.inl a)), l1, l2, l3, l4] (.inr (.inr (.inl a)) :: S) σ Q := pLdN (k := 0) f_160_181 rfl rfl rfl
theorem f_160_182 : oFet 160 182 = some (.getfield 30, 3) := by decide +kernel
theorem s_160_182 {d : Nat} {l0 l1 l2 l3 l4 : oV} {a : Nat} {S : List oV} {σ : oSg} {Q : Option oV → (Nat → oC) → Prop} (hk : oKd a = some 11) : oE d 160 182 [l0, l1, l2, l3, l4] (.inr (.inr (.inl a)) :: S) σ Q = oE d 160 185 [l0, l1, l2, l3, l4] (.inr (.inr (.inl (oRf a 12))) :: S) σ Q := pGfR f_160_182 ow_160 fl_11_30 rfl (by decide) hk
theorem f_160_185 : oFet 160 185 = some (.iload 4, 2) := by decide +kernel
theorem s_160_185 {d : Nat} {l0 l1 l2 l3 : oV} {x : Int} {S : List oV} {σ : oSg} {Q : Option oV → (Nat → oC) → Prop} : oE d 160 185 [l0, l1, l2, l3, .inl x] S σ Q = oE d 160 187 [l0, l1, l2, l3, .inl x] (.inl x :: S) σ Q := pLd (i := 4) f_160_185 rfl rfl rfl
theorem f_160_187 : oFet 160 187 = some (.iload_n 1, 1) := by decide +kernel
theorem s_160_187 {d : Nat} {l0 l2 l3 l4 : oV} {x : Int} {S : List oV} {σ : oSg} {Q : Option oV → (Nat → oC) → Prop} : oE d 160 187 [l0, .inl x, l2, l3, l4] S σ Q = oE d 160 188 [l0, .inl x, l2, l3, l4] (.inl x :: S) σ Q := pLdN (k := 1) f_160_187 rfl rfl rfl
theorem f_160_188 : oFet 160 188 = some (.iastore, 1) := by decide +kernel
theorem s_160_188 {d : Nat} {l0 l1 l2 l3 l4 : oV} {a : Nat} {i v : Int} {S : List oV} {σ : oSg} {Q : Option oV → (Nat → oC) → Prop} (hk : oAk a = some 0) (h0 : 0 ≤ i) (h1 : i < (oLn a : Int)) : oE d 160 188 [l0, l1, l2, l3, l4] (.inl v :: .inl i :: .inr (.inr (.inl a)) :: S) σ Q = oE d 160 189 [l0, l1, l2, l3, l4] S (oSA σ a i.toNat v) Q := oIas f_160_188 hk h0 h1
theorem f_160_189 : oFet 160 189 = some (.aload_n 0, 1) := by decide +kernel
theorem s_160_189 {d : Nat} {l1 l2 l3 l4 : oV} {a : Nat} {S : List oV} {σ : oSg} {Q : Option oV → (Nat → oC) → Prop} : oE d 160 189 [.inr (.inr (.inl a)), l1, l2, l3, l4] S σ Q = oE d 160 190 [.inr (.inr (.inl a)), l1, l2, l3, l4] (.inr (.inr (.inl a)) :: S) σ Q := pLdN (k := 0) f_160_189 rfl rfl rfl
theorem f_160_190 : oFet 160 190 = some (.iload_n 1, 1) := by decide +kernel
theorem s_160_190 {d : Nat} {l0 l2 l3 l4 : oV} {x : Int} {S : List oV} {σ : oSg} {Q : Option oV → (Nat → oC) → Prop} : oE d 160 190 [l0, .inl x, l2, l3, l4] S σ Q = oE d 160 191 [l0, .inl x, l2, l3, l4] (.inl x :: S) σ Q := pLdN (k := 1) f_160_190 rfl rfl rfl
theorem f_160_191 : oFet 160 191 = some (.iconst 1, 1) := by decide +kernel
theorem s_160_191 {d : Nat} {l0 l1 l2 l3 l4 : oV} {S : List oV} {σ : oSg} {Q : Option oV → (Nat → oC) → Prop} : oE d 160 191 [l0, l1, l2, l3, l4] S σ Q = oE d 160 192 [l0, l1, l2, l3, l4] (.inl (1) :: S) σ Q := pKst f_160_191 (by decide)
theorem f_160_192 : oFet 160 192 = some (.iadd, 1) := by decide +kernel
theorem s_160_192 {d : Nat} {l0 l1 l2 l3 l4 : oV} {x y : Int} {S : List oV} {σ : oSg} {Q : Option oV → (Nat → oC) → Prop} : oE d 160 192 [l0, l1, l2, l3, l4] (.inl y :: .inl x :: S) σ Q = oE d 160 193 [l0, l1, l2, l3, l4] (.inl (oAdd x y) :: S) σ Q := oS3 f_160_192 rfl rfl rfl
theorem f_160_193 : oFet 160 193 = some (.iload_n 2, 1) := by decide +kernel
theorem s_160_193 {d : Nat} {l0 l1 l3 l4 : oV} {x : Int} {S : List oV} {σ : oSg} {Q : Option oV → (Nat → oC) → Prop} : oE d 160 193 [l0, l1, .inl x, l3, l4] S σ Q = oE d 160 194 [l0, l1, .inl x, l3, l4] (.inl x :: S) σ Q := pLdN (k := 2) f_160_193 rfl rfl rfl
theorem f_160_194 : oFet 160 194 = some (.iconst 1, 1) := by decide +kernel
theorem s_160_194 {d : Nat} {l0 l1 l2 l3 l4 : oV} {S : List oV} {σ : oSg} {Q : Option oV → (Nat → oC) → Prop} : oE d 160 194 [l0, l1, l2, l3, l4] S σ Q = oE d 160 195 [l0, l1, l2, l3, l4] (.inl (1) :: S) σ Q := pKst f_160_194 (by decide)
theorem f_160_195 : oFet 160 195 = some (.iadd, 1) := by decide +kernel
theorem s_160_195 {d : Nat} {l0 l1 l2 l3 l4 : oV} {x y : Int} {S : List oV} {σ : oSg} {Q : Option oV → (Nat → oC) → Prop} : oE d 160 195 [l0, l1, l2, l3, l4] (.inl y :: .inl x :: S) σ Q = oE d 160 196 [l0, l1, l2, l3, l4] (.inl (oAdd x y) :: S) σ Q := oS3 f_160_195 rfl rfl rfl
theorem f_160_196 : oFet 160 196 = some (.iload_n 3, 1) := by decide +kernel
theorem s_160_196 {d : Nat} {l0 l1 l2 l4 : oV} {x : Int} {S : List oV} {σ : oSg} {Q : Option oV → (Nat → oC) → Prop} : oE d 160 196 [l0, l1, l2, .inl x, l4] S σ Q = oE d 160 197 [l0, l1, l2, .inl x, l4] (.inl x :: S) σ Q := pLdN (k := 3) f_160_196 rfl rfl rfl
theorem f_160_197 : oFet 160 197 = some (.aload_n 0, 1) := by decide +kernel
theorem s_160_197 {d : Nat} {l1 l2 l3 l4 : oV} {a : Nat} {S : List oV} {σ : oSg} {Q : Option oV → (Nat → oC) → Prop} : oE d 160 197 [.inr (.inr (.inl a)), l1, l2, l3, l4] S σ Q = oE d 160 198 [.inr (.inr (.inl a)), l1, l2, l3, l4] (.inr (.inr (.inl a)) :: S) σ Q := pLdN (k := 0) f_160_197 rfl rfl rfl
theorem f_160_198 : oFet 160 198 = some (.iload_n 1, 1) := by decide +kernel
theorem s_160_198 {d : Nat} {l0 l2 l3 l4 : oV} {x : Int} {S : List oV} {σ : oSg} {Q : Option oV → (Nat → oC) → Prop} : oE d 160 198 [l0, .inl x, l2, l3, l4] S σ Q = oE d 160 199 [l0, .inl x, l2, l3, l4] (.inl x :: S) σ Q := pLdN (k := 1) f_160_198 rfl rfl rfl
theorem f_160_199 : oFet 160 199 = some (.iload 4, 2) := by decide +kernel
theorem s_160_199 {d : Nat} {l0 l1 l2 l3 : oV} {x : Int} {S : List oV} {σ : oSg} {Q : Option oV → (Nat → oC) → Prop} : oE d 160 199 [l0, l1, l2, l3, .inl x] S σ Q = oE d 160 201 [l0, l1, l2, l3, .inl x] (.inl x :: S) σ Q := pLd (i := 4) f_160_199 rfl rfl rfl
theorem f_160_201 : oFet 160 201 = some (.invokevirtual 65, 3) := by decide +kernel
theorem c_160_201 {d : Nat} {l0 l1 l2 l3 l4 : oV} {x0 x1 : oV} {a : Nat} {v : Option oV} {τ : oSg} {S : List oV} {σ : oSg} {Q : Option oV → (Nat → oC) → Prop} (hm : oMi d 147 [.inr (.inr (.inl a)), x0, x1] σ v τ) (hk : oKd a = some 11) (hs : oSmall S = true) : oE d 160 201 [l0, l1, l2, l3, l4] (x1 :: x0 :: .inr (.inr (.inl a)) :: S) σ Q = oE d 160 204 [l0, l1, l2, l3, l4] (v.toList ++ S) τ Q := pCallV f_160_201 ow_160 lk_11_65 mt_147 rfl rfl rfl hk hs hm
theorem f_160_204 : oFet 160 204 = some (.iadd, 1) := by decide +kernel
theorem s_160_204 {d : Nat} {l0 l1 l2 l3 l4 : oV} {x y : Int} {S : List oV} {σ : oSg} {Q : Option oV → (Nat → oC) → Prop} : oE d 160 204 [l0, l1, l2, l3, l4] (.inl y :: .inl x :: S) σ Q = oE d 160 205 [l0, l1, l2, l3, l4] (.inl (oAdd x y) :: S) σ Q := oS3 f_160_204 rfl rfl rfl
theorem f_160_205 : oFet 160 205 = some (.invokevirtual 183, 3) := by decide +kernel
theorem c_160_205 {d : Nat} {l0 l1 l2 l3 l4 : oV} {x0 x1 x2 : oV} {a : Nat} {v : Option oV} {τ : oSg} {S : List oV} {σ : oSg} {Q : Option oV → (Nat → oC) → Prop} (hm : oMi d 160 [.inr (.inr (.inl a)), x0, x1, x2] σ v τ) (hk : oKd a = some 11) (hs : oSmall S = true) : oE d 160 205 [l0, l1, l2, l3, l4] (x2 :: x1 :: x0 :: .inr (.inr (.inl a)) :: S) σ Q = oE d 160 208 [l0, l1, l2, l3, l4] (v.toList ++ S) τ Q := pCallV f_160_205 ow_160 lk_11_183 mt_160 rfl rfl rfl hk hs hm
theorem f_160_208 : oFet 160 208 = some (.aload_n 0, 1) := by decide +kernel
theorem s_160_208 {d : Nat} {l1 l2 l3 l4 : oV} {a : Nat} {S : List oV} {σ : oSg} {Q : Option oV → (Nat → oC) → Prop} : oE d 160 208 [.inr (.inr (.inl a)), l1, l2, l3, l4] S σ Q = oE d 160 209 [.inr (.inr (.inl a)), l1, l2, l3, l4] (.inr (.inr (.inl a)) :: S) σ Q := pLdN (k := 0) f_160_208 rfl rfl rfl
theorem f_160_209 : oFet 160 209 = some (.getfield 30, 3) := by decide +kernel
theorem s_160_209 {d : Nat} {l0 l1 l2 l3 l4 : oV} {a : Nat} {S : List oV} {σ : oSg} {Q : Option oV → (Nat → oC) → Prop} (hk : oKd a = some 11) : oE d 160 209 [l0, l1, l2, l3, l4] (.inr (.inr (.inl a)) :: S) σ Q = oE d 160 212 [l0, l1, l2, l3, l4] (.inr (.inr (.inl (oRf a 12))) :: S) σ Q := pGfR f_160_209 ow_160 fl_11_30 rfl (by decide) hk
theorem f_160_212 : oFet 160 212 = some (.iload_n 1, 1) := by decide +kernel
theorem s_160_212 {d : Nat} {l0 l2 l3 l4 : oV} {x : Int} {S : List oV} {σ : oSg} {Q : Option oV → (Nat → oC) → Prop} : oE d 160 212 [l0, .inl x, l2, l3, l4] S σ Q = oE d 160 213 [l0, .inl x, l2, l3, l4] (.inl x :: S) σ Q := pLdN (k := 1) f_160_212 rfl rfl rfl
theorem f_160_213 : oFet 160 213 = some (.iconst (-1), 1) := by decide +kernel
theorem s_160_213 {d : Nat} {l0 l1 l2 l3 l4 : oV} {S : List oV} {σ : oSg} {Q : Option oV → (Nat → oC) → Prop} : oE d 160 213 [l0, l1, l2, l3, l4] S σ Q = oE d 160 214 [l0, l1, l2, l3, l4] (.inl (-1) :: S) σ Q := pKst f_160_213 (by decide)
theorem f_160_214 : oFet 160 214 = some (.iastore, 1) := by decide +kernel
theorem s_160_214 {d : Nat} {l0 l1 l2 l3 l4 : oV} {a : Nat} {i v : Int} {S : List oV} {σ : oSg} {Q : Option oV → (Nat → oC) → Prop} (hk : oAk a = some 0) (h0 : 0 ≤ i) (h1 : i < (oLn a : Int)) : oE d 160 214 [l0, l1, l2, l3, l4] (.inl v :: .inl i :: .inr (.inr (.inl a)) :: S) σ Q = oE d 160 215 [l0, l1, l2, l3, l4] S (oSA σ a i.toNat v) Q := oIas f_160_214 hk h0 h1
theorem f_160_215 : oFet 160 215 = some (.aload_n 0, 1) := by decide +kernel
theorem s_160_215 {d : Nat} {l1 l2 l3 l4 : oV} {a : Nat} {S : List oV} {σ : oSg} {Q : Option oV → (Nat → oC) → Prop} : oE d 160 215 [.inr (.inr (.inl a)), l1, l2, l3, l4] S σ Q = oE d 160 216 [.inr (.inr (.inl a)), l1, l2, l3, l4] (.inr (.inr (.inl a)) :: S) σ Q := pLdN (k := 0) f_160_215 rfl rfl rfl
theorem f_160_216 : oFet 160 216 = some (.getfield 30, 3) := by decide +kernel
theorem s_160_216 {d : Nat} {l0 l1 l2 l3 l4 : oV} {a : Nat} {S : List oV} {σ : oSg} {Q : Option oV → (Nat → oC) → Prop} (hk : oKd a = some 11) : oE d 160 216 [l0, l1, l2, l3, l4] (.inr (.inr (.inl a)) :: S) σ Q = oE d 160 219 [l0, l1, l2, l3, l4] (.inr (.inr (.inl (oRf a 12))) :: S) σ Q := pGfR f_160_216 ow_160 fl_11_30 rfl (by decide) hk
theorem f_160_219 : oFet 160 219 = some (.iload 4, 2) := by decide +kernel
theorem s_160_219 {d : Nat} {l0 l1 l2 l3 : oV} {x : Int} {S : List oV} {σ : oSg} {Q : Option oV → (Nat → oC) → Prop} : oE d 160 219 [l0, l1, l2, l3, .inl x] S σ Q = oE d 160 221 [l0, l1, l2, l3, .inl x] (.inl x :: S) σ Q := pLd (i := 4) f_160_219 rfl rfl rfl
theorem f_160_221 : oFet 160 221 = some (.iconst (-1), 1) := by decide +kernel
theorem s_160_221 {d : Nat} {l0 l1 l2 l3 l4 : oV} {S : List oV} {σ : oSg} {Q : Option oV → (Nat → oC) → Prop} : oE d 160 221 [l0, l1, l2, l3, l4] S σ Q = oE d 160 222 [l0, l1, l2, l3, l4] (.inl (-1) :: S) σ Q := pKst f_160_221 (by decide)
theorem f_160_222 : oFet 160 222 = some (.iastore, 1) := by decide +kernel
theorem s_160_222 {d : Nat} {l0 l1 l2 l3 l4 : oV} {a : Nat} {i v : Int} {S : List oV} {σ : oSg} {Q : Option oV → (Nat → oC) → Prop} (hk : oAk a = some 0) (h0 : 0 ≤ i) (h1 : i < (oLn a : Int)) : oE d 160 222 [l0, l1, l2, l3, l4] (.inl v :: .inl i :: .inr (.inr (.inl a)) :: S) σ Q = oE d 160 223 [l0, l1, l2, l3, l4] S (oSA σ a i.toNat v) Q := oIas f_160_222 hk h0 h1
theorem f_160_223 : oFet 160 223 = some (.iinc 4 1, 3) := by decide +kernel
theorem s_160_223 {d : Nat} {l0 l1 l2 l3 : oV} {x : Int} {S : List oV} {σ : oSg} {Q : Option oV → (Nat → oC) → Prop} (c3 : oCat l3 = 1)  : oE d 160 223 [l0, l1, l2, l3, .inl x] S σ Q = oE d 160 226 [l0, l1, l2, l3, .inl (oAdd x (1))] S σ Q := pInc f_160_223 rfl (show (4 : Nat) < 5 by decide) (oC1n c3) (oC1n (v := .inl x) rfl) rfl
theorem f_160_226 : oFet 160 226 = some (.goto (-97), 3) := by decide +kernel
theorem s_160_226 {d : Nat} {l0 l1 l2 l3 l4 : oV} {S : List oV} {σ : oSg} {Q : Option oV → (Nat → oC) → Prop} : oE d 160 226 [l0, l1, l2, l3, l4] S σ Q = oE d 160 129 [l0, l1, l2, l3, l4] S σ Q := pGoto f_160_226 (by decide)
theorem f_160_229 : oFet 160 229 = some (.aload_n 0, 1) := by decide +kernel
theorem s_160_229 {d : Nat} {l1 l2 l3 l4 : oV} {a : Nat} {S : List oV} {σ : oSg} {Q : Option oV → (Nat → oC) → Prop} : oE d 160 229 [.inr (.inr (.inl a)), l1, l2, l3, l4] S σ Q = oE d 160 230 [.inr (.inr (.inl a)), l1, l2, l3, l4] (.inr (.inr (.inl a)) :: S) σ Q := pLdN (k := 0) f_160_229 rfl rfl rfl
theorem f_160_230 : oFet 160 230 = some (.iload_n 1, 1) := by decide +kernel
theorem s_160_230 {d : Nat} {l0 l2 l3 l4 : oV} {x : Int} {S : List oV} {σ : oSg} {Q : Option oV → (Nat → oC) → Prop} : oE d 160 230 [l0, .inl x, l2, l3, l4] S σ Q = oE d 160 231 [l0, .inl x, l2, l3, l4] (.inl x :: S) σ Q := pLdN (k := 1) f_160_230 rfl rfl rfl
theorem f_160_231 : oFet 160 231 = some (.iconst 1, 1) := by decide +kernel
theorem s_160_231 {d : Nat} {l0 l1 l2 l3 l4 : oV} {S : List oV} {σ : oSg} {Q : Option oV → (Nat → oC) → Prop} : oE d 160 231 [l0, l1, l2, l3, l4] S σ Q = oE d 160 232 [l0, l1, l2, l3, l4] (.inl (1) :: S) σ Q := pKst f_160_231 (by decide)
theorem f_160_232 : oFet 160 232 = some (.iadd, 1) := by decide +kernel
theorem s_160_232 {d : Nat} {l0 l1 l2 l3 l4 : oV} {x y : Int} {S : List oV} {σ : oSg} {Q : Option oV → (Nat → oC) → Prop} : oE d 160 232 [l0, l1, l2, l3, l4] (.inl y :: .inl x :: S) σ Q = oE d 160 233 [l0, l1, l2, l3, l4] (.inl (oAdd x y) :: S) σ Q := oS3 f_160_232 rfl rfl rfl
theorem f_160_233 : oFet 160 233 = some (.iload_n 2, 1) := by decide +kernel
theorem s_160_233 {d : Nat} {l0 l1 l3 l4 : oV} {x : Int} {S : List oV} {σ : oSg} {Q : Option oV → (Nat → oC) → Prop} : oE d 160 233 [l0, l1, .inl x, l3, l4] S σ Q = oE d 160 234 [l0, l1, .inl x, l3, l4] (.inl x :: S) σ Q := pLdN (k := 2) f_160_233 rfl rfl rfl
theorem f_160_234 : oFet 160 234 = some (.iload_n 3, 1) := by decide +kernel
theorem s_160_234 {d : Nat} {l0 l1 l2 l4 : oV} {x : Int} {S : List oV} {σ : oSg} {Q : Option oV → (Nat → oC) → Prop} : oE d 160 234 [l0, l1, l2, .inl x, l4] S σ Q = oE d 160 235 [l0, l1, l2, .inl x, l4] (.inl x :: S) σ Q := pLdN (k := 3) f_160_234 rfl rfl rfl
theorem f_160_235 : oFet 160 235 = some (.invokevirtual 183, 3) := by decide +kernel
theorem c_160_235 {d : Nat} {l0 l1 l2 l3 l4 : oV} {x0 x1 x2 : oV} {a : Nat} {v : Option oV} {τ : oSg} {S : List oV} {σ : oSg} {Q : Option oV → (Nat → oC) → Prop} (hm : oMi d 160 [.inr (.inr (.inl a)), x0, x1, x2] σ v τ) (hk : oKd a = some 11) (hs : oSmall S = true) : oE d 160 235 [l0, l1, l2, l3, l4] (x2 :: x1 :: x0 :: .inr (.inr (.inl a)) :: S) σ Q = oE d 160 238 [l0, l1, l2, l3, l4] (v.toList ++ S) τ Q := pCallV f_160_235 ow_160 lk_11_183 mt_160 rfl rfl rfl hk hs hm
theorem f_160_238 : oFet 160 238 = some (.return_, 1) := by decide +kernel
theorem s_160_238 {d : Nat} {l0 l1 l2 l3 l4 : oV} {σ : oSg} {Q : Option oV → (Nat → oC) → Prop} : oE d 160 238 [l0, l1, l2, l3, l4] [] σ Q = Q none (oBld σ) := oVret f_160_238 rt_160
theorem ow_161 : (oMt 161).2.2.2.2.1 = 11 := by decide +kernel
theorem rt_161 : (oMt 161).2.2.2.1 = some .int := by decide +kernel
theorem nl_161 : (oMt 161).2.2.1 = 4 := by decide +kernel
theorem f_161_0 : oFet 161 0 = some (.iload_n 1, 1) := by decide +kernel
theorem s_161_0 {d : Nat} {l0 l2 l3 : oV} {x : Int} {S : List oV} {σ : oSg} {Q : Option oV → (Nat → oC) → Prop} : oE d 161 0 [l0, .inl x, l2, l3] S σ Q = oE d 161 1 [l0, .inl x, l2, l3] (.inl x :: S) σ Q := pLdN (k := 1) f_161_0 rfl rfl rfl
theorem f_161_1 : oFet 161 1 = some (.iconst 0, 1) := by decide +kernel
theorem s_161_1 {d : Nat} {l0 l1 l2 l3 : oV} {S : List oV} {σ : oSg} {Q : Option oV → (Nat → oC) → Prop} : oE d 161 1 [l0, l1, l2, l3] S σ Q = oE d 161 2 [l0, l1, l2, l3] (.inl (0) :: S) σ Q := pKst f_161_1 (by decide)
theorem f_161_2 : oFet 161 2 = some (.bipush 9, 2) := by decide +kernel
theorem s_161_2 {d : Nat} {l0 l1 l2 l3 : oV} {S : List oV} {σ : oSg} {Q : Option oV → (Nat → oC) → Prop} : oE d 161 2 [l0, l1, l2, l3] S σ Q = oE d 161 4 [l0, l1, l2, l3] (.inl (9) :: S) σ Q := pBip f_161_2 (by decide)
theorem f_161_4 : oFet 161 4 = some (.invokestatic 57, 3) := by decide +kernel
theorem c_161_4 {d : Nat} {l0 l1 l2 l3 : oV} {x0 x1 x2 : oV} {v : Option oV} {τ : oSg} {S : List oV} {σ : oSg} {Q : Option oV → (Nat → oC) → Prop} (hm : oMi d 146 [x0, x1, x2] σ v τ) (hs : oSmall S = true) : oE d 161 4 [l0, l1, l2, l3] (x2 :: x1 :: x0 :: S) σ Q = oE d 161 7 [l0, l1, l2, l3] (v.toList ++ S) τ Q := pCallS f_161_4 ow_161 lk_11_57 mt_146 rfl rfl rfl hs hm
theorem f_161_7 : oFet 161 7 = some (.ifCond .ne 6, 3) := by decide +kernel
theorem s_161_7 {d : Nat} {l0 l1 l2 l3 : oV} {x : Int} {S : List oV} {σ : oSg} {Q : Option oV → (Nat → oC) → Prop} : oE d 161 7 [l0, l1, l2, l3] (.inl x :: S) σ Q = if ¬ x = 0 then oE d 161 13 [l0, l1, l2, l3] S σ Q else oE d 161 10 [l0, l1, l2, l3] S σ Q := oIfNe f_161_7 (by decide)
theorem f_161_10 : oFet 161 10 = some (.bipush (-2), 2) := by decide +kernel
theorem s_161_10 {d : Nat} {l0 l1 l2 l3 : oV} {S : List oV} {σ : oSg} {Q : Option oV → (Nat → oC) → Prop} : oE d 161 10 [l0, l1, l2, l3] S σ Q = oE d 161 12 [l0, l1, l2, l3] (.inl (-2) :: S) σ Q := pBip f_161_10 (by decide)
theorem f_161_12 : oFet 161 12 = some (.ireturn, 1) := by decide +kernel
theorem s_161_12 {d : Nat} {l0 l1 l2 l3 : oV} {x : Int} {σ : oSg} {Q : Option oV → (Nat → oC) → Prop} : oE d 161 12 [l0, l1, l2, l3] [.inl x] σ Q = Q (some (.inl x)) (oBld σ) := oIret f_161_12 rt_161
theorem f_161_13 : oFet 161 13 = some (.iconst 0, 1) := by decide +kernel
theorem s_161_13 {d : Nat} {l0 l1 l2 l3 : oV} {S : List oV} {σ : oSg} {Q : Option oV → (Nat → oC) → Prop} : oE d 161 13 [l0, l1, l2, l3] S σ Q = oE d 161 14 [l0, l1, l2, l3] (.inl (0) :: S) σ Q := pKst f_161_13 (by decide)
theorem f_161_14 : oFet 161 14 = some (.istore_n 2, 1) := by decide +kernel
theorem s_161_14 {d : Nat} {l0 l1 l2 l3 : oV} {x : Int} {S : List oV} {σ : oSg} {Q : Option oV → (Nat → oC) → Prop} (c2 : oCat l2 = 1) (c1 : oCat l1 = 1)  : oE d 161 14 [l0, l1, l2, l3] (.inl x :: S) σ Q = oE d 161 15 [l0, l1, .inl x, l3] S σ Q := pSt (i := 2) f_161_14 rfl rfl (show (2 : Nat) < 4 by decide) (oC1n c1) (oC1n c2) rfl
theorem f_161_15 : oFet 161 15 = some (.iload_n 2, 1) := by decide +kernel
theorem s_161_15 {d : Nat} {l0 l1 l3 : oV} {x : Int} {S : List oV} {σ : oSg} {Q : Option oV → (Nat → oC) → Prop} : oE d 161 15 [l0, l1, .inl x, l3] S σ Q = oE d 161 16 [l0, l1, .inl x, l3] (.inl x :: S) σ Q := pLdN (k := 2) f_161_15 rfl rfl rfl
theorem f_161_16 : oFet 161 16 = some (.iload_n 1, 1) := by decide +kernel
theorem s_161_16 {d : Nat} {l0 l2 l3 : oV} {x : Int} {S : List oV} {σ : oSg} {Q : Option oV → (Nat → oC) → Prop} : oE d 161 16 [l0, .inl x, l2, l3] S σ Q = oE d 161 17 [l0, .inl x, l2, l3] (.inl x :: S) σ Q := pLdN (k := 1) f_161_16 rfl rfl rfl
theorem f_161_17 : oFet 161 17 = some (.if_icmp .ge 78, 3) := by decide +kernel
theorem s_161_17 {d : Nat} {l0 l1 l2 l3 : oV} {x y : Int} {S : List oV} {σ : oSg} {Q : Option oV → (Nat → oC) → Prop} : oE d 161 17 [l0, l1, l2, l3] (.inl y :: .inl x :: S) σ Q = if y ≤ x then oE d 161 95 [l0, l1, l2, l3] S σ Q else oE d 161 20 [l0, l1, l2, l3] S σ Q := oCmpGe f_161_17 (by decide)
theorem f_161_20 : oFet 161 20 = some (.aload_n 0, 1) := by decide +kernel
theorem s_161_20 {d : Nat} {l1 l2 l3 : oV} {a : Nat} {S : List oV} {σ : oSg} {Q : Option oV → (Nat → oC) → Prop} : oE d 161 20 [.inr (.inr (.inl a)), l1, l2, l3] S σ Q = oE d 161 21 [.inr (.inr (.inl a)), l1, l2, l3] (.inr (.inr (.inl a)) :: S) σ Q := pLdN (k := 0) f_161_20 rfl rfl rfl
theorem f_161_21 : oFet 161 21 = some (.invokevirtual 108, 3) := by decide +kernel
theorem c_161_21 {d : Nat} {l0 l1 l2 l3 : oV} {a : Nat} {v : Option oV} {τ : oSg} {S : List oV} {σ : oSg} {Q : Option oV → (Nat → oC) → Prop} (hm : oMi d 162 [.inr (.inr (.inl a))] σ v τ) (hk : oKd a = some 11) (hs : oSmall S = true) : oE d 161 21 [l0, l1, l2, l3] (.inr (.inr (.inl a)) :: S) σ Q = oE d 161 24 [l0, l1, l2, l3] (v.toList ++ S) τ Q := pCallV f_161_21 ow_161 lk_11_108 mt_162 rfl rfl rfl hk hs hm
theorem f_161_24 : oFet 161 24 = some (.ifCond .eq 71, 3) := by decide +kernel
theorem s_161_24 {d : Nat} {l0 l1 l2 l3 : oV} {x : Int} {S : List oV} {σ : oSg} {Q : Option oV → (Nat → oC) → Prop} : oE d 161 24 [l0, l1, l2, l3] (.inl x :: S) σ Q = if x = 0 then oE d 161 95 [l0, l1, l2, l3] S σ Q else oE d 161 27 [l0, l1, l2, l3] S σ Q := oIfEq f_161_24 (by decide)
theorem f_161_27 : oFet 161 27 = some (.iconst 1, 1) := by decide +kernel
theorem s_161_27 {d : Nat} {l0 l1 l2 l3 : oV} {S : List oV} {σ : oSg} {Q : Option oV → (Nat → oC) → Prop} : oE d 161 27 [l0, l1, l2, l3] S σ Q = oE d 161 28 [l0, l1, l2, l3] (.inl (1) :: S) σ Q := pKst f_161_27 (by decide)
theorem f_161_28 : oFet 161 28 = some (.istore_n 3, 1) := by decide +kernel
theorem s_161_28 {d : Nat} {l0 l1 l2 l3 : oV} {x : Int} {S : List oV} {σ : oSg} {Q : Option oV → (Nat → oC) → Prop} (c3 : oCat l3 = 1) (c2 : oCat l2 = 1)  : oE d 161 28 [l0, l1, l2, l3] (.inl x :: S) σ Q = oE d 161 29 [l0, l1, l2, .inl x] S σ Q := pSt (i := 3) f_161_28 rfl rfl (show (3 : Nat) < 4 by decide) (oC1n c2) (oC1n c3) rfl
theorem f_161_29 : oFet 161 29 = some (.iload_n 3, 1) := by decide +kernel
theorem s_161_29 {d : Nat} {l0 l1 l2 : oV} {x : Int} {S : List oV} {σ : oSg} {Q : Option oV → (Nat → oC) → Prop} : oE d 161 29 [l0, l1, l2, .inl x] S σ Q = oE d 161 30 [l0, l1, l2, .inl x] (.inl x :: S) σ Q := pLdN (k := 3) f_161_29 rfl rfl rfl
theorem f_161_30 : oFet 161 30 = some (.iconst 1, 1) := by decide +kernel
theorem s_161_30 {d : Nat} {l0 l1 l2 l3 : oV} {S : List oV} {σ : oSg} {Q : Option oV → (Nat → oC) → Prop} : oE d 161 30 [l0, l1, l2, l3] S σ Q = oE d 161 31 [l0, l1, l2, l3] (.inl (1) :: S) σ Q := pKst f_161_30 (by decide)
theorem f_161_31 : oFet 161 31 = some (.iadd, 1) := by decide +kernel
theorem s_161_31 {d : Nat} {l0 l1 l2 l3 : oV} {x y : Int} {S : List oV} {σ : oSg} {Q : Option oV → (Nat → oC) → Prop} : oE d 161 31 [l0, l1, l2, l3] (.inl y :: .inl x :: S) σ Q = oE d 161 32 [l0, l1, l2, l3] (.inl (oAdd x y) :: S) σ Q := oS3 f_161_31 rfl rfl rfl
theorem f_161_32 : oFet 161 32 = some (.aload_n 0, 1) := by decide +kernel
theorem s_161_32 {d : Nat} {l1 l2 l3 : oV} {a : Nat} {S : List oV} {σ : oSg} {Q : Option oV → (Nat → oC) → Prop} : oE d 161 32 [.inr (.inr (.inl a)), l1, l2, l3] S σ Q = oE d 161 33 [.inr (.inr (.inl a)), l1, l2, l3] (.inr (.inr (.inl a)) :: S) σ Q := pLdN (k := 0) f_161_32 rfl rfl rfl
theorem f_161_33 : oFet 161 33 = some (.getfield 112, 3) := by decide +kernel
theorem s_161_33 {d : Nat} {l0 l1 l2 l3 : oV} {a : Nat} {S : List oV} {σ : oSg} {Q : Option oV → (Nat → oC) → Prop} (hk : oKd a = some 11) : oE d 161 33 [l0, l1, l2, l3] (.inr (.inr (.inl a)) :: S) σ Q = oE d 161 36 [l0, l1, l2, l3] (.inl (σ.1 a 9) :: S) σ Q := pGfI f_161_33 ow_161 fl_11_112 rfl (by decide) hk
theorem f_161_36 : oFet 161 36 = some (.if_icmp .ge 19, 3) := by decide +kernel
theorem s_161_36 {d : Nat} {l0 l1 l2 l3 : oV} {x y : Int} {S : List oV} {σ : oSg} {Q : Option oV → (Nat → oC) → Prop} : oE d 161 36 [l0, l1, l2, l3] (.inl y :: .inl x :: S) σ Q = if y ≤ x then oE d 161 55 [l0, l1, l2, l3] S σ Q else oE d 161 39 [l0, l1, l2, l3] S σ Q := oCmpGe f_161_36 (by decide)
theorem f_161_39 : oFet 161 39 = some (.aload_n 0, 1) := by decide +kernel
theorem s_161_39 {d : Nat} {l1 l2 l3 : oV} {a : Nat} {S : List oV} {σ : oSg} {Q : Option oV → (Nat → oC) → Prop} : oE d 161 39 [.inr (.inr (.inl a)), l1, l2, l3] S σ Q = oE d 161 40 [.inr (.inr (.inl a)), l1, l2, l3] (.inr (.inr (.inl a)) :: S) σ Q := pLdN (k := 0) f_161_39 rfl rfl rfl
theorem f_161_40 : oFet 161 40 = some (.aload_n 0, 1) := by decide +kernel
theorem s_161_40 {d : Nat} {l1 l2 l3 : oV} {a : Nat} {S : List oV} {σ : oSg} {Q : Option oV → (Nat → oC) → Prop} : oE d 161 40 [.inr (.inr (.inl a)), l1, l2, l3] S σ Q = oE d 161 41 [.inr (.inr (.inl a)), l1, l2, l3] (.inr (.inr (.inl a)) :: S) σ Q := pLdN (k := 0) f_161_40 rfl rfl rfl
theorem f_161_41 : oFet 161 41 = some (.getfield 27, 3) := by decide +kernel
theorem s_161_41 {d : Nat} {l0 l1 l2 l3 : oV} {a : Nat} {S : List oV} {σ : oSg} {Q : Option oV → (Nat → oC) → Prop} (hk : oKd a = some 11) : oE d 161 41 [l0, l1, l2, l3] (.inr (.inr (.inl a)) :: S) σ Q = oE d 161 44 [l0, l1, l2, l3] (.inr (.inr (.inl (oRf a 8))) :: S) σ Q := pGfR f_161_41 ow_161 fl_11_27 rfl (by decide) hk
theorem f_161_44 : oFet 161 44 = some (.iload_n 3, 1) := by decide +kernel
theorem s_161_44 {d : Nat} {l0 l1 l2 : oV} {x : Int} {S : List oV} {σ : oSg} {Q : Option oV → (Nat → oC) → Prop} : oE d 161 44 [l0, l1, l2, .inl x] S σ Q = oE d 161 45 [l0, l1, l2, .inl x] (.inl x :: S) σ Q := pLdN (k := 3) f_161_44 rfl rfl rfl
theorem f_161_45 : oFet 161 45 = some (.iaload, 1) := by decide +kernel
theorem s_161_45 {d : Nat} {l0 l1 l2 l3 : oV} {a : Nat} {i : Int} {S : List oV} {σ : oSg} {Q : Option oV → (Nat → oC) → Prop} (hk : oAk a = some 0) (h0 : 0 ≤ i) (h1 : i < (oLn a : Int)) : oE d 161 45 [l0, l1, l2, l3] (.inl i :: .inr (.inr (.inl a)) :: S) σ Q = oE d 161 46 [l0, l1, l2, l3] (.inl (σ.2 a i.toNat) :: S) σ Q := oIal f_161_45 hk h0 h1
theorem f_161_46 : oFet 161 46 = some (.invokevirtual 87, 3) := by decide +kernel
theorem c_161_46 {d : Nat} {l0 l1 l2 l3 : oV} {x0 : oV} {a : Nat} {v : Option oV} {τ : oSg} {S : List oV} {σ : oSg} {Q : Option oV → (Nat → oC) → Prop} (hm : oMi d 150 [.inr (.inr (.inl a)), x0] σ v τ) (hk : oKd a = some 11) (hs : oSmall S = true) : oE d 161 46 [l0, l1, l2, l3] (x0 :: .inr (.inr (.inl a)) :: S) σ Q = oE d 161 49 [l0, l1, l2, l3] (v.toList ++ S) τ Q := pCallV f_161_46 ow_161 lk_11_87 mt_150 rfl rfl rfl hk hs hm
theorem f_161_49 : oFet 161 49 = some (.iinc 3 2, 3) := by decide +kernel
theorem s_161_49 {d : Nat} {l0 l1 l2 : oV} {x : Int} {S : List oV} {σ : oSg} {Q : Option oV → (Nat → oC) → Prop} (c2 : oCat l2 = 1)  : oE d 161 49 [l0, l1, l2, .inl x] S σ Q = oE d 161 52 [l0, l1, l2, .inl (oAdd x (2))] S σ Q := pInc f_161_49 rfl (show (3 : Nat) < 4 by decide) (oC1n c2) (oC1n (v := .inl x) rfl) rfl
theorem f_161_52 : oFet 161 52 = some (.goto (-23), 3) := by decide +kernel
theorem s_161_52 {d : Nat} {l0 l1 l2 l3 : oV} {S : List oV} {σ : oSg} {Q : Option oV → (Nat → oC) → Prop} : oE d 161 52 [l0, l1, l2, l3] S σ Q = oE d 161 29 [l0, l1, l2, l3] S σ Q := pGoto f_161_52 (by decide)
theorem f_161_55 : oFet 161 55 = some (.iconst 0, 1) := by decide +kernel
theorem s_161_55 {d : Nat} {l0 l1 l2 l3 : oV} {S : List oV} {σ : oSg} {Q : Option oV → (Nat → oC) → Prop} : oE d 161 55 [l0, l1, l2, l3] S σ Q = oE d 161 56 [l0, l1, l2, l3] (.inl (0) :: S) σ Q := pKst f_161_55 (by decide)
theorem f_161_56 : oFet 161 56 = some (.istore_n 3, 1) := by decide +kernel
theorem s_161_56 {d : Nat} {l0 l1 l2 l3 : oV} {x : Int} {S : List oV} {σ : oSg} {Q : Option oV → (Nat → oC) → Prop} (c3 : oCat l3 = 1) (c2 : oCat l2 = 1)  : oE d 161 56 [l0, l1, l2, l3] (.inl x :: S) σ Q = oE d 161 57 [l0, l1, l2, .inl x] S σ Q := pSt (i := 3) f_161_56 rfl rfl (show (3 : Nat) < 4 by decide) (oC1n c2) (oC1n c3) rfl
theorem f_161_57 : oFet 161 57 = some (.iload_n 3, 1) := by decide +kernel
theorem s_161_57 {d : Nat} {l0 l1 l2 : oV} {x : Int} {S : List oV} {σ : oSg} {Q : Option oV → (Nat → oC) → Prop} : oE d 161 57 [l0, l1, l2, .inl x] S σ Q = oE d 161 58 [l0, l1, l2, .inl x] (.inl x :: S) σ Q := pLdN (k := 3) f_161_57 rfl rfl rfl
theorem f_161_58 : oFet 161 58 = some (.aload_n 0, 1) := by decide +kernel
theorem s_161_58 {d : Nat} {l1 l2 l3 : oV} {a : Nat} {S : List oV} {σ : oSg} {Q : Option oV → (Nat → oC) → Prop} : oE d 161 58 [.inr (.inr (.inl a)), l1, l2, l3] S σ Q = oE d 161 59 [.inr (.inr (.inl a)), l1, l2, l3] (.inr (.inr (.inl a)) :: S) σ Q := pLdN (k := 0) f_161_58 rfl rfl rfl
theorem f_161_59 : oFet 161 59 = some (.getfield 112, 3) := by decide +kernel
theorem s_161_59 {d : Nat} {l0 l1 l2 l3 : oV} {a : Nat} {S : List oV} {σ : oSg} {Q : Option oV → (Nat → oC) → Prop} (hk : oKd a = some 11) : oE d 161 59 [l0, l1, l2, l3] (.inr (.inr (.inl a)) :: S) σ Q = oE d 161 62 [l0, l1, l2, l3] (.inl (σ.1 a 9) :: S) σ Q := pGfI f_161_59 ow_161 fl_11_112 rfl (by decide) hk
theorem f_161_62 : oFet 161 62 = some (.if_icmp .ge 27, 3) := by decide +kernel
theorem s_161_62 {d : Nat} {l0 l1 l2 l3 : oV} {x y : Int} {S : List oV} {σ : oSg} {Q : Option oV → (Nat → oC) → Prop} : oE d 161 62 [l0, l1, l2, l3] (.inl y :: .inl x :: S) σ Q = if y ≤ x then oE d 161 89 [l0, l1, l2, l3] S σ Q else oE d 161 65 [l0, l1, l2, l3] S σ Q := oCmpGe f_161_62 (by decide)
theorem f_161_65 : oFet 161 65 = some (.aload_n 0, 1) := by decide +kernel
theorem s_161_65 {d : Nat} {l1 l2 l3 : oV} {a : Nat} {S : List oV} {σ : oSg} {Q : Option oV → (Nat → oC) → Prop} : oE d 161 65 [.inr (.inr (.inl a)), l1, l2, l3] S σ Q = oE d 161 66 [.inr (.inr (.inl a)), l1, l2, l3] (.inr (.inr (.inl a)) :: S) σ Q := pLdN (k := 0) f_161_65 rfl rfl rfl
theorem f_161_66 : oFet 161 66 = some (.aload_n 0, 1) := by decide +kernel
theorem s_161_66 {d : Nat} {l1 l2 l3 : oV} {a : Nat} {S : List oV} {σ : oSg} {Q : Option oV → (Nat → oC) → Prop} : oE d 161 66 [.inr (.inr (.inl a)), l1, l2, l3] S σ Q = oE d 161 67 [.inr (.inr (.inl a)), l1, l2, l3] (.inr (.inr (.inl a)) :: S) σ Q := pLdN (k := 0) f_161_66 rfl rfl rfl
theorem f_161_67 : oFet 161 67 = some (.getfield 27, 3) := by decide +kernel
theorem s_161_67 {d : Nat} {l0 l1 l2 l3 : oV} {a : Nat} {S : List oV} {σ : oSg} {Q : Option oV → (Nat → oC) → Prop} (hk : oKd a = some 11) : oE d 161 67 [l0, l1, l2, l3] (.inr (.inr (.inl a)) :: S) σ Q = oE d 161 70 [l0, l1, l2, l3] (.inr (.inr (.inl (oRf a 8))) :: S) σ Q := pGfR f_161_67 ow_161 fl_11_27 rfl (by decide) hk
theorem f_161_70 : oFet 161 70 = some (.iload_n 3, 1) := by decide +kernel
theorem s_161_70 {d : Nat} {l0 l1 l2 : oV} {x : Int} {S : List oV} {σ : oSg} {Q : Option oV → (Nat → oC) → Prop} : oE d 161 70 [l0, l1, l2, .inl x] S σ Q = oE d 161 71 [l0, l1, l2, .inl x] (.inl x :: S) σ Q := pLdN (k := 3) f_161_70 rfl rfl rfl
theorem f_161_71 : oFet 161 71 = some (.iaload, 1) := by decide +kernel
theorem s_161_71 {d : Nat} {l0 l1 l2 l3 : oV} {a : Nat} {i : Int} {S : List oV} {σ : oSg} {Q : Option oV → (Nat → oC) → Prop} (hk : oAk a = some 0) (h0 : 0 ≤ i) (h1 : i < (oLn a : Int)) : oE d 161 71 [l0, l1, l2, l3] (.inl i :: .inr (.inr (.inl a)) :: S) σ Q = oE d 161 72 [l0, l1, l2, l3] (.inl (σ.2 a i.toNat) :: S) σ Q := oIal f_161_71 hk h0 h1
theorem f_161_72 : oFet 161 72 = some (.aload_n 0, 1) := by decide +kernel
theorem s_161_72 {d : Nat} {l1 l2 l3 : oV} {a : Nat} {S : List oV} {σ : oSg} {Q : Option oV → (Nat → oC) → Prop} : oE d 161 72 [.inr (.inr (.inl a)), l1, l2, l3] S σ Q = oE d 161 73 [.inr (.inr (.inl a)), l1, l2, l3] (.inr (.inr (.inl a)) :: S) σ Q := pLdN (k := 0) f_161_72 rfl rfl rfl
theorem f_161_73 : oFet 161 73 = some (.getfield 27, 3) := by decide +kernel
theorem s_161_73 {d : Nat} {l0 l1 l2 l3 : oV} {a : Nat} {S : List oV} {σ : oSg} {Q : Option oV → (Nat → oC) → Prop} (hk : oKd a = some 11) : oE d 161 73 [l0, l1, l2, l3] (.inr (.inr (.inl a)) :: S) σ Q = oE d 161 76 [l0, l1, l2, l3] (.inr (.inr (.inl (oRf a 8))) :: S) σ Q := pGfR f_161_73 ow_161 fl_11_27 rfl (by decide) hk
theorem f_161_76 : oFet 161 76 = some (.iload_n 3, 1) := by decide +kernel
theorem s_161_76 {d : Nat} {l0 l1 l2 : oV} {x : Int} {S : List oV} {σ : oSg} {Q : Option oV → (Nat → oC) → Prop} : oE d 161 76 [l0, l1, l2, .inl x] S σ Q = oE d 161 77 [l0, l1, l2, .inl x] (.inl x :: S) σ Q := pLdN (k := 3) f_161_76 rfl rfl rfl
theorem f_161_77 : oFet 161 77 = some (.iconst 1, 1) := by decide +kernel
theorem s_161_77 {d : Nat} {l0 l1 l2 l3 : oV} {S : List oV} {σ : oSg} {Q : Option oV → (Nat → oC) → Prop} : oE d 161 77 [l0, l1, l2, l3] S σ Q = oE d 161 78 [l0, l1, l2, l3] (.inl (1) :: S) σ Q := pKst f_161_77 (by decide)
theorem f_161_78 : oFet 161 78 = some (.iadd, 1) := by decide +kernel
theorem s_161_78 {d : Nat} {l0 l1 l2 l3 : oV} {x y : Int} {S : List oV} {σ : oSg} {Q : Option oV → (Nat → oC) → Prop} : oE d 161 78 [l0, l1, l2, l3] (.inl y :: .inl x :: S) σ Q = oE d 161 79 [l0, l1, l2, l3] (.inl (oAdd x y) :: S) σ Q := oS3 f_161_78 rfl rfl rfl
theorem f_161_79 : oFet 161 79 = some (.iaload, 1) := by decide +kernel
theorem s_161_79 {d : Nat} {l0 l1 l2 l3 : oV} {a : Nat} {i : Int} {S : List oV} {σ : oSg} {Q : Option oV → (Nat → oC) → Prop} (hk : oAk a = some 0) (h0 : 0 ≤ i) (h1 : i < (oLn a : Int)) : oE d 161 79 [l0, l1, l2, l3] (.inl i :: .inr (.inr (.inl a)) :: S) σ Q = oE d 161 80 [l0, l1, l2, l3] (.inl (σ.2 a i.toNat) :: S) σ Q := oIal f_161_79 hk h0 h1
theorem f_161_80 : oFet 161 80 = some (.invokevirtual 94, 3) := by decide +kernel
theorem c_161_80 {d : Nat} {l0 l1 l2 l3 : oV} {x0 x1 : oV} {a : Nat} {v : Option oV} {τ : oSg} {S : List oV} {σ : oSg} {Q : Option oV → (Nat → oC) → Prop} (hm : oMi d 154 [.inr (.inr (.inl a)), x0, x1] σ v τ) (hk : oKd a = some 11) (hs : oSmall S = true) : oE d 161 80 [l0, l1, l2, l3] (x1 :: x0 :: .inr (.inr (.inl a)) :: S) σ Q = oE d 161 83 [l0, l1, l2, l3] (v.toList ++ S) τ Q := pCallV f_161_80 ow_161 lk_11_94 mt_154 rfl rfl rfl hk hs hm
theorem f_161_83 : oFet 161 83 = some (.iinc 3 2, 3) := by decide +kernel
theorem s_161_83 {d : Nat} {l0 l1 l2 : oV} {x : Int} {S : List oV} {σ : oSg} {Q : Option oV → (Nat → oC) → Prop} (c2 : oCat l2 = 1)  : oE d 161 83 [l0, l1, l2, .inl x] S σ Q = oE d 161 86 [l0, l1, l2, .inl (oAdd x (2))] S σ Q := pInc f_161_83 rfl (show (3 : Nat) < 4 by decide) (oC1n c2) (oC1n (v := .inl x) rfl) rfl
theorem f_161_86 : oFet 161 86 = some (.goto (-29), 3) := by decide +kernel
theorem s_161_86 {d : Nat} {l0 l1 l2 l3 : oV} {S : List oV} {σ : oSg} {Q : Option oV → (Nat → oC) → Prop} : oE d 161 86 [l0, l1, l2, l3] S σ Q = oE d 161 57 [l0, l1, l2, l3] S σ Q := pGoto f_161_86 (by decide)
theorem f_161_89 : oFet 161 89 = some (.iinc 2 1, 3) := by decide +kernel
theorem s_161_89 {d : Nat} {l0 l1 l3 : oV} {x : Int} {S : List oV} {σ : oSg} {Q : Option oV → (Nat → oC) → Prop} (c1 : oCat l1 = 1)  : oE d 161 89 [l0, l1, .inl x, l3] S σ Q = oE d 161 92 [l0, l1, .inl (oAdd x (1)), l3] S σ Q := pInc f_161_89 rfl (show (2 : Nat) < 4 by decide) (oC1n c1) (oC1n (v := .inl x) rfl) rfl
theorem f_161_92 : oFet 161 92 = some (.goto (-77), 3) := by decide +kernel
theorem s_161_92 {d : Nat} {l0 l1 l2 l3 : oV} {S : List oV} {σ : oSg} {Q : Option oV → (Nat → oC) → Prop} : oE d 161 92 [l0, l1, l2, l3] S σ Q = oE d 161 15 [l0, l1, l2, l3] S σ Q := pGoto f_161_92 (by decide)
theorem f_161_95 : oFet 161 95 = some (.iload_n 2, 1) := by decide +kernel
theorem s_161_95 {d : Nat} {l0 l1 l3 : oV} {x : Int} {S : List oV} {σ : oSg} {Q : Option oV → (Nat → oC) → Prop} : oE d 161 95 [l0, l1, .inl x, l3] S σ Q = oE d 161 96 [l0, l1, .inl x, l3] (.inl x :: S) σ Q := pLdN (k := 2) f_161_95 rfl rfl rfl
theorem f_161_96 : oFet 161 96 = some (.ireturn, 1) := by decide +kernel
theorem s_161_96 {d : Nat} {l0 l1 l2 l3 : oV} {x : Int} {σ : oSg} {Q : Option oV → (Nat → oC) → Prop} : oE d 161 96 [l0, l1, l2, l3] [.inl x] σ Q = Q (some (.inl x)) (oBld σ) := oIret f_161_96 rt_161
theorem ow_162 : (oMt 162).2.2.2.2.1 = 11 := by decide +kernel
theorem rt_162 : (oMt 162).2.2.2.1 = some .boolean := by decide +kernel
theorem nl_162 : (oMt 162).2.2.1 = 1 := by decide +kernel
theorem f_162_0 : oFet 162 0 = some (.aload_n 0, 1) := by decide +kernel
theorem s_162_0 {d : Nat} {a : Nat} {S : List oV} {σ : oSg} {Q : Option oV → (Nat → oC) → Prop} : oE d 162 0 [.inr (.inr (.inl a))] S σ Q = oE d 162 1 [.inr (.inr (.inl a))] (.inr (.inr (.inl a)) :: S) σ Q := pLdN (k := 0) f_162_0 rfl rfl rfl
theorem f_162_1 : oFet 162 1 = some (.iconst 2, 1) := by decide +kernel
theorem s_162_1 {d : Nat} {l0 : oV} {S : List oV} {σ : oSg} {Q : Option oV → (Nat → oC) → Prop} : oE d 162 1 [l0] S σ Q = oE d 162 2 [l0] (.inl (2) :: S) σ Q := pKst f_162_1 (by decide)
theorem f_162_2 : oFet 162 2 = some (.putfield 112, 3) := by decide +kernel
theorem s_162_2 {d : Nat} {l0 : oV} {a : Nat} {v : Int} {S : List oV} {σ : oSg} {Q : Option oV → (Nat → oC) → Prop} (hk : oKd a = some 11) : oE d 162 2 [l0] (.inl v :: .inr (.inr (.inl a)) :: S) σ Q = oE d 162 5 [l0] S (oSF σ a 9 v) Q := pPfI f_162_2 ow_162 fl_11_112 rfl (by decide) rfl rfl hk
theorem f_162_5 : oFet 162 5 = some (.aload_n 0, 1) := by decide +kernel
theorem s_162_5 {d : Nat} {a : Nat} {S : List oV} {σ : oSg} {Q : Option oV → (Nat → oC) → Prop} : oE d 162 5 [.inr (.inr (.inl a))] S σ Q = oE d 162 6 [.inr (.inr (.inl a))] (.inr (.inr (.inl a)) :: S) σ Q := pLdN (k := 0) f_162_5 rfl rfl rfl
theorem f_162_6 : oFet 162 6 = some (.getfield 112, 3) := by decide +kernel
theorem s_162_6 {d : Nat} {l0 : oV} {a : Nat} {S : List oV} {σ : oSg} {Q : Option oV → (Nat → oC) → Prop} (hk : oKd a = some 11) : oE d 162 6 [l0] (.inr (.inr (.inl a)) :: S) σ Q = oE d 162 9 [l0] (.inl (σ.1 a 9) :: S) σ Q := pGfI f_162_6 ow_162 fl_11_112 rfl (by decide) hk
theorem f_162_9 : oFet 162 9 = some (.bipush 7, 2) := by decide +kernel
theorem s_162_9 {d : Nat} {l0 : oV} {S : List oV} {σ : oSg} {Q : Option oV → (Nat → oC) → Prop} : oE d 162 9 [l0] S σ Q = oE d 162 11 [l0] (.inl (7) :: S) σ Q := pBip f_162_9 (by decide)
theorem f_162_11 : oFet 162 11 = some (.if_icmp .gt 26, 3) := by decide +kernel
theorem s_162_11 {d : Nat} {l0 : oV} {x y : Int} {S : List oV} {σ : oSg} {Q : Option oV → (Nat → oC) → Prop} : oE d 162 11 [l0] (.inl y :: .inl x :: S) σ Q = if y < x then oE d 162 37 [l0] S σ Q else oE d 162 14 [l0] S σ Q := oCmpGt f_162_11 (by decide)
theorem f_162_14 : oFet 162 14 = some (.aload_n 0, 1) := by decide +kernel
theorem s_162_14 {d : Nat} {a : Nat} {S : List oV} {σ : oSg} {Q : Option oV → (Nat → oC) → Prop} : oE d 162 14 [.inr (.inr (.inl a))] S σ Q = oE d 162 15 [.inr (.inr (.inl a))] (.inr (.inr (.inl a)) :: S) σ Q := pLdN (k := 0) f_162_14 rfl rfl rfl
theorem f_162_15 : oFet 162 15 = some (.iconst 0, 1) := by decide +kernel
theorem s_162_15 {d : Nat} {l0 : oV} {S : List oV} {σ : oSg} {Q : Option oV → (Nat → oC) → Prop} : oE d 162 15 [l0] S σ Q = oE d 162 16 [l0] (.inl (0) :: S) σ Q := pKst f_162_15 (by decide)
theorem f_162_16 : oFet 162 16 = some (.invokevirtual 156, 3) := by decide +kernel
theorem c_162_16 {d : Nat} {l0 : oV} {x0 : oV} {a : Nat} {v : Option oV} {τ : oSg} {S : List oV} {σ : oSg} {Q : Option oV → (Nat → oC) → Prop} (hm : oMi d 163 [.inr (.inr (.inl a)), x0] σ v τ) (hk : oKd a = some 11) (hs : oSmall S = true) : oE d 162 16 [l0] (x0 :: .inr (.inr (.inl a)) :: S) σ Q = oE d 162 19 [l0] (v.toList ++ S) τ Q := pCallV f_162_16 ow_162 lk_11_156 mt_163 rfl rfl rfl hk hs hm
theorem f_162_19 : oFet 162 19 = some (.ifCond .eq 5, 3) := by decide +kernel
theorem s_162_19 {d : Nat} {l0 : oV} {x : Int} {S : List oV} {σ : oSg} {Q : Option oV → (Nat → oC) → Prop} : oE d 162 19 [l0] (.inl x :: S) σ Q = if x = 0 then oE d 162 24 [l0] S σ Q else oE d 162 22 [l0] S σ Q := oIfEq f_162_19 (by decide)
theorem f_162_22 : oFet 162 22 = some (.iconst 1, 1) := by decide +kernel
theorem s_162_22 {d : Nat} {l0 : oV} {S : List oV} {σ : oSg} {Q : Option oV → (Nat → oC) → Prop} : oE d 162 22 [l0] S σ Q = oE d 162 23 [l0] (.inl (1) :: S) σ Q := pKst f_162_22 (by decide)
theorem f_162_23 : oFet 162 23 = some (.ireturn, 1) := by decide +kernel
theorem s_162_23 {d : Nat} {l0 : oV} {x : Int} {σ : oSg} {Q : Option oV → (Nat → oC) → Prop} (hx : x = 0 ∨ x = 1) : oE d 162 23 [l0] [.inl x] σ Q = Q (some (.inl x)) (oBld σ) := oZret f_162_23 rt_162 hx
theorem f_162_24 : oFet 162 24 = some (.aload_n 0, 1) := by decide +kernel
theorem s_162_24 {d : Nat} {a : Nat} {S : List oV} {σ : oSg} {Q : Option oV → (Nat → oC) → Prop} : oE d 162 24 [.inr (.inr (.inl a))] S σ Q = oE d 162 25 [.inr (.inr (.inl a))] (.inr (.inr (.inl a)) :: S) σ Q := pLdN (k := 0) f_162_24 rfl rfl rfl
theorem f_162_25 : oFet 162 25 = some (.dup, 1) := by decide +kernel
theorem s_162_25 {d : Nat} {l0 : oV} {a : Nat} {S : List oV} {σ : oSg} {Q : Option oV → (Nat → oC) → Prop} : oE d 162 25 [l0] (.inr (.inr (.inl a)) :: S) σ Q = oE d 162 26 [l0] (.inr (.inr (.inl a)) :: .inr (.inr (.inl a)) :: S) σ Q := pDupR f_162_25
theorem s_162_25_i {d : Nat} {l0 : oV} {x : Int} {S : List oV} {σ : oSg} {Q : Option oV → (Nat → oC) → Prop} : oE d 162 25 [l0] (.inl x :: S) σ Q = oE d 162 26 [l0] (.inl x :: .inl x :: S) σ Q := pDupI f_162_25
theorem f_162_26 : oFet 162 26 = some (.getfield 112, 3) := by decide +kernel
theorem s_162_26 {d : Nat} {l0 : oV} {a : Nat} {S : List oV} {σ : oSg} {Q : Option oV → (Nat → oC) → Prop} (hk : oKd a = some 11) : oE d 162 26 [l0] (.inr (.inr (.inl a)) :: S) σ Q = oE d 162 29 [l0] (.inl (σ.1 a 9) :: S) σ Q := pGfI f_162_26 ow_162 fl_11_112 rfl (by decide) hk
theorem f_162_29 : oFet 162 29 = some (.iconst 2, 1) := by decide +kernel
theorem s_162_29 {d : Nat} {l0 : oV} {S : List oV} {σ : oSg} {Q : Option oV → (Nat → oC) → Prop} : oE d 162 29 [l0] S σ Q = oE d 162 30 [l0] (.inl (2) :: S) σ Q := pKst f_162_29 (by decide)
theorem f_162_30 : oFet 162 30 = some (.iadd, 1) := by decide +kernel
theorem s_162_30 {d : Nat} {l0 : oV} {x y : Int} {S : List oV} {σ : oSg} {Q : Option oV → (Nat → oC) → Prop} : oE d 162 30 [l0] (.inl y :: .inl x :: S) σ Q = oE d 162 31 [l0] (.inl (oAdd x y) :: S) σ Q := oS3 f_162_30 rfl rfl rfl
theorem f_162_31 : oFet 162 31 = some (.putfield 112, 3) := by decide +kernel
theorem s_162_31 {d : Nat} {l0 : oV} {a : Nat} {v : Int} {S : List oV} {σ : oSg} {Q : Option oV → (Nat → oC) → Prop} (hk : oKd a = some 11) : oE d 162 31 [l0] (.inl v :: .inr (.inr (.inl a)) :: S) σ Q = oE d 162 34 [l0] S (oSF σ a 9 v) Q := pPfI f_162_31 ow_162 fl_11_112 rfl (by decide) rfl rfl hk
theorem f_162_34 : oFet 162 34 = some (.goto (-29), 3) := by decide +kernel
theorem s_162_34 {d : Nat} {l0 : oV} {S : List oV} {σ : oSg} {Q : Option oV → (Nat → oC) → Prop} : oE d 162 34 [l0] S σ Q = oE d 162 5 [l0] S σ Q := pGoto f_162_34 (by decide)
theorem f_162_37 : oFet 162 37 = some (.iconst 0, 1) := by decide +kernel
theorem s_162_37 {d : Nat} {l0 : oV} {S : List oV} {σ : oSg} {Q : Option oV → (Nat → oC) → Prop} : oE d 162 37 [l0] S σ Q = oE d 162 38 [l0] (.inl (0) :: S) σ Q := pKst f_162_37 (by decide)
theorem f_162_38 : oFet 162 38 = some (.ireturn, 1) := by decide +kernel
theorem s_162_38 {d : Nat} {l0 : oV} {x : Int} {σ : oSg} {Q : Option oV → (Nat → oC) → Prop} (hx : x = 0 ∨ x = 1) : oE d 162 38 [l0] [.inl x] σ Q = Q (some (.inl x)) (oBld σ) := oZret f_162_38 rt_162 hx
theorem ow_163 : (oMt 163).2.2.2.2.1 = 11 := by decide +kernel
theorem rt_163 : (oMt 163).2.2.2.1 = some .boolean := by decide +kernel
theorem nl_163 : (oMt 163).2.2.1 = 4 := by decide +kernel
theorem f_163_0 : oFet 163 0 = some (.iload_n 1, 1) := by decide +kernel
theorem s_163_0 {d : Nat} {l0 l2 l3 : oV} {x : Int} {S : List oV} {σ : oSg} {Q : Option oV → (Nat → oC) → Prop} : oE d 163 0 [l0, .inl x, l2, l3] S σ Q = oE d 163 1 [l0, .inl x, l2, l3] (.inl x :: S) σ Q := pLdN (k := 1) f_163_0 rfl rfl rfl
theorem f_163_1 : oFet 163 1 = some (.aload_n 0, 1) := by decide +kernel
theorem s_163_1 {d : Nat} {l1 l2 l3 : oV} {a : Nat} {S : List oV} {σ : oSg} {Q : Option oV → (Nat → oC) → Prop} : oE d 163 1 [.inr (.inr (.inl a)), l1, l2, l3] S σ Q = oE d 163 2 [.inr (.inr (.inl a)), l1, l2, l3] (.inr (.inr (.inl a)) :: S) σ Q := pLdN (k := 0) f_163_1 rfl rfl rfl
theorem f_163_2 : oFet 163 2 = some (.getfield 112, 3) := by decide +kernel
theorem s_163_2 {d : Nat} {l0 l1 l2 l3 : oV} {a : Nat} {S : List oV} {σ : oSg} {Q : Option oV → (Nat → oC) → Prop} (hk : oKd a = some 11) : oE d 163 2 [l0, l1, l2, l3] (.inr (.inr (.inl a)) :: S) σ Q = oE d 163 5 [l0, l1, l2, l3] (.inl (σ.1 a 9) :: S) σ Q := pGfI f_163_2 ow_163 fl_11_112 rfl (by decide) hk
theorem f_163_5 : oFet 163 5 = some (.if_icmp .ne 25, 3) := by decide +kernel
theorem s_163_5 {d : Nat} {l0 l1 l2 l3 : oV} {x y : Int} {S : List oV} {σ : oSg} {Q : Option oV → (Nat → oC) → Prop} : oE d 163 5 [l0, l1, l2, l3] (.inl y :: .inl x :: S) σ Q = if ¬ x = y then oE d 163 30 [l0, l1, l2, l3] S σ Q else oE d 163 8 [l0, l1, l2, l3] S σ Q := oCmpNe f_163_5 (by decide)
theorem f_163_8 : oFet 163 8 = some (.aload_n 0, 1) := by decide +kernel
theorem s_163_8 {d : Nat} {l1 l2 l3 : oV} {a : Nat} {S : List oV} {σ : oSg} {Q : Option oV → (Nat → oC) → Prop} : oE d 163 8 [.inr (.inr (.inl a)), l1, l2, l3] S σ Q = oE d 163 9 [.inr (.inr (.inl a)), l1, l2, l3] (.inr (.inr (.inl a)) :: S) σ Q := pLdN (k := 0) f_163_8 rfl rfl rfl
theorem f_163_9 : oFet 163 9 = some (.aload_n 0, 1) := by decide +kernel
theorem s_163_9 {d : Nat} {l1 l2 l3 : oV} {a : Nat} {S : List oV} {σ : oSg} {Q : Option oV → (Nat → oC) → Prop} : oE d 163 9 [.inr (.inr (.inl a)), l1, l2, l3] S σ Q = oE d 163 10 [.inr (.inr (.inl a)), l1, l2, l3] (.inr (.inr (.inl a)) :: S) σ Q := pLdN (k := 0) f_163_9 rfl rfl rfl
theorem f_163_10 : oFet 163 10 = some (.getfield 27, 3) := by decide +kernel
theorem s_163_10 {d : Nat} {l0 l1 l2 l3 : oV} {a : Nat} {S : List oV} {σ : oSg} {Q : Option oV → (Nat → oC) → Prop} (hk : oKd a = some 11) : oE d 163 10 [l0, l1, l2, l3] (.inr (.inr (.inl a)) :: S) σ Q = oE d 163 13 [l0, l1, l2, l3] (.inr (.inr (.inl (oRf a 8))) :: S) σ Q := pGfR f_163_10 ow_163 fl_11_27 rfl (by decide) hk
theorem f_163_13 : oFet 163 13 = some (.iload_n 1, 1) := by decide +kernel
theorem s_163_13 {d : Nat} {l0 l2 l3 : oV} {x : Int} {S : List oV} {σ : oSg} {Q : Option oV → (Nat → oC) → Prop} : oE d 163 13 [l0, .inl x, l2, l3] S σ Q = oE d 163 14 [l0, .inl x, l2, l3] (.inl x :: S) σ Q := pLdN (k := 1) f_163_13 rfl rfl rfl
theorem f_163_14 : oFet 163 14 = some (.iconst 1, 1) := by decide +kernel
theorem s_163_14 {d : Nat} {l0 l1 l2 l3 : oV} {S : List oV} {σ : oSg} {Q : Option oV → (Nat → oC) → Prop} : oE d 163 14 [l0, l1, l2, l3] S σ Q = oE d 163 15 [l0, l1, l2, l3] (.inl (1) :: S) σ Q := pKst f_163_14 (by decide)
theorem f_163_15 : oFet 163 15 = some (.isub, 1) := by decide +kernel
theorem s_163_15 {d : Nat} {l0 l1 l2 l3 : oV} {x y : Int} {S : List oV} {σ : oSg} {Q : Option oV → (Nat → oC) → Prop} : oE d 163 15 [l0, l1, l2, l3] (.inl y :: .inl x :: S) σ Q = oE d 163 16 [l0, l1, l2, l3] (.inl (oSub x y) :: S) σ Q := oS3 f_163_15 rfl rfl rfl
theorem f_163_16 : oFet 163 16 = some (.iaload, 1) := by decide +kernel
theorem s_163_16 {d : Nat} {l0 l1 l2 l3 : oV} {a : Nat} {i : Int} {S : List oV} {σ : oSg} {Q : Option oV → (Nat → oC) → Prop} (hk : oAk a = some 0) (h0 : 0 ≤ i) (h1 : i < (oLn a : Int)) : oE d 163 16 [l0, l1, l2, l3] (.inl i :: .inr (.inr (.inl a)) :: S) σ Q = oE d 163 17 [l0, l1, l2, l3] (.inl (σ.2 a i.toNat) :: S) σ Q := oIal f_163_16 hk h0 h1
theorem f_163_17 : oFet 163 17 = some (.invokevirtual 75, 3) := by decide +kernel
theorem c_163_17 {d : Nat} {l0 l1 l2 l3 : oV} {x0 : oV} {a : Nat} {v : Option oV} {τ : oSg} {S : List oV} {σ : oSg} {Q : Option oV → (Nat → oC) → Prop} (hm : oMi d 149 [.inr (.inr (.inl a)), x0] σ v τ) (hk : oKd a = some 11) (hs : oSmall S = true) : oE d 163 17 [l0, l1, l2, l3] (x0 :: .inr (.inr (.inl a)) :: S) σ Q = oE d 163 20 [l0, l1, l2, l3] (v.toList ++ S) τ Q := pCallV f_163_17 ow_163 lk_11_75 mt_149 rfl rfl rfl hk hs hm
theorem f_163_20 : oFet 163 20 = some (.iconst (-1), 1) := by decide +kernel
theorem s_163_20 {d : Nat} {l0 l1 l2 l3 : oV} {S : List oV} {σ : oSg} {Q : Option oV → (Nat → oC) → Prop} : oE d 163 20 [l0, l1, l2, l3] S σ Q = oE d 163 21 [l0, l1, l2, l3] (.inl (-1) :: S) σ Q := pKst f_163_20 (by decide)
theorem f_163_21 : oFet 163 21 = some (.if_icmp .ne 7, 3) := by decide +kernel
theorem s_163_21 {d : Nat} {l0 l1 l2 l3 : oV} {x y : Int} {S : List oV} {σ : oSg} {Q : Option oV → (Nat → oC) → Prop} : oE d 163 21 [l0, l1, l2, l3] (.inl y :: .inl x :: S) σ Q = if ¬ x = y then oE d 163 28 [l0, l1, l2, l3] S σ Q else oE d 163 24 [l0, l1, l2, l3] S σ Q := oCmpNe f_163_21 (by decide)
theorem f_163_24 : oFet 163 24 = some (.iconst 1, 1) := by decide +kernel
theorem s_163_24 {d : Nat} {l0 l1 l2 l3 : oV} {S : List oV} {σ : oSg} {Q : Option oV → (Nat → oC) → Prop} : oE d 163 24 [l0, l1, l2, l3] S σ Q = oE d 163 25 [l0, l1, l2, l3] (.inl (1) :: S) σ Q := pKst f_163_24 (by decide)
theorem f_163_25 : oFet 163 25 = some (.goto 4, 3) := by decide +kernel
theorem s_163_25 {d : Nat} {l0 l1 l2 l3 : oV} {S : List oV} {σ : oSg} {Q : Option oV → (Nat → oC) → Prop} : oE d 163 25 [l0, l1, l2, l3] S σ Q = oE d 163 29 [l0, l1, l2, l3] S σ Q := pGoto f_163_25 (by decide)
theorem f_163_28 : oFet 163 28 = some (.iconst 0, 1) := by decide +kernel
theorem s_163_28 {d : Nat} {l0 l1 l2 l3 : oV} {S : List oV} {σ : oSg} {Q : Option oV → (Nat → oC) → Prop} : oE d 163 28 [l0, l1, l2, l3] S σ Q = oE d 163 29 [l0, l1, l2, l3] (.inl (0) :: S) σ Q := pKst f_163_28 (by decide)
theorem f_163_29 : oFet 163 29 = some (.ireturn, 1) := by decide +kernel
theorem s_163_29 {d : Nat} {l0 l1 l2 l3 : oV} {x : Int} {σ : oSg} {Q : Option oV → (Nat → oC) → Prop} (hx : x = 0 ∨ x = 1) : oE d 163 29 [l0, l1, l2, l3] [.inl x] σ Q = Q (some (.inl x)) (oBld σ) := oZret f_163_29 rt_163 hx
theorem f_163_30 : oFet 163 30 = some (.iconst 0, 1) := by decide +kernel
theorem s_163_30 {d : Nat} {l0 l1 l2 l3 : oV} {S : List oV} {σ : oSg} {Q : Option oV → (Nat → oC) → Prop} : oE d 163 30 [l0, l1, l2, l3] S σ Q = oE d 163 31 [l0, l1, l2, l3] (.inl (0) :: S) σ Q := pKst f_163_30 (by decide)
theorem f_163_31 : oFet 163 31 = some (.istore_n 2, 1) := by decide +kernel
theorem s_163_31 {d : Nat} {l0 l1 l2 l3 : oV} {x : Int} {S : List oV} {σ : oSg} {Q : Option oV → (Nat → oC) → Prop} (c2 : oCat l2 = 1) (c1 : oCat l1 = 1)  : oE d 163 31 [l0, l1, l2, l3] (.inl x :: S) σ Q = oE d 163 32 [l0, l1, .inl x, l3] S σ Q := pSt (i := 2) f_163_31 rfl rfl (show (2 : Nat) < 4 by decide) (oC1n c1) (oC1n c2) rfl
theorem f_163_32 : oFet 163 32 = some (.iload_n 2, 1) := by decide +kernel
theorem s_163_32 {d : Nat} {l0 l1 l3 : oV} {x : Int} {S : List oV} {σ : oSg} {Q : Option oV → (Nat → oC) → Prop} : oE d 163 32 [l0, l1, .inl x, l3] S σ Q = oE d 163 33 [l0, l1, .inl x, l3] (.inl x :: S) σ Q := pLdN (k := 2) f_163_32 rfl rfl rfl
theorem f_163_33 : oFet 163 33 = some (.aload_n 0, 1) := by decide +kernel
theorem s_163_33 {d : Nat} {l1 l2 l3 : oV} {a : Nat} {S : List oV} {σ : oSg} {Q : Option oV → (Nat → oC) → Prop} : oE d 163 33 [.inr (.inr (.inl a)), l1, l2, l3] S σ Q = oE d 163 34 [.inr (.inr (.inl a)), l1, l2, l3] (.inr (.inr (.inl a)) :: S) σ Q := pLdN (k := 0) f_163_33 rfl rfl rfl
theorem f_163_34 : oFet 163 34 = some (.getfield 11, 3) := by decide +kernel
theorem s_163_34 {d : Nat} {l0 l1 l2 l3 : oV} {a : Nat} {S : List oV} {σ : oSg} {Q : Option oV → (Nat → oC) → Prop} (hk : oKd a = some 11) : oE d 163 34 [l0, l1, l2, l3] (.inr (.inr (.inl a)) :: S) σ Q = oE d 163 37 [l0, l1, l2, l3] (.inr (.inr (.inl (oRf a 0))) :: S) σ Q := pGfR f_163_34 ow_163 fl_11_11 rfl (by decide) hk
theorem f_163_37 : oFet 163 37 = some (.iconst 0, 1) := by decide +kernel
theorem s_163_37 {d : Nat} {l0 l1 l2 l3 : oV} {S : List oV} {σ : oSg} {Q : Option oV → (Nat → oC) → Prop} : oE d 163 37 [l0, l1, l2, l3] S σ Q = oE d 163 38 [l0, l1, l2, l3] (.inl (0) :: S) σ Q := pKst f_163_37 (by decide)
theorem f_163_38 : oFet 163 38 = some (.iaload, 1) := by decide +kernel
theorem s_163_38 {d : Nat} {l0 l1 l2 l3 : oV} {a : Nat} {i : Int} {S : List oV} {σ : oSg} {Q : Option oV → (Nat → oC) → Prop} (hk : oAk a = some 0) (h0 : 0 ≤ i) (h1 : i < (oLn a : Int)) : oE d 163 38 [l0, l1, l2, l3] (.inl i :: .inr (.inr (.inl a)) :: S) σ Q = oE d 163 39 [l0, l1, l2, l3] (.inl (σ.2 a i.toNat) :: S) σ Q := oIal f_163_38 hk h0 h1
theorem f_163_39 : oFet 163 39 = some (.if_icmp .ge 113, 3) := by decide +kernel
theorem s_163_39 {d : Nat} {l0 l1 l2 l3 : oV} {x y : Int} {S : List oV} {σ : oSg} {Q : Option oV → (Nat → oC) → Prop} : oE d 163 39 [l0, l1, l2, l3] (.inl y :: .inl x :: S) σ Q = if y ≤ x then oE d 163 152 [l0, l1, l2, l3] S σ Q else oE d 163 42 [l0, l1, l2, l3] S σ Q := oCmpGe f_163_39 (by decide)
theorem f_163_42 : oFet 163 42 = some (.aload_n 0, 1) := by decide +kernel
theorem s_163_42 {d : Nat} {l1 l2 l3 : oV} {a : Nat} {S : List oV} {σ : oSg} {Q : Option oV → (Nat → oC) → Prop} : oE d 163 42 [.inr (.inr (.inl a)), l1, l2, l3] S σ Q = oE d 163 43 [.inr (.inr (.inl a)), l1, l2, l3] (.inr (.inr (.inl a)) :: S) σ Q := pLdN (k := 0) f_163_42 rfl rfl rfl
theorem f_163_43 : oFet 163 43 = some (.iload_n 2, 1) := by decide +kernel
theorem s_163_43 {d : Nat} {l0 l1 l3 : oV} {x : Int} {S : List oV} {σ : oSg} {Q : Option oV → (Nat → oC) → Prop} : oE d 163 43 [l0, l1, .inl x, l3] S σ Q = oE d 163 44 [l0, l1, .inl x, l3] (.inl x :: S) σ Q := pLdN (k := 2) f_163_43 rfl rfl rfl
theorem f_163_44 : oFet 163 44 = some (.iload_n 1, 1) := by decide +kernel
theorem s_163_44 {d : Nat} {l0 l2 l3 : oV} {x : Int} {S : List oV} {σ : oSg} {Q : Option oV → (Nat → oC) → Prop} : oE d 163 44 [l0, .inl x, l2, l3] S σ Q = oE d 163 45 [l0, .inl x, l2, l3] (.inl x :: S) σ Q := pLdN (k := 1) f_163_44 rfl rfl rfl
theorem f_163_45 : oFet 163 45 = some (.invokevirtual 153, 3) := by decide +kernel
theorem c_163_45 {d : Nat} {l0 l1 l2 l3 : oV} {x0 x1 : oV} {a : Nat} {v : Option oV} {τ : oSg} {S : List oV} {σ : oSg} {Q : Option oV → (Nat → oC) → Prop} (hm : oMi d 164 [.inr (.inr (.inl a)), x0, x1] σ v τ) (hk : oKd a = some 11) (hs : oSmall S = true) : oE d 163 45 [l0, l1, l2, l3] (x1 :: x0 :: .inr (.inr (.inl a)) :: S) σ Q = oE d 163 48 [l0, l1, l2, l3] (v.toList ++ S) τ Q := pCallV f_163_45 ow_163 lk_11_153 mt_164 rfl rfl rfl hk hs hm
theorem f_163_48 : oFet 163 48 = some (.ifCond .eq 6, 3) := by decide +kernel
theorem s_163_48 {d : Nat} {l0 l1 l2 l3 : oV} {x : Int} {S : List oV} {σ : oSg} {Q : Option oV → (Nat → oC) → Prop} : oE d 163 48 [l0, l1, l2, l3] (.inl x :: S) σ Q = if x = 0 then oE d 163 54 [l0, l1, l2, l3] S σ Q else oE d 163 51 [l0, l1, l2, l3] S σ Q := oIfEq f_163_48 (by decide)
theorem f_163_51 : oFet 163 51 = some (.goto 95, 3) := by decide +kernel
theorem s_163_51 {d : Nat} {l0 l1 l2 l3 : oV} {S : List oV} {σ : oSg} {Q : Option oV → (Nat → oC) → Prop} : oE d 163 51 [l0, l1, l2, l3] S σ Q = oE d 163 146 [l0, l1, l2, l3] S σ Q := pGoto f_163_51 (by decide)
theorem f_163_54 : oFet 163 54 = some (.iload_n 1, 1) := by decide +kernel
theorem s_163_54 {d : Nat} {l0 l2 l3 : oV} {x : Int} {S : List oV} {σ : oSg} {Q : Option oV → (Nat → oC) → Prop} : oE d 163 54 [l0, .inl x, l2, l3] S σ Q = oE d 163 55 [l0, .inl x, l2, l3] (.inl x :: S) σ Q := pLdN (k := 1) f_163_54 rfl rfl rfl
theorem f_163_55 : oFet 163 55 = some (.ifCond .ne 20, 3) := by decide +kernel
theorem s_163_55 {d : Nat} {l0 l1 l2 l3 : oV} {x : Int} {S : List oV} {σ : oSg} {Q : Option oV → (Nat → oC) → Prop} : oE d 163 55 [l0, l1, l2, l3] (.inl x :: S) σ Q = if ¬ x = 0 then oE d 163 75 [l0, l1, l2, l3] S σ Q else oE d 163 58 [l0, l1, l2, l3] S σ Q := oIfNe f_163_55 (by decide)
theorem f_163_58 : oFet 163 58 = some (.aload_n 0, 1) := by decide +kernel
theorem s_163_58 {d : Nat} {l1 l2 l3 : oV} {a : Nat} {S : List oV} {σ : oSg} {Q : Option oV → (Nat → oC) → Prop} : oE d 163 58 [.inr (.inr (.inl a)), l1, l2, l3] S σ Q = oE d 163 59 [.inr (.inr (.inl a)), l1, l2, l3] (.inr (.inr (.inl a)) :: S) σ Q := pLdN (k := 0) f_163_58 rfl rfl rfl
theorem f_163_59 : oFet 163 59 = some (.iload_n 2, 1) := by decide +kernel
theorem s_163_59 {d : Nat} {l0 l1 l3 : oV} {x : Int} {S : List oV} {σ : oSg} {Q : Option oV → (Nat → oC) → Prop} : oE d 163 59 [l0, l1, .inl x, l3] S σ Q = oE d 163 60 [l0, l1, .inl x, l3] (.inl x :: S) σ Q := pLdN (k := 2) f_163_59 rfl rfl rfl
theorem f_163_60 : oFet 163 60 = some (.invokevirtual 75, 3) := by decide +kernel
theorem c_163_60 {d : Nat} {l0 l1 l2 l3 : oV} {x0 : oV} {a : Nat} {v : Option oV} {τ : oSg} {S : List oV} {σ : oSg} {Q : Option oV → (Nat → oC) → Prop} (hm : oMi d 149 [.inr (.inr (.inl a)), x0] σ v τ) (hk : oKd a = some 11) (hs : oSmall S = true) : oE d 163 60 [l0, l1, l2, l3] (x0 :: .inr (.inr (.inl a)) :: S) σ Q = oE d 163 63 [l0, l1, l2, l3] (v.toList ++ S) τ Q := pCallV f_163_60 ow_163 lk_11_75 mt_149 rfl rfl rfl hk hs hm
theorem f_163_63 : oFet 163 63 = some (.iconst (-1), 1) := by decide +kernel
theorem s_163_63 {d : Nat} {l0 l1 l2 l3 : oV} {S : List oV} {σ : oSg} {Q : Option oV → (Nat → oC) → Prop} : oE d 163 63 [l0, l1, l2, l3] S σ Q = oE d 163 64 [l0, l1, l2, l3] (.inl (-1) :: S) σ Q := pKst f_163_63 (by decide)
theorem f_163_64 : oFet 163 64 = some (.if_icmp .ne 7, 3) := by decide +kernel
theorem s_163_64 {d : Nat} {l0 l1 l2 l3 : oV} {x y : Int} {S : List oV} {σ : oSg} {Q : Option oV → (Nat → oC) → Prop} : oE d 163 64 [l0, l1, l2, l3] (.inl y :: .inl x :: S) σ Q = if ¬ x = y then oE d 163 71 [l0, l1, l2, l3] S σ Q else oE d 163 67 [l0, l1, l2, l3] S σ Q := oCmpNe f_163_64 (by decide)
theorem f_163_67 : oFet 163 67 = some (.iconst 1, 1) := by decide +kernel
theorem s_163_67 {d : Nat} {l0 l1 l2 l3 : oV} {S : List oV} {σ : oSg} {Q : Option oV → (Nat → oC) → Prop} : oE d 163 67 [l0, l1, l2, l3] S σ Q = oE d 163 68 [l0, l1, l2, l3] (.inl (1) :: S) σ Q := pKst f_163_67 (by decide)
theorem f_163_68 : oFet 163 68 = some (.goto 51, 3) := by decide +kernel
theorem s_163_68 {d : Nat} {l0 l1 l2 l3 : oV} {S : List oV} {σ : oSg} {Q : Option oV → (Nat → oC) → Prop} : oE d 163 68 [l0, l1, l2, l3] S σ Q = oE d 163 119 [l0, l1, l2, l3] S σ Q := pGoto f_163_68 (by decide)
theorem f_163_71 : oFet 163 71 = some (.iconst 0, 1) := by decide +kernel
theorem s_163_71 {d : Nat} {l0 l1 l2 l3 : oV} {S : List oV} {σ : oSg} {Q : Option oV → (Nat → oC) → Prop} : oE d 163 71 [l0, l1, l2, l3] S σ Q = oE d 163 72 [l0, l1, l2, l3] (.inl (0) :: S) σ Q := pKst f_163_71 (by decide)
theorem f_163_72 : oFet 163 72 = some (.goto 47, 3) := by decide +kernel
theorem s_163_72 {d : Nat} {l0 l1 l2 l3 : oV} {S : List oV} {σ : oSg} {Q : Option oV → (Nat → oC) → Prop} : oE d 163 72 [l0, l1, l2, l3] S σ Q = oE d 163 119 [l0, l1, l2, l3] S σ Q := pGoto f_163_72 (by decide)
theorem f_163_75 : oFet 163 75 = some (.iload_n 1, 1) := by decide +kernel
theorem s_163_75 {d : Nat} {l0 l2 l3 : oV} {x : Int} {S : List oV} {σ : oSg} {Q : Option oV → (Nat → oC) → Prop} : oE d 163 75 [l0, .inl x, l2, l3] S σ Q = oE d 163 76 [l0, .inl x, l2, l3] (.inl x :: S) σ Q := pLdN (k := 1) f_163_75 rfl rfl rfl
theorem f_163_76 : oFet 163 76 = some (.iconst 2, 1) := by decide +kernel
theorem s_163_76 {d : Nat} {l0 l1 l2 l3 : oV} {S : List oV} {σ : oSg} {Q : Option oV → (Nat → oC) → Prop} : oE d 163 76 [l0, l1, l2, l3] S σ Q = oE d 163 77 [l0, l1, l2, l3] (.inl (2) :: S) σ Q := pKst f_163_76 (by decide)
theorem f_163_77 : oFet 163 77 = some (.irem, 1) := by decide +kernel
theorem s_163_77 {d : Nat} {l0 l1 l2 l3 : oV} {x y : Int} {S : List oV} {σ : oSg} {Q : Option oV → (Nat → oC) → Prop} (hy : y ≠ 0) : oE d 163 77 [l0, l1, l2, l3] (.inl y :: .inl x :: S) σ Q = oE d 163 78 [l0, l1, l2, l3] (.inl (oRem x y) :: S) σ Q := pRem f_163_77 hy
theorem f_163_78 : oFet 163 78 = some (.iconst 1, 1) := by decide +kernel
theorem s_163_78 {d : Nat} {l0 l1 l2 l3 : oV} {S : List oV} {σ : oSg} {Q : Option oV → (Nat → oC) → Prop} : oE d 163 78 [l0, l1, l2, l3] S σ Q = oE d 163 79 [l0, l1, l2, l3] (.inl (1) :: S) σ Q := pKst f_163_78 (by decide)
theorem f_163_79 : oFet 163 79 = some (.if_icmp .ne 19, 3) := by decide +kernel
theorem s_163_79 {d : Nat} {l0 l1 l2 l3 : oV} {x y : Int} {S : List oV} {σ : oSg} {Q : Option oV → (Nat → oC) → Prop} : oE d 163 79 [l0, l1, l2, l3] (.inl y :: .inl x :: S) σ Q = if ¬ x = y then oE d 163 98 [l0, l1, l2, l3] S σ Q else oE d 163 82 [l0, l1, l2, l3] S σ Q := oCmpNe f_163_79 (by decide)
theorem f_163_82 : oFet 163 82 = some (.aload_n 0, 1) := by decide +kernel
theorem s_163_82 {d : Nat} {l1 l2 l3 : oV} {a : Nat} {S : List oV} {σ : oSg} {Q : Option oV → (Nat → oC) → Prop} : oE d 163 82 [.inr (.inr (.inl a)), l1, l2, l3] S σ Q = oE d 163 83 [.inr (.inr (.inl a)), l1, l2, l3] (.inr (.inr (.inl a)) :: S) σ Q := pLdN (k := 0) f_163_82 rfl rfl rfl
theorem f_163_83 : oFet 163 83 = some (.aload_n 0, 1) := by decide +kernel
theorem s_163_83 {d : Nat} {l1 l2 l3 : oV} {a : Nat} {S : List oV} {σ : oSg} {Q : Option oV → (Nat → oC) → Prop} : oE d 163 83 [.inr (.inr (.inl a)), l1, l2, l3] S σ Q = oE d 163 84 [.inr (.inr (.inl a)), l1, l2, l3] (.inr (.inr (.inl a)) :: S) σ Q := pLdN (k := 0) f_163_83 rfl rfl rfl
theorem f_163_84 : oFet 163 84 = some (.getfield 27, 3) := by decide +kernel
theorem s_163_84 {d : Nat} {l0 l1 l2 l3 : oV} {a : Nat} {S : List oV} {σ : oSg} {Q : Option oV → (Nat → oC) → Prop} (hk : oKd a = some 11) : oE d 163 84 [l0, l1, l2, l3] (.inr (.inr (.inl a)) :: S) σ Q = oE d 163 87 [l0, l1, l2, l3] (.inr (.inr (.inl (oRf a 8))) :: S) σ Q := pGfR f_163_84 ow_163 fl_11_27 rfl (by decide) hk
theorem f_163_87 : oFet 163 87 = some (.iload_n 1, 1) := by decide +kernel
theorem s_163_87 {d : Nat} {l0 l2 l3 : oV} {x : Int} {S : List oV} {σ : oSg} {Q : Option oV → (Nat → oC) → Prop} : oE d 163 87 [l0, .inl x, l2, l3] S σ Q = oE d 163 88 [l0, .inl x, l2, l3] (.inl x :: S) σ Q := pLdN (k := 1) f_163_87 rfl rfl rfl
theorem f_163_88 : oFet 163 88 = some (.iconst 1, 1) := by decide +kernel
theorem s_163_88 {d : Nat} {l0 l1 l2 l3 : oV} {S : List oV} {σ : oSg} {Q : Option oV → (Nat → oC) → Prop} : oE d 163 88 [l0, l1, l2, l3] S σ Q = oE d 163 89 [l0, l1, l2, l3] (.inl (1) :: S) σ Q := pKst f_163_88 (by decide)
theorem f_163_89 : oFet 163 89 = some (.isub, 1) := by decide +kernel
theorem s_163_89 {d : Nat} {l0 l1 l2 l3 : oV} {x y : Int} {S : List oV} {σ : oSg} {Q : Option oV → (Nat → oC) → Prop} : oE d 163 89 [l0, l1, l2, l3] (.inl y :: .inl x :: S) σ Q = oE d 163 90 [l0, l1, l2, l3] (.inl (oSub x y) :: S) σ Q := oS3 f_163_89 rfl rfl rfl
theorem f_163_90 : oFet 163 90 = some (.iaload, 1) := by decide +kernel
theorem s_163_90 {d : Nat} {l0 l1 l2 l3 : oV} {a : Nat} {i : Int} {S : List oV} {σ : oSg} {Q : Option oV → (Nat → oC) → Prop} (hk : oAk a = some 0) (h0 : 0 ≤ i) (h1 : i < (oLn a : Int)) : oE d 163 90 [l0, l1, l2, l3] (.inl i :: .inr (.inr (.inl a)) :: S) σ Q = oE d 163 91 [l0, l1, l2, l3] (.inl (σ.2 a i.toNat) :: S) σ Q := oIal f_163_90 hk h0 h1
theorem f_163_91 : oFet 163 91 = some (.iload_n 2, 1) := by decide +kernel
theorem s_163_91 {d : Nat} {l0 l1 l3 : oV} {x : Int} {S : List oV} {σ : oSg} {Q : Option oV → (Nat → oC) → Prop} : oE d 163 91 [l0, l1, .inl x, l3] S σ Q = oE d 163 92 [l0, l1, .inl x, l3] (.inl x :: S) σ Q := pLdN (k := 2) f_163_91 rfl rfl rfl
theorem f_163_92 : oFet 163 92 = some (.invokevirtual 91, 3) := by decide +kernel
theorem c_163_92 {d : Nat} {l0 l1 l2 l3 : oV} {x0 x1 : oV} {a : Nat} {v : Option oV} {τ : oSg} {S : List oV} {σ : oSg} {Q : Option oV → (Nat → oC) → Prop} (hm : oMi d 153 [.inr (.inr (.inl a)), x0, x1] σ v τ) (hk : oKd a = some 11) (hs : oSmall S = true) : oE d 163 92 [l0, l1, l2, l3] (x1 :: x0 :: .inr (.inr (.inl a)) :: S) σ Q = oE d 163 95 [l0, l1, l2, l3] (v.toList ++ S) τ Q := pCallV f_163_92 ow_163 lk_11_91 mt_153 rfl rfl rfl hk hs hm
theorem f_163_95 : oFet 163 95 = some (.goto 24, 3) := by decide +kernel
theorem s_163_95 {d : Nat} {l0 l1 l2 l3 : oV} {S : List oV} {σ : oSg} {Q : Option oV → (Nat → oC) → Prop} : oE d 163 95 [l0, l1, l2, l3] S σ Q = oE d 163 119 [l0, l1, l2, l3] S σ Q := pGoto f_163_95 (by decide)
theorem f_163_98 : oFet 163 98 = some (.aload_n 0, 1) := by decide +kernel
theorem s_163_98 {d : Nat} {l1 l2 l3 : oV} {a : Nat} {S : List oV} {σ : oSg} {Q : Option oV → (Nat → oC) → Prop} : oE d 163 98 [.inr (.inr (.inl a)), l1, l2, l3] S σ Q = oE d 163 99 [.inr (.inr (.inl a)), l1, l2, l3] (.inr (.inr (.inl a)) :: S) σ Q := pLdN (k := 0) f_163_98 rfl rfl rfl
theorem f_163_99 : oFet 163 99 = some (.aload_n 0, 1) := by decide +kernel
theorem s_163_99 {d : Nat} {l1 l2 l3 : oV} {a : Nat} {S : List oV} {σ : oSg} {Q : Option oV → (Nat → oC) → Prop} : oE d 163 99 [.inr (.inr (.inl a)), l1, l2, l3] S σ Q = oE d 163 100 [.inr (.inr (.inl a)), l1, l2, l3] (.inr (.inr (.inl a)) :: S) σ Q := pLdN (k := 0) f_163_99 rfl rfl rfl
theorem f_163_100 : oFet 163 100 = some (.getfield 27, 3) := by decide +kernel
theorem s_163_100 {d : Nat} {l0 l1 l2 l3 : oV} {a : Nat} {S : List oV} {σ : oSg} {Q : Option oV → (Nat → oC) → Prop} (hk : oKd a = some 11) : oE d 163 100 [l0, l1, l2, l3] (.inr (.inr (.inl a)) :: S) σ Q = oE d 163 103 [l0, l1, l2, l3] (.inr (.inr (.inl (oRf a 8))) :: S) σ Q := pGfR f_163_100 ow_163 fl_11_27 rfl (by decide) hk
theorem f_163_103 : oFet 163 103 = some (.iload_n 1, 1) := by decide +kernel
theorem s_163_103 {d : Nat} {l0 l2 l3 : oV} {x : Int} {S : List oV} {σ : oSg} {Q : Option oV → (Nat → oC) → Prop} : oE d 163 103 [l0, .inl x, l2, l3] S σ Q = oE d 163 104 [l0, .inl x, l2, l3] (.inl x :: S) σ Q := pLdN (k := 1) f_163_103 rfl rfl rfl
theorem f_163_104 : oFet 163 104 = some (.iconst 1, 1) := by decide +kernel
theorem s_163_104 {d : Nat} {l0 l1 l2 l3 : oV} {S : List oV} {σ : oSg} {Q : Option oV → (Nat → oC) → Prop} : oE d 163 104 [l0, l1, l2, l3] S σ Q = oE d 163 105 [l0, l1, l2, l3] (.inl (1) :: S) σ Q := pKst f_163_104 (by decide)
theorem f_163_105 : oFet 163 105 = some (.isub, 1) := by decide +kernel
theorem s_163_105 {d : Nat} {l0 l1 l2 l3 : oV} {x y : Int} {S : List oV} {σ : oSg} {Q : Option oV → (Nat → oC) → Prop} : oE d 163 105 [l0, l1, l2, l3] (.inl y :: .inl x :: S) σ Q = oE d 163 106 [l0, l1, l2, l3] (.inl (oSub x y) :: S) σ Q := oS3 f_163_105 rfl rfl rfl
theorem f_163_106 : oFet 163 106 = some (.iaload, 1) := by decide +kernel
theorem s_163_106 {d : Nat} {l0 l1 l2 l3 : oV} {a : Nat} {i : Int} {S : List oV} {σ : oSg} {Q : Option oV → (Nat → oC) → Prop} (hk : oAk a = some 0) (h0 : 0 ≤ i) (h1 : i < (oLn a : Int)) : oE d 163 106 [l0, l1, l2, l3] (.inl i :: .inr (.inr (.inl a)) :: S) σ Q = oE d 163 107 [l0, l1, l2, l3] (.inl (σ.2 a i.toNat) :: S) σ Q := oIal f_163_106 hk h0 h1
theorem f_163_107 : oFet 163 107 = some (.invokevirtual 75, 3) := by decide +kernel
theorem c_163_107 {d : Nat} {l0 l1 l2 l3 : oV} {x0 : oV} {a : Nat} {v : Option oV} {τ : oSg} {S : List oV} {σ : oSg} {Q : Option oV → (Nat → oC) → Prop} (hm : oMi d 149 [.inr (.inr (.inl a)), x0] σ v τ) (hk : oKd a = some 11) (hs : oSmall S = true) : oE d 163 107 [l0, l1, l2, l3] (x0 :: .inr (.inr (.inl a)) :: S) σ Q = oE d 163 110 [l0, l1, l2, l3] (v.toList ++ S) τ Q := pCallV f_163_107 ow_163 lk_11_75 mt_149 rfl rfl rfl hk hs hm
theorem f_163_110 : oFet 163 110 = some (.iload_n 2, 1) := by decide +kernel
theorem s_163_110 {d : Nat} {l0 l1 l3 : oV} {x : Int} {S : List oV} {σ : oSg} {Q : Option oV → (Nat → oC) → Prop} : oE d 163 110 [l0, l1, .inl x, l3] S σ Q = oE d 163 111 [l0, l1, .inl x, l3] (.inl x :: S) σ Q := pLdN (k := 2) f_163_110 rfl rfl rfl
theorem f_163_111 : oFet 163 111 = some (.if_icmp .ne 7, 3) := by decide +kernel
theorem s_163_111 {d : Nat} {l0 l1 l2 l3 : oV} {x y : Int} {S : List oV} {σ : oSg} {Q : Option oV → (Nat → oC) → Prop} : oE d 163 111 [l0, l1, l2, l3] (.inl y :: .inl x :: S) σ Q = if ¬ x = y then oE d 163 118 [l0, l1, l2, l3] S σ Q else oE d 163 114 [l0, l1, l2, l3] S σ Q := oCmpNe f_163_111 (by decide)
theorem f_163_114 : oFet 163 114 = some (.iconst 1, 1) := by decide +kernel
theorem s_163_114 {d : Nat} {l0 l1 l2 l3 : oV} {S : List oV} {σ : oSg} {Q : Option oV → (Nat → oC) → Prop} : oE d 163 114 [l0, l1, l2, l3] S σ Q = oE d 163 115 [l0, l1, l2, l3] (.inl (1) :: S) σ Q := pKst f_163_114 (by decide)
theorem f_163_115 : oFet 163 115 = some (.goto 4, 3) := by decide +kernel
theorem s_163_115 {d : Nat} {l0 l1 l2 l3 : oV} {S : List oV} {σ : oSg} {Q : Option oV → (Nat → oC) → Prop} : oE d 163 115 [l0, l1, l2, l3] S σ Q = oE d 163 119 [l0, l1, l2, l3] S σ Q := pGoto f_163_115 (by decide)
theorem f_163_118 : oFet 163 118 = some (.iconst 0, 1) := by decide +kernel
theorem s_163_118 {d : Nat} {l0 l1 l2 l3 : oV} {S : List oV} {σ : oSg} {Q : Option oV → (Nat → oC) → Prop} : oE d 163 118 [l0, l1, l2, l3] S σ Q = oE d 163 119 [l0, l1, l2, l3] (.inl (0) :: S) σ Q := pKst f_163_118 (by decide)
theorem f_163_119 : oFet 163 119 = some (.istore_n 3, 1) := by decide +kernel
theorem s_163_119 {d : Nat} {l0 l1 l2 l3 : oV} {x : Int} {S : List oV} {σ : oSg} {Q : Option oV → (Nat → oC) → Prop} (c3 : oCat l3 = 1) (c2 : oCat l2 = 1)  : oE d 163 119 [l0, l1, l2, l3] (.inl x :: S) σ Q = oE d 163 120 [l0, l1, l2, .inl x] S σ Q := pSt (i := 3) f_163_119 rfl rfl (show (3 : Nat) < 4 by decide) (oC1n c2) (oC1n c3) rfl
theorem f_163_120 : oFet 163 120 = some (.iload_n 3, 1) := by decide +kernel
theorem s_163_120 {d : Nat} {l0 l1 l2 : oV} {x : Int} {S : List oV} {σ : oSg} {Q : Option oV → (Nat → oC) → Prop} : oE d 163 120 [l0, l1, l2, .inl x] S σ Q = oE d 163 121 [l0, l1, l2, .inl x] (.inl x :: S) σ Q := pLdN (k := 3) f_163_120 rfl rfl rfl
theorem f_163_121 : oFet 163 121 = some (.ifCond .ne 6, 3) := by decide +kernel
theorem s_163_121 {d : Nat} {l0 l1 l2 l3 : oV} {x : Int} {S : List oV} {σ : oSg} {Q : Option oV → (Nat → oC) → Prop} : oE d 163 121 [l0, l1, l2, l3] (.inl x :: S) σ Q = if ¬ x = 0 then oE d 163 127 [l0, l1, l2, l3] S σ Q else oE d 163 124 [l0, l1, l2, l3] S σ Q := oIfNe f_163_121 (by decide)
theorem f_163_124 : oFet 163 124 = some (.goto 22, 3) := by decide +kernel
theorem s_163_124 {d : Nat} {l0 l1 l2 l3 : oV} {S : List oV} {σ : oSg} {Q : Option oV → (Nat → oC) → Prop} : oE d 163 124 [l0, l1, l2, l3] S σ Q = oE d 163 146 [l0, l1, l2, l3] S σ Q := pGoto f_163_124 (by decide)
theorem f_163_127 : oFet 163 127 = some (.aload_n 0, 1) := by decide +kernel
theorem s_163_127 {d : Nat} {l1 l2 l3 : oV} {a : Nat} {S : List oV} {σ : oSg} {Q : Option oV → (Nat → oC) → Prop} : oE d 163 127 [.inr (.inr (.inl a)), l1, l2, l3] S σ Q = oE d 163 128 [.inr (.inr (.inl a)), l1, l2, l3] (.inr (.inr (.inl a)) :: S) σ Q := pLdN (k := 0) f_163_127 rfl rfl rfl
theorem f_163_128 : oFet 163 128 = some (.getfield 27, 3) := by decide +kernel
theorem s_163_128 {d : Nat} {l0 l1 l2 l3 : oV} {a : Nat} {S : List oV} {σ : oSg} {Q : Option oV → (Nat → oC) → Prop} (hk : oKd a = some 11) : oE d 163 128 [l0, l1, l2, l3] (.inr (.inr (.inl a)) :: S) σ Q = oE d 163 131 [l0, l1, l2, l3] (.inr (.inr (.inl (oRf a 8))) :: S) σ Q := pGfR f_163_128 ow_163 fl_11_27 rfl (by decide) hk
theorem f_163_131 : oFet 163 131 = some (.iload_n 1, 1) := by decide +kernel
theorem s_163_131 {d : Nat} {l0 l2 l3 : oV} {x : Int} {S : List oV} {σ : oSg} {Q : Option oV → (Nat → oC) → Prop} : oE d 163 131 [l0, .inl x, l2, l3] S σ Q = oE d 163 132 [l0, .inl x, l2, l3] (.inl x :: S) σ Q := pLdN (k := 1) f_163_131 rfl rfl rfl
theorem f_163_132 : oFet 163 132 = some (.iload_n 2, 1) := by decide +kernel
theorem s_163_132 {d : Nat} {l0 l1 l3 : oV} {x : Int} {S : List oV} {σ : oSg} {Q : Option oV → (Nat → oC) → Prop} : oE d 163 132 [l0, l1, .inl x, l3] S σ Q = oE d 163 133 [l0, l1, .inl x, l3] (.inl x :: S) σ Q := pLdN (k := 2) f_163_132 rfl rfl rfl
theorem f_163_133 : oFet 163 133 = some (.iastore, 1) := by decide +kernel
theorem s_163_133 {d : Nat} {l0 l1 l2 l3 : oV} {a : Nat} {i v : Int} {S : List oV} {σ : oSg} {Q : Option oV → (Nat → oC) → Prop} (hk : oAk a = some 0) (h0 : 0 ≤ i) (h1 : i < (oLn a : Int)) : oE d 163 133 [l0, l1, l2, l3] (.inl v :: .inl i :: .inr (.inr (.inl a)) :: S) σ Q = oE d 163 134 [l0, l1, l2, l3] S (oSA σ a i.toNat v) Q := oIas f_163_133 hk h0 h1
theorem f_163_134 : oFet 163 134 = some (.aload_n 0, 1) := by decide +kernel
theorem s_163_134 {d : Nat} {l1 l2 l3 : oV} {a : Nat} {S : List oV} {σ : oSg} {Q : Option oV → (Nat → oC) → Prop} : oE d 163 134 [.inr (.inr (.inl a)), l1, l2, l3] S σ Q = oE d 163 135 [.inr (.inr (.inl a)), l1, l2, l3] (.inr (.inr (.inl a)) :: S) σ Q := pLdN (k := 0) f_163_134 rfl rfl rfl
theorem f_163_135 : oFet 163 135 = some (.iload_n 1, 1) := by decide +kernel
theorem s_163_135 {d : Nat} {l0 l2 l3 : oV} {x : Int} {S : List oV} {σ : oSg} {Q : Option oV → (Nat → oC) → Prop} : oE d 163 135 [l0, .inl x, l2, l3] S σ Q = oE d 163 136 [l0, .inl x, l2, l3] (.inl x :: S) σ Q := pLdN (k := 1) f_163_135 rfl rfl rfl
theorem f_163_136 : oFet 163 136 = some (.iconst 1, 1) := by decide +kernel
theorem s_163_136 {d : Nat} {l0 l1 l2 l3 : oV} {S : List oV} {σ : oSg} {Q : Option oV → (Nat → oC) → Prop} : oE d 163 136 [l0, l1, l2, l3] S σ Q = oE d 163 137 [l0, l1, l2, l3] (.inl (1) :: S) σ Q := pKst f_163_136 (by decide)
theorem f_163_137 : oFet 163 137 = some (.iadd, 1) := by decide +kernel
theorem s_163_137 {d : Nat} {l0 l1 l2 l3 : oV} {x y : Int} {S : List oV} {σ : oSg} {Q : Option oV → (Nat → oC) → Prop} : oE d 163 137 [l0, l1, l2, l3] (.inl y :: .inl x :: S) σ Q = oE d 163 138 [l0, l1, l2, l3] (.inl (oAdd x y) :: S) σ Q := oS3 f_163_137 rfl rfl rfl
theorem f_163_138 : oFet 163 138 = some (.invokevirtual 156, 3) := by decide +kernel
theorem c_163_138 {d : Nat} {l0 l1 l2 l3 : oV} {x0 : oV} {a : Nat} {v : Option oV} {τ : oSg} {S : List oV} {σ : oSg} {Q : Option oV → (Nat → oC) → Prop} (hm : oMi d 163 [.inr (.inr (.inl a)), x0] σ v τ) (hk : oKd a = some 11) (hs : oSmall S = true) : oE d 163 138 [l0, l1, l2, l3] (x0 :: .inr (.inr (.inl a)) :: S) σ Q = oE d 163 141 [l0, l1, l2, l3] (v.toList ++ S) τ Q := pCallV f_163_138 ow_163 lk_11_156 mt_163 rfl rfl rfl hk hs hm
theorem f_163_141 : oFet 163 141 = some (.ifCond .eq 5, 3) := by decide +kernel
theorem s_163_141 {d : Nat} {l0 l1 l2 l3 : oV} {x : Int} {S : List oV} {σ : oSg} {Q : Option oV → (Nat → oC) → Prop} : oE d 163 141 [l0, l1, l2, l3] (.inl x :: S) σ Q = if x = 0 then oE d 163 146 [l0, l1, l2, l3] S σ Q else oE d 163 144 [l0, l1, l2, l3] S σ Q := oIfEq f_163_141 (by decide)
theorem f_163_144 : oFet 163 144 = some (.iconst 1, 1) := by decide +kernel
theorem s_163_144 {d : Nat} {l0 l1 l2 l3 : oV} {S : List oV} {σ : oSg} {Q : Option oV → (Nat → oC) → Prop} : oE d 163 144 [l0, l1, l2, l3] S σ Q = oE d 163 145 [l0, l1, l2, l3] (.inl (1) :: S) σ Q := pKst f_163_144 (by decide)
theorem f_163_145 : oFet 163 145 = some (.ireturn, 1) := by decide +kernel
theorem s_163_145 {d : Nat} {l0 l1 l2 l3 : oV} {x : Int} {σ : oSg} {Q : Option oV → (Nat → oC) → Prop} (hx : x = 0 ∨ x = 1) : oE d 163 145 [l0, l1, l2, l3] [.inl x] σ Q = Q (some (.inl x)) (oBld σ) := oZret f_163_145 rt_163 hx
theorem f_163_146 : oFet 163 146 = some (.iinc 2 1, 3) := by decide +kernel
theorem s_163_146 {d : Nat} {l0 l1 l3 : oV} {x : Int} {S : List oV} {σ : oSg} {Q : Option oV → (Nat → oC) → Prop} (c1 : oCat l1 = 1)  : oE d 163 146 [l0, l1, .inl x, l3] S σ Q = oE d 163 149 [l0, l1, .inl (oAdd x (1)), l3] S σ Q := pInc f_163_146 rfl (show (2 : Nat) < 4 by decide) (oC1n c1) (oC1n (v := .inl x) rfl) rfl
theorem f_163_149 : oFet 163 149 = some (.goto (-117), 3) := by decide +kernel
theorem s_163_149 {d : Nat} {l0 l1 l2 l3 : oV} {S : List oV} {σ : oSg} {Q : Option oV → (Nat → oC) → Prop} : oE d 163 149 [l0, l1, l2, l3] S σ Q = oE d 163 32 [l0, l1, l2, l3] S σ Q := pGoto f_163_149 (by decide)
theorem f_163_152 : oFet 163 152 = some (.iconst 0, 1) := by decide +kernel
theorem s_163_152 {d : Nat} {l0 l1 l2 l3 : oV} {S : List oV} {σ : oSg} {Q : Option oV → (Nat → oC) → Prop} : oE d 163 152 [l0, l1, l2, l3] S σ Q = oE d 163 153 [l0, l1, l2, l3] (.inl (0) :: S) σ Q := pKst f_163_152 (by decide)
theorem f_163_153 : oFet 163 153 = some (.ireturn, 1) := by decide +kernel
theorem s_163_153 {d : Nat} {l0 l1 l2 l3 : oV} {x : Int} {σ : oSg} {Q : Option oV → (Nat → oC) → Prop} (hx : x = 0 ∨ x = 1) : oE d 163 153 [l0, l1, l2, l3] [.inl x] σ Q = Q (some (.inl x)) (oBld σ) := oZret f_163_153 rt_163 hx
theorem ow_164 : (oMt 164).2.2.2.2.1 = 11 := by decide +kernel
theorem rt_164 : (oMt 164).2.2.2.1 = some .boolean := by decide +kernel
theorem nl_164 : (oMt 164).2.2.1 = 4 := by decide +kernel
theorem f_164_0 : oFet 164 0 = some (.iconst 0, 1) := by decide +kernel
theorem s_164_0 {d : Nat} {l0 l1 l2 l3 : oV} {S : List oV} {σ : oSg} {Q : Option oV → (Nat → oC) → Prop} : oE d 164 0 [l0, l1, l2, l3] S σ Q = oE d 164 1 [l0, l1, l2, l3] (.inl (0) :: S) σ Q := pKst f_164_0 (by decide)
theorem f_164_1 : oFet 164 1 = some (.istore_n 3, 1) := by decide +kernel
theorem s_164_1 {d : Nat} {l0 l1 l2 l3 : oV} {x : Int} {S : List oV} {σ : oSg} {Q : Option oV → (Nat → oC) → Prop} (c3 : oCat l3 = 1) (c2 : oCat l2 = 1)  : oE d 164 1 [l0, l1, l2, l3] (.inl x :: S) σ Q = oE d 164 2 [l0, l1, l2, .inl x] S σ Q := pSt (i := 3) f_164_1 rfl rfl (show (3 : Nat) < 4 by decide) (oC1n c2) (oC1n c3) rfl
theorem f_164_2 : oFet 164 2 = some (.iload_n 3, 1) := by decide +kernel
theorem s_164_2 {d : Nat} {l0 l1 l2 : oV} {x : Int} {S : List oV} {σ : oSg} {Q : Option oV → (Nat → oC) → Prop} : oE d 164 2 [l0, l1, l2, .inl x] S σ Q = oE d 164 3 [l0, l1, l2, .inl x] (.inl x :: S) σ Q := pLdN (k := 3) f_164_2 rfl rfl rfl
theorem f_164_3 : oFet 164 3 = some (.iload_n 2, 1) := by decide +kernel
theorem s_164_3 {d : Nat} {l0 l1 l3 : oV} {x : Int} {S : List oV} {σ : oSg} {Q : Option oV → (Nat → oC) → Prop} : oE d 164 3 [l0, l1, .inl x, l3] S σ Q = oE d 164 4 [l0, l1, .inl x, l3] (.inl x :: S) σ Q := pLdN (k := 2) f_164_3 rfl rfl rfl
theorem f_164_4 : oFet 164 4 = some (.if_icmp .ge 21, 3) := by decide +kernel
theorem s_164_4 {d : Nat} {l0 l1 l2 l3 : oV} {x y : Int} {S : List oV} {σ : oSg} {Q : Option oV → (Nat → oC) → Prop} : oE d 164 4 [l0, l1, l2, l3] (.inl y :: .inl x :: S) σ Q = if y ≤ x then oE d 164 25 [l0, l1, l2, l3] S σ Q else oE d 164 7 [l0, l1, l2, l3] S σ Q := oCmpGe f_164_4 (by decide)
theorem f_164_7 : oFet 164 7 = some (.aload_n 0, 1) := by decide +kernel
theorem s_164_7 {d : Nat} {l1 l2 l3 : oV} {a : Nat} {S : List oV} {σ : oSg} {Q : Option oV → (Nat → oC) → Prop} : oE d 164 7 [.inr (.inr (.inl a)), l1, l2, l3] S σ Q = oE d 164 8 [.inr (.inr (.inl a)), l1, l2, l3] (.inr (.inr (.inl a)) :: S) σ Q := pLdN (k := 0) f_164_7 rfl rfl rfl
theorem f_164_8 : oFet 164 8 = some (.getfield 27, 3) := by decide +kernel
theorem s_164_8 {d : Nat} {l0 l1 l2 l3 : oV} {a : Nat} {S : List oV} {σ : oSg} {Q : Option oV → (Nat → oC) → Prop} (hk : oKd a = some 11) : oE d 164 8 [l0, l1, l2, l3] (.inr (.inr (.inl a)) :: S) σ Q = oE d 164 11 [l0, l1, l2, l3] (.inr (.inr (.inl (oRf a 8))) :: S) σ Q := pGfR f_164_8 ow_164 fl_11_27 rfl (by decide) hk
theorem f_164_11 : oFet 164 11 = some (.iload_n 3, 1) := by decide +kernel
theorem s_164_11 {d : Nat} {l0 l1 l2 : oV} {x : Int} {S : List oV} {σ : oSg} {Q : Option oV → (Nat → oC) → Prop} : oE d 164 11 [l0, l1, l2, .inl x] S σ Q = oE d 164 12 [l0, l1, l2, .inl x] (.inl x :: S) σ Q := pLdN (k := 3) f_164_11 rfl rfl rfl
theorem f_164_12 : oFet 164 12 = some (.iaload, 1) := by decide +kernel
theorem s_164_12 {d : Nat} {l0 l1 l2 l3 : oV} {a : Nat} {i : Int} {S : List oV} {σ : oSg} {Q : Option oV → (Nat → oC) → Prop} (hk : oAk a = some 0) (h0 : 0 ≤ i) (h1 : i < (oLn a : Int)) : oE d 164 12 [l0, l1, l2, l3] (.inl i :: .inr (.inr (.inl a)) :: S) σ Q = oE d 164 13 [l0, l1, l2, l3] (.inl (σ.2 a i.toNat) :: S) σ Q := oIal f_164_12 hk h0 h1
theorem f_164_13 : oFet 164 13 = some (.iload_n 1, 1) := by decide +kernel
theorem s_164_13 {d : Nat} {l0 l2 l3 : oV} {x : Int} {S : List oV} {σ : oSg} {Q : Option oV → (Nat → oC) → Prop} : oE d 164 13 [l0, .inl x, l2, l3] S σ Q = oE d 164 14 [l0, .inl x, l2, l3] (.inl x :: S) σ Q := pLdN (k := 1) f_164_13 rfl rfl rfl
theorem f_164_14 : oFet 164 14 = some (.if_icmp .ne 5, 3) := by decide +kernel
theorem s_164_14 {d : Nat} {l0 l1 l2 l3 : oV} {x y : Int} {S : List oV} {σ : oSg} {Q : Option oV → (Nat → oC) → Prop} : oE d 164 14 [l0, l1, l2, l3] (.inl y :: .inl x :: S) σ Q = if ¬ x = y then oE d 164 19 [l0, l1, l2, l3] S σ Q else oE d 164 17 [l0, l1, l2, l3] S σ Q := oCmpNe f_164_14 (by decide)
theorem f_164_17 : oFet 164 17 = some (.iconst 1, 1) := by decide +kernel
theorem s_164_17 {d : Nat} {l0 l1 l2 l3 : oV} {S : List oV} {σ : oSg} {Q : Option oV → (Nat → oC) → Prop} : oE d 164 17 [l0, l1, l2, l3] S σ Q = oE d 164 18 [l0, l1, l2, l3] (.inl (1) :: S) σ Q := pKst f_164_17 (by decide)
theorem f_164_18 : oFet 164 18 = some (.ireturn, 1) := by decide +kernel
theorem s_164_18 {d : Nat} {l0 l1 l2 l3 : oV} {x : Int} {σ : oSg} {Q : Option oV → (Nat → oC) → Prop} (hx : x = 0 ∨ x = 1) : oE d 164 18 [l0, l1, l2, l3] [.inl x] σ Q = Q (some (.inl x)) (oBld σ) := oZret f_164_18 rt_164 hx
theorem f_164_19 : oFet 164 19 = some (.iinc 3 1, 3) := by decide +kernel
theorem s_164_19 {d : Nat} {l0 l1 l2 : oV} {x : Int} {S : List oV} {σ : oSg} {Q : Option oV → (Nat → oC) → Prop} (c2 : oCat l2 = 1)  : oE d 164 19 [l0, l1, l2, .inl x] S σ Q = oE d 164 22 [l0, l1, l2, .inl (oAdd x (1))] S σ Q := pInc f_164_19 rfl (show (3 : Nat) < 4 by decide) (oC1n c2) (oC1n (v := .inl x) rfl) rfl
theorem f_164_22 : oFet 164 22 = some (.goto (-20), 3) := by decide +kernel
theorem s_164_22 {d : Nat} {l0 l1 l2 l3 : oV} {S : List oV} {σ : oSg} {Q : Option oV → (Nat → oC) → Prop} : oE d 164 22 [l0, l1, l2, l3] S σ Q = oE d 164 2 [l0, l1, l2, l3] S σ Q := pGoto f_164_22 (by decide)
theorem f_164_25 : oFet 164 25 = some (.iconst 0, 1) := by decide +kernel
theorem s_164_25 {d : Nat} {l0 l1 l2 l3 : oV} {S : List oV} {σ : oSg} {Q : Option oV → (Nat → oC) → Prop} : oE d 164 25 [l0, l1, l2, l3] S σ Q = oE d 164 26 [l0, l1, l2, l3] (.inl (0) :: S) σ Q := pKst f_164_25 (by decide)
theorem f_164_26 : oFet 164 26 = some (.ireturn, 1) := by decide +kernel
theorem s_164_26 {d : Nat} {l0 l1 l2 l3 : oV} {x : Int} {σ : oSg} {Q : Option oV → (Nat → oC) → Prop} (hx : x = 0 ∨ x = 1) : oE d 164 26 [l0, l1, l2, l3] [.inl x] σ Q = Q (some (.inl x)) (oBld σ) := oZret f_164_26 rt_164 hx
theorem ow_165 : (oMt 165).2.2.2.2.1 = 11 := by decide +kernel
theorem rt_165 : (oMt 165).2.2.2.1 = some .int := by decide +kernel
theorem nl_165 : (oMt 165).2.2.1 = 2 := by decide +kernel
theorem f_165_0 : oFet 165 0 = some (.aload_n 0, 1) := by decide +kernel
theorem s_165_0 {d : Nat} {l1 : oV} {a : Nat} {S : List oV} {σ : oSg} {Q : Option oV → (Nat → oC) → Prop} : oE d 165 0 [.inr (.inr (.inl a)), l1] S σ Q = oE d 165 1 [.inr (.inr (.inl a)), l1] (.inr (.inr (.inl a)) :: S) σ Q := pLdN (k := 0) f_165_0 rfl rfl rfl
theorem f_165_1 : oFet 165 1 = some (.iload_n 1, 1) := by decide +kernel
theorem s_165_1 {d : Nat} {l0 : oV} {x : Int} {S : List oV} {σ : oSg} {Q : Option oV → (Nat → oC) → Prop} : oE d 165 1 [l0, .inl x] S σ Q = oE d 165 2 [l0, .inl x] (.inl x :: S) σ Q := pLdN (k := 1) f_165_1 rfl rfl rfl
theorem f_165_2 : oFet 165 2 = some (.invokevirtual 61, 3) := by decide +kernel
theorem c_165_2 {d : Nat} {l0 l1 : oV} {x0 : oV} {a : Nat} {v : Option oV} {τ : oSg} {S : List oV} {σ : oSg} {Q : Option oV → (Nat → oC) → Prop} (hm : oMi d 145 [.inr (.inr (.inl a)), x0] σ v τ) (hk : oKd a = some 11) (hs : oSmall S = true) : oE d 165 2 [l0, l1] (x0 :: .inr (.inr (.inl a)) :: S) σ Q = oE d 165 5 [l0, l1] (v.toList ++ S) τ Q := pCallV f_165_2 ow_165 lk_11_61 mt_145 rfl rfl rfl hk hs hm
theorem f_165_5 : oFet 165 5 = some (.ifCond .eq 16, 3) := by decide +kernel
theorem s_165_5 {d : Nat} {l0 l1 : oV} {x : Int} {S : List oV} {σ : oSg} {Q : Option oV → (Nat → oC) → Prop} : oE d 165 5 [l0, l1] (.inl x :: S) σ Q = if x = 0 then oE d 165 21 [l0, l1] S σ Q else oE d 165 8 [l0, l1] S σ Q := oIfEq f_165_5 (by decide)
theorem f_165_8 : oFet 165 8 = some (.aload_n 0, 1) := by decide +kernel
theorem s_165_8 {d : Nat} {l1 : oV} {a : Nat} {S : List oV} {σ : oSg} {Q : Option oV → (Nat → oC) → Prop} : oE d 165 8 [.inr (.inr (.inl a)), l1] S σ Q = oE d 165 9 [.inr (.inr (.inl a)), l1] (.inr (.inr (.inl a)) :: S) σ Q := pLdN (k := 0) f_165_8 rfl rfl rfl
theorem f_165_9 : oFet 165 9 = some (.iload_n 1, 1) := by decide +kernel
theorem s_165_9 {d : Nat} {l0 : oV} {x : Int} {S : List oV} {σ : oSg} {Q : Option oV → (Nat → oC) → Prop} : oE d 165 9 [l0, .inl x] S σ Q = oE d 165 10 [l0, .inl x] (.inl x :: S) σ Q := pLdN (k := 1) f_165_9 rfl rfl rfl
theorem f_165_10 : oFet 165 10 = some (.invokevirtual 75, 3) := by decide +kernel
theorem c_165_10 {d : Nat} {l0 l1 : oV} {x0 : oV} {a : Nat} {v : Option oV} {τ : oSg} {S : List oV} {σ : oSg} {Q : Option oV → (Nat → oC) → Prop} (hm : oMi d 149 [.inr (.inr (.inl a)), x0] σ v τ) (hk : oKd a = some 11) (hs : oSmall S = true) : oE d 165 10 [l0, l1] (x0 :: .inr (.inr (.inl a)) :: S) σ Q = oE d 165 13 [l0, l1] (v.toList ++ S) τ Q := pCallV f_165_10 ow_165 lk_11_75 mt_149 rfl rfl rfl hk hs hm
theorem f_165_13 : oFet 165 13 = some (.bipush (-5), 2) := by decide +kernel
theorem s_165_13 {d : Nat} {l0 l1 : oV} {S : List oV} {σ : oSg} {Q : Option oV → (Nat → oC) → Prop} : oE d 165 13 [l0, l1] S σ Q = oE d 165 15 [l0, l1] (.inl (-5) :: S) σ Q := pBip f_165_13 (by decide)
theorem f_165_15 : oFet 165 15 = some (.invokestatic 102, 3) := by decide +kernel
theorem c_165_15 {d : Nat} {l0 l1 : oV} {x0 x1 : oV} {v : Option oV} {τ : oSg} {S : List oV} {σ : oSg} {Q : Option oV → (Nat → oC) → Prop} (hm : oMi d 157 [x0, x1] σ v τ) (hs : oSmall S = true) : oE d 165 15 [l0, l1] (x1 :: x0 :: S) σ Q = oE d 165 18 [l0, l1] (v.toList ++ S) τ Q := pCallS f_165_15 ow_165 lk_11_102 mt_157 rfl rfl rfl hs hm
theorem f_165_18 : oFet 165 18 = some (.goto 4, 3) := by decide +kernel
theorem s_165_18 {d : Nat} {l0 l1 : oV} {S : List oV} {σ : oSg} {Q : Option oV → (Nat → oC) → Prop} : oE d 165 18 [l0, l1] S σ Q = oE d 165 22 [l0, l1] S σ Q := pGoto f_165_18 (by decide)
theorem f_165_21 : oFet 165 21 = some (.iconst (-1), 1) := by decide +kernel
theorem s_165_21 {d : Nat} {l0 l1 : oV} {S : List oV} {σ : oSg} {Q : Option oV → (Nat → oC) → Prop} : oE d 165 21 [l0, l1] S σ Q = oE d 165 22 [l0, l1] (.inl (-1) :: S) σ Q := pKst f_165_21 (by decide)
theorem f_165_22 : oFet 165 22 = some (.ireturn, 1) := by decide +kernel
theorem s_165_22 {d : Nat} {l0 l1 : oV} {x : Int} {σ : oSg} {Q : Option oV → (Nat → oC) → Prop} : oE d 165 22 [l0, l1] [.inl x] σ Q = Q (some (.inl x)) (oBld σ) := oIret f_165_22 rt_165
theorem ow_166 : (oMt 166).2.2.2.2.1 = 11 := by decide +kernel
theorem rt_166 : (oMt 166).2.2.2.1 = some .int := by decide +kernel
theorem nl_166 : (oMt 166).2.2.1 = 2 := by decide +kernel
theorem f_166_0 : oFet 166 0 = some (.iload_n 1, 1) := by decide +kernel
theorem s_166_0 {d : Nat} {l0 : oV} {x : Int} {S : List oV} {σ : oSg} {Q : Option oV → (Nat → oC) → Prop} : oE d 166 0 [l0, .inl x] S σ Q = oE d 166 1 [l0, .inl x] (.inl x :: S) σ Q := pLdN (k := 1) f_166_0 rfl rfl rfl
theorem f_166_1 : oFet 166 1 = some (.iconst 0, 1) := by decide +kernel
theorem s_166_1 {d : Nat} {l0 l1 : oV} {S : List oV} {σ : oSg} {Q : Option oV → (Nat → oC) → Prop} : oE d 166 1 [l0, l1] S σ Q = oE d 166 2 [l0, l1] (.inl (0) :: S) σ Q := pKst f_166_1 (by decide)
theorem f_166_2 : oFet 166 2 = some (.bipush 127, 2) := by decide +kernel
theorem s_166_2 {d : Nat} {l0 l1 : oV} {S : List oV} {σ : oSg} {Q : Option oV → (Nat → oC) → Prop} : oE d 166 2 [l0, l1] S σ Q = oE d 166 4 [l0, l1] (.inl (127) :: S) σ Q := pBip f_166_2 (by decide)
theorem f_166_4 : oFet 166 4 = some (.invokestatic 57, 3) := by decide +kernel
theorem c_166_4 {d : Nat} {l0 l1 : oV} {x0 x1 x2 : oV} {v : Option oV} {τ : oSg} {S : List oV} {σ : oSg} {Q : Option oV → (Nat → oC) → Prop} (hm : oMi d 146 [x0, x1, x2] σ v τ) (hs : oSmall S = true) : oE d 166 4 [l0, l1] (x2 :: x1 :: x0 :: S) σ Q = oE d 166 7 [l0, l1] (v.toList ++ S) τ Q := pCallS f_166_4 ow_166 lk_11_57 mt_146 rfl rfl rfl hs hm
theorem f_166_7 : oFet 166 7 = some (.ifCond .ne 6, 3) := by decide +kernel
theorem s_166_7 {d : Nat} {l0 l1 : oV} {x : Int} {S : List oV} {σ : oSg} {Q : Option oV → (Nat → oC) → Prop} : oE d 166 7 [l0, l1] (.inl x :: S) σ Q = if ¬ x = 0 then oE d 166 13 [l0, l1] S σ Q else oE d 166 10 [l0, l1] S σ Q := oIfNe f_166_7 (by decide)
theorem f_166_10 : oFet 166 10 = some (.bipush (-2), 2) := by decide +kernel
theorem s_166_10 {d : Nat} {l0 l1 : oV} {S : List oV} {σ : oSg} {Q : Option oV → (Nat → oC) → Prop} : oE d 166 10 [l0, l1] S σ Q = oE d 166 12 [l0, l1] (.inl (-2) :: S) σ Q := pBip f_166_10 (by decide)
theorem f_166_12 : oFet 166 12 = some (.ireturn, 1) := by decide +kernel
theorem s_166_12 {d : Nat} {l0 l1 : oV} {x : Int} {σ : oSg} {Q : Option oV → (Nat → oC) → Prop} : oE d 166 12 [l0, l1] [.inl x] σ Q = Q (some (.inl x)) (oBld σ) := oIret f_166_12 rt_166
theorem f_166_13 : oFet 166 13 = some (.aload_n 0, 1) := by decide +kernel
theorem s_166_13 {d : Nat} {l1 : oV} {a : Nat} {S : List oV} {σ : oSg} {Q : Option oV → (Nat → oC) → Prop} : oE d 166 13 [.inr (.inr (.inl a)), l1] S σ Q = oE d 166 14 [.inr (.inr (.inl a)), l1] (.inr (.inr (.inl a)) :: S) σ Q := pLdN (k := 0) f_166_13 rfl rfl rfl
theorem f_166_14 : oFet 166 14 = some (.getfield 116, 3) := by decide +kernel
theorem s_166_14 {d : Nat} {l0 l1 : oV} {a : Nat} {S : List oV} {σ : oSg} {Q : Option oV → (Nat → oC) → Prop} (hk : oKd a = some 11) : oE d 166 14 [l0, l1] (.inr (.inr (.inl a)) :: S) σ Q = oE d 166 17 [l0, l1] (.inl (σ.1 a 6) :: S) σ Q := pGfI f_166_14 ow_166 fl_11_116 rfl (by decide) hk
theorem f_166_17 : oFet 166 17 = some (.bipush 100, 2) := by decide +kernel
theorem s_166_17 {d : Nat} {l0 l1 : oV} {S : List oV} {σ : oSg} {Q : Option oV → (Nat → oC) → Prop} : oE d 166 17 [l0, l1] S σ Q = oE d 166 19 [l0, l1] (.inl (100) :: S) σ Q := pBip f_166_17 (by decide)
theorem f_166_19 : oFet 166 19 = some (.if_icmp .ne 6, 3) := by decide +kernel
theorem s_166_19 {d : Nat} {l0 l1 : oV} {x y : Int} {S : List oV} {σ : oSg} {Q : Option oV → (Nat → oC) → Prop} : oE d 166 19 [l0, l1] (.inl y :: .inl x :: S) σ Q = if ¬ x = y then oE d 166 25 [l0, l1] S σ Q else oE d 166 22 [l0, l1] S σ Q := oCmpNe f_166_19 (by decide)
theorem f_166_22 : oFet 166 22 = some (.bipush (-4), 2) := by decide +kernel
theorem s_166_22 {d : Nat} {l0 l1 : oV} {S : List oV} {σ : oSg} {Q : Option oV → (Nat → oC) → Prop} : oE d 166 22 [l0, l1] S σ Q = oE d 166 24 [l0, l1] (.inl (-4) :: S) σ Q := pBip f_166_22 (by decide)
theorem f_166_24 : oFet 166 24 = some (.ireturn, 1) := by decide +kernel
theorem s_166_24 {d : Nat} {l0 l1 : oV} {x : Int} {σ : oSg} {Q : Option oV → (Nat → oC) → Prop} : oE d 166 24 [l0, l1] [.inl x] σ Q = Q (some (.inl x)) (oBld σ) := oIret f_166_24 rt_166
theorem f_166_25 : oFet 166 25 = some (.aload_n 0, 1) := by decide +kernel
theorem s_166_25 {d : Nat} {l1 : oV} {a : Nat} {S : List oV} {σ : oSg} {Q : Option oV → (Nat → oC) → Prop} : oE d 166 25 [.inr (.inr (.inl a)), l1] S σ Q = oE d 166 26 [.inr (.inr (.inl a)), l1] (.inr (.inr (.inl a)) :: S) σ Q := pLdN (k := 0) f_166_25 rfl rfl rfl
theorem f_166_26 : oFet 166 26 = some (.getfield 21, 3) := by decide +kernel
theorem s_166_26 {d : Nat} {l0 l1 : oV} {a : Nat} {S : List oV} {σ : oSg} {Q : Option oV → (Nat → oC) → Prop} (hk : oKd a = some 11) : oE d 166 26 [l0, l1] (.inr (.inr (.inl a)) :: S) σ Q = oE d 166 29 [l0, l1] (.inr (.inr (.inl (oRf a 4))) :: S) σ Q := pGfR f_166_26 ow_166 fl_11_21 rfl (by decide) hk
theorem f_166_29 : oFet 166 29 = some (.aload_n 0, 1) := by decide +kernel
theorem s_166_29 {d : Nat} {l1 : oV} {a : Nat} {S : List oV} {σ : oSg} {Q : Option oV → (Nat → oC) → Prop} : oE d 166 29 [.inr (.inr (.inl a)), l1] S σ Q = oE d 166 30 [.inr (.inr (.inl a)), l1] (.inr (.inr (.inl a)) :: S) σ Q := pLdN (k := 0) f_166_29 rfl rfl rfl
theorem f_166_30 : oFet 166 30 = some (.getfield 116, 3) := by decide +kernel
theorem s_166_30 {d : Nat} {l0 l1 : oV} {a : Nat} {S : List oV} {σ : oSg} {Q : Option oV → (Nat → oC) → Prop} (hk : oKd a = some 11) : oE d 166 30 [l0, l1] (.inr (.inr (.inl a)) :: S) σ Q = oE d 166 33 [l0, l1] (.inl (σ.1 a 6) :: S) σ Q := pGfI f_166_30 ow_166 fl_11_116 rfl (by decide) hk
theorem f_166_33 : oFet 166 33 = some (.iload_n 1, 1) := by decide +kernel
theorem s_166_33 {d : Nat} {l0 : oV} {x : Int} {S : List oV} {σ : oSg} {Q : Option oV → (Nat → oC) → Prop} : oE d 166 33 [l0, .inl x] S σ Q = oE d 166 34 [l0, .inl x] (.inl x :: S) σ Q := pLdN (k := 1) f_166_33 rfl rfl rfl
theorem f_166_34 : oFet 166 34 = some (.iastore, 1) := by decide +kernel
theorem s_166_34 {d : Nat} {l0 l1 : oV} {a : Nat} {i v : Int} {S : List oV} {σ : oSg} {Q : Option oV → (Nat → oC) → Prop} (hk : oAk a = some 0) (h0 : 0 ≤ i) (h1 : i < (oLn a : Int)) : oE d 166 34 [l0, l1] (.inl v :: .inl i :: .inr (.inr (.inl a)) :: S) σ Q = oE d 166 35 [l0, l1] S (oSA σ a i.toNat v) Q := oIas f_166_34 hk h0 h1
theorem f_166_35 : oFet 166 35 = some (.aload_n 0, 1) := by decide +kernel
theorem s_166_35 {d : Nat} {l1 : oV} {a : Nat} {S : List oV} {σ : oSg} {Q : Option oV → (Nat → oC) → Prop} : oE d 166 35 [.inr (.inr (.inl a)), l1] S σ Q = oE d 166 36 [.inr (.inr (.inl a)), l1] (.inr (.inr (.inl a)) :: S) σ Q := pLdN (k := 0) f_166_35 rfl rfl rfl
theorem f_166_36 : oFet 166 36 = some (.dup, 1) := by decide +kernel
theorem s_166_36 {d : Nat} {l0 l1 : oV} {a : Nat} {S : List oV} {σ : oSg} {Q : Option oV → (Nat → oC) → Prop} : oE d 166 36 [l0, l1] (.inr (.inr (.inl a)) :: S) σ Q = oE d 166 37 [l0, l1] (.inr (.inr (.inl a)) :: .inr (.inr (.inl a)) :: S) σ Q := pDupR f_166_36
theorem s_166_36_i {d : Nat} {l0 l1 : oV} {x : Int} {S : List oV} {σ : oSg} {Q : Option oV → (Nat → oC) → Prop} : oE d 166 36 [l0, l1] (.inl x :: S) σ Q = oE d 166 37 [l0, l1] (.inl x :: .inl x :: S) σ Q := pDupI f_166_36
theorem f_166_37 : oFet 166 37 = some (.getfield 116, 3) := by decide +kernel
theorem s_166_37 {d : Nat} {l0 l1 : oV} {a : Nat} {S : List oV} {σ : oSg} {Q : Option oV → (Nat → oC) → Prop} (hk : oKd a = some 11) : oE d 166 37 [l0, l1] (.inr (.inr (.inl a)) :: S) σ Q = oE d 166 40 [l0, l1] (.inl (σ.1 a 6) :: S) σ Q := pGfI f_166_37 ow_166 fl_11_116 rfl (by decide) hk
theorem f_166_40 : oFet 166 40 = some (.iconst 1, 1) := by decide +kernel
theorem s_166_40 {d : Nat} {l0 l1 : oV} {S : List oV} {σ : oSg} {Q : Option oV → (Nat → oC) → Prop} : oE d 166 40 [l0, l1] S σ Q = oE d 166 41 [l0, l1] (.inl (1) :: S) σ Q := pKst f_166_40 (by decide)
theorem f_166_41 : oFet 166 41 = some (.iadd, 1) := by decide +kernel
theorem s_166_41 {d : Nat} {l0 l1 : oV} {x y : Int} {S : List oV} {σ : oSg} {Q : Option oV → (Nat → oC) → Prop} : oE d 166 41 [l0, l1] (.inl y :: .inl x :: S) σ Q = oE d 166 42 [l0, l1] (.inl (oAdd x y) :: S) σ Q := oS3 f_166_41 rfl rfl rfl
theorem f_166_42 : oFet 166 42 = some (.putfield 116, 3) := by decide +kernel
theorem s_166_42 {d : Nat} {l0 l1 : oV} {a : Nat} {v : Int} {S : List oV} {σ : oSg} {Q : Option oV → (Nat → oC) → Prop} (hk : oKd a = some 11) : oE d 166 42 [l0, l1] (.inl v :: .inr (.inr (.inl a)) :: S) σ Q = oE d 166 45 [l0, l1] S (oSF σ a 6 v) Q := pPfI f_166_42 ow_166 fl_11_116 rfl (by decide) rfl rfl hk
theorem f_166_45 : oFet 166 45 = some (.aload_n 0, 1) := by decide +kernel
theorem s_166_45 {d : Nat} {l1 : oV} {a : Nat} {S : List oV} {σ : oSg} {Q : Option oV → (Nat → oC) → Prop} : oE d 166 45 [.inr (.inr (.inl a)), l1] S σ Q = oE d 166 46 [.inr (.inr (.inl a)), l1] (.inr (.inr (.inl a)) :: S) σ Q := pLdN (k := 0) f_166_45 rfl rfl rfl
theorem f_166_46 : oFet 166 46 = some (.getfield 116, 3) := by decide +kernel
theorem s_166_46 {d : Nat} {l0 l1 : oV} {a : Nat} {S : List oV} {σ : oSg} {Q : Option oV → (Nat → oC) → Prop} (hk : oKd a = some 11) : oE d 166 46 [l0, l1] (.inr (.inr (.inl a)) :: S) σ Q = oE d 166 49 [l0, l1] (.inl (σ.1 a 6) :: S) σ Q := pGfI f_166_46 ow_166 fl_11_116 rfl (by decide) hk
theorem f_166_49 : oFet 166 49 = some (.ireturn, 1) := by decide +kernel
theorem s_166_49 {d : Nat} {l0 l1 : oV} {x : Int} {σ : oSg} {Q : Option oV → (Nat → oC) → Prop} : oE d 166 49 [l0, l1] [.inl x] σ Q = Q (some (.inl x)) (oBld σ) := oIret f_166_49 rt_166
theorem ow_167 : (oMt 167).2.2.2.2.1 = 11 := by decide +kernel
theorem rt_167 : (oMt 167).2.2.2.1 = some .int := by decide +kernel
theorem nl_167 : (oMt 167).2.2.1 = 4 := by decide +kernel
theorem f_167_0 : oFet 167 0 = some (.aload_n 0, 1) := by decide +kernel
theorem s_167_0 {d : Nat} {l1 l2 l3 : oV} {a : Nat} {S : List oV} {σ : oSg} {Q : Option oV → (Nat → oC) → Prop} : oE d 167 0 [.inr (.inr (.inl a)), l1, l2, l3] S σ Q = oE d 167 1 [.inr (.inr (.inl a)), l1, l2, l3] (.inr (.inr (.inl a)) :: S) σ Q := pLdN (k := 0) f_167_0 rfl rfl rfl
theorem f_167_1 : oFet 167 1 = some (.invokevirtual 147, 3) := by decide +kernel
theorem c_167_1 {d : Nat} {l0 l1 l2 l3 : oV} {a : Nat} {v : Option oV} {τ : oSg} {S : List oV} {σ : oSg} {Q : Option oV → (Nat → oC) → Prop} (hm : oMi d 168 [.inr (.inr (.inl a))] σ v τ) (hk : oKd a = some 11) (hs : oSmall S = true) : oE d 167 1 [l0, l1, l2, l3] (.inr (.inr (.inl a)) :: S) σ Q = oE d 167 4 [l0, l1, l2, l3] (v.toList ++ S) τ Q := pCallV f_167_1 ow_167 lk_11_147 mt_168 rfl rfl rfl hk hs hm
theorem f_167_4 : oFet 167 4 = some (.istore_n 1, 1) := by decide +kernel
theorem s_167_4 {d : Nat} {l0 l1 l2 l3 : oV} {x : Int} {S : List oV} {σ : oSg} {Q : Option oV → (Nat → oC) → Prop} (c1 : oCat l1 = 1) (c0 : oCat l0 = 1)  : oE d 167 4 [l0, l1, l2, l3] (.inl x :: S) σ Q = oE d 167 5 [l0, .inl x, l2, l3] S σ Q := pSt (i := 1) f_167_4 rfl rfl (show (1 : Nat) < 4 by decide) (oC1n c0) (oC1n c1) rfl
theorem f_167_5 : oFet 167 5 = some (.iconst 0, 1) := by decide +kernel
theorem s_167_5 {d : Nat} {l0 l1 l2 l3 : oV} {S : List oV} {σ : oSg} {Q : Option oV → (Nat → oC) → Prop} : oE d 167 5 [l0, l1, l2, l3] S σ Q = oE d 167 6 [l0, l1, l2, l3] (.inl (0) :: S) σ Q := pKst f_167_5 (by decide)
theorem f_167_6 : oFet 167 6 = some (.istore_n 2, 1) := by decide +kernel
theorem s_167_6 {d : Nat} {l0 l1 l2 l3 : oV} {x : Int} {S : List oV} {σ : oSg} {Q : Option oV → (Nat → oC) → Prop} (c2 : oCat l2 = 1) (c1 : oCat l1 = 1)  : oE d 167 6 [l0, l1, l2, l3] (.inl x :: S) σ Q = oE d 167 7 [l0, l1, .inl x, l3] S σ Q := pSt (i := 2) f_167_6 rfl rfl (show (2 : Nat) < 4 by decide) (oC1n c1) (oC1n c2) rfl
theorem f_167_7 : oFet 167 7 = some (.iload_n 1, 1) := by decide +kernel
theorem s_167_7 {d : Nat} {l0 l2 l3 : oV} {x : Int} {S : List oV} {σ : oSg} {Q : Option oV → (Nat → oC) → Prop} : oE d 167 7 [l0, .inl x, l2, l3] S σ Q = oE d 167 8 [l0, .inl x, l2, l3] (.inl x :: S) σ Q := pLdN (k := 1) f_167_7 rfl rfl rfl
theorem f_167_8 : oFet 167 8 = some (.iconst (-1), 1) := by decide +kernel
theorem s_167_8 {d : Nat} {l0 l1 l2 l3 : oV} {S : List oV} {σ : oSg} {Q : Option oV → (Nat → oC) → Prop} : oE d 167 8 [l0, l1, l2, l3] S σ Q = oE d 167 9 [l0, l1, l2, l3] (.inl (-1) :: S) σ Q := pKst f_167_8 (by decide)
theorem f_167_9 : oFet 167 9 = some (.if_icmp .ne 35, 3) := by decide +kernel
theorem s_167_9 {d : Nat} {l0 l1 l2 l3 : oV} {x y : Int} {S : List oV} {σ : oSg} {Q : Option oV → (Nat → oC) → Prop} : oE d 167 9 [l0, l1, l2, l3] (.inl y :: .inl x :: S) σ Q = if ¬ x = y then oE d 167 44 [l0, l1, l2, l3] S σ Q else oE d 167 12 [l0, l1, l2, l3] S σ Q := oCmpNe f_167_9 (by decide)
theorem f_167_12 : oFet 167 12 = some (.iconst 0, 1) := by decide +kernel
theorem s_167_12 {d : Nat} {l0 l1 l2 l3 : oV} {S : List oV} {σ : oSg} {Q : Option oV → (Nat → oC) → Prop} : oE d 167 12 [l0, l1, l2, l3] S σ Q = oE d 167 13 [l0, l1, l2, l3] (.inl (0) :: S) σ Q := pKst f_167_12 (by decide)
theorem f_167_13 : oFet 167 13 = some (.istore_n 3, 1) := by decide +kernel
theorem s_167_13 {d : Nat} {l0 l1 l2 l3 : oV} {x : Int} {S : List oV} {σ : oSg} {Q : Option oV → (Nat → oC) → Prop} (c3 : oCat l3 = 1) (c2 : oCat l2 = 1)  : oE d 167 13 [l0, l1, l2, l3] (.inl x :: S) σ Q = oE d 167 14 [l0, l1, l2, .inl x] S σ Q := pSt (i := 3) f_167_13 rfl rfl (show (3 : Nat) < 4 by decide) (oC1n c2) (oC1n c3) rfl
theorem f_167_14 : oFet 167 14 = some (.iload_n 3, 1) := by decide +kernel
theorem s_167_14 {d : Nat} {l0 l1 l2 : oV} {x : Int} {S : List oV} {σ : oSg} {Q : Option oV → (Nat → oC) → Prop} : oE d 167 14 [l0, l1, l2, .inl x] S σ Q = oE d 167 15 [l0, l1, l2, .inl x] (.inl x :: S) σ Q := pLdN (k := 3) f_167_14 rfl rfl rfl
theorem f_167_15 : oFet 167 15 = some (.aload_n 0, 1) := by decide +kernel
theorem s_167_15 {d : Nat} {l1 l2 l3 : oV} {a : Nat} {S : List oV} {σ : oSg} {Q : Option oV → (Nat → oC) → Prop} : oE d 167 15 [.inr (.inr (.inl a)), l1, l2, l3] S σ Q = oE d 167 16 [.inr (.inr (.inl a)), l1, l2, l3] (.inr (.inr (.inl a)) :: S) σ Q := pLdN (k := 0) f_167_15 rfl rfl rfl
theorem f_167_16 : oFet 167 16 = some (.getfield 125, 3) := by decide +kernel
theorem s_167_16 {d : Nat} {l0 l1 l2 l3 : oV} {a : Nat} {S : List oV} {σ : oSg} {Q : Option oV → (Nat → oC) → Prop} (hk : oKd a = some 11) : oE d 167 16 [l0, l1, l2, l3] (.inr (.inr (.inl a)) :: S) σ Q = oE d 167 19 [l0, l1, l2, l3] (.inl (σ.1 a 7) :: S) σ Q := pGfI f_167_16 ow_167 fl_11_125 rfl (by decide) hk
theorem f_167_19 : oFet 167 19 = some (.if_icmp .ge 25, 3) := by decide +kernel
theorem s_167_19 {d : Nat} {l0 l1 l2 l3 : oV} {x y : Int} {S : List oV} {σ : oSg} {Q : Option oV → (Nat → oC) → Prop} : oE d 167 19 [l0, l1, l2, l3] (.inl y :: .inl x :: S) σ Q = if y ≤ x then oE d 167 44 [l0, l1, l2, l3] S σ Q else oE d 167 22 [l0, l1, l2, l3] S σ Q := oCmpGe f_167_19 (by decide)
theorem f_167_22 : oFet 167 22 = some (.aload_n 0, 1) := by decide +kernel
theorem s_167_22 {d : Nat} {l1 l2 l3 : oV} {a : Nat} {S : List oV} {σ : oSg} {Q : Option oV → (Nat → oC) → Prop} : oE d 167 22 [.inr (.inr (.inl a)), l1, l2, l3] S σ Q = oE d 167 23 [.inr (.inr (.inl a)), l1, l2, l3] (.inr (.inr (.inl a)) :: S) σ Q := pLdN (k := 0) f_167_22 rfl rfl rfl
theorem f_167_23 : oFet 167 23 = some (.aload_n 0, 1) := by decide +kernel
theorem s_167_23 {d : Nat} {l1 l2 l3 : oV} {a : Nat} {S : List oV} {σ : oSg} {Q : Option oV → (Nat → oC) → Prop} : oE d 167 23 [.inr (.inr (.inl a)), l1, l2, l3] S σ Q = oE d 167 24 [.inr (.inr (.inl a)), l1, l2, l3] (.inr (.inr (.inl a)) :: S) σ Q := pLdN (k := 0) f_167_23 rfl rfl rfl
theorem f_167_24 : oFet 167 24 = some (.getfield 24, 3) := by decide +kernel
theorem s_167_24 {d : Nat} {l0 l1 l2 l3 : oV} {a : Nat} {S : List oV} {σ : oSg} {Q : Option oV → (Nat → oC) → Prop} (hk : oKd a = some 11) : oE d 167 24 [l0, l1, l2, l3] (.inr (.inr (.inl a)) :: S) σ Q = oE d 167 27 [l0, l1, l2, l3] (.inr (.inr (.inl (oRf a 5))) :: S) σ Q := pGfR f_167_24 ow_167 fl_11_24 rfl (by decide) hk
theorem f_167_27 : oFet 167 27 = some (.iload_n 3, 1) := by decide +kernel
theorem s_167_27 {d : Nat} {l0 l1 l2 : oV} {x : Int} {S : List oV} {σ : oSg} {Q : Option oV → (Nat → oC) → Prop} : oE d 167 27 [l0, l1, l2, .inl x] S σ Q = oE d 167 28 [l0, l1, l2, .inl x] (.inl x :: S) σ Q := pLdN (k := 3) f_167_27 rfl rfl rfl
theorem f_167_28 : oFet 167 28 = some (.iaload, 1) := by decide +kernel
theorem s_167_28 {d : Nat} {l0 l1 l2 l3 : oV} {a : Nat} {i : Int} {S : List oV} {σ : oSg} {Q : Option oV → (Nat → oC) → Prop} (hk : oAk a = some 0) (h0 : 0 ≤ i) (h1 : i < (oLn a : Int)) : oE d 167 28 [l0, l1, l2, l3] (.inl i :: .inr (.inr (.inl a)) :: S) σ Q = oE d 167 29 [l0, l1, l2, l3] (.inl (σ.2 a i.toNat) :: S) σ Q := oIal f_167_28 hk h0 h1
theorem f_167_29 : oFet 167 29 = some (.invokevirtual 150, 3) := by decide +kernel
theorem c_167_29 {d : Nat} {l0 l1 l2 l3 : oV} {x0 : oV} {a : Nat} {v : Option oV} {τ : oSg} {S : List oV} {σ : oSg} {Q : Option oV → (Nat → oC) → Prop} (hm : oMi d 171 [.inr (.inr (.inl a)), x0] σ v τ) (hk : oKd a = some 11) (hs : oSmall S = true) : oE d 167 29 [l0, l1, l2, l3] (x0 :: .inr (.inr (.inl a)) :: S) σ Q = oE d 167 32 [l0, l1, l2, l3] (v.toList ++ S) τ Q := pCallV f_167_29 ow_167 lk_11_150 mt_171 rfl rfl rfl hk hs hm
theorem f_167_32 : oFet 167 32 = some (.ifCond .lt 6, 3) := by decide +kernel
theorem s_167_32 {d : Nat} {l0 l1 l2 l3 : oV} {x : Int} {S : List oV} {σ : oSg} {Q : Option oV → (Nat → oC) → Prop} : oE d 167 32 [l0, l1, l2, l3] (.inl x :: S) σ Q = if x < 0 then oE d 167 38 [l0, l1, l2, l3] S σ Q else oE d 167 35 [l0, l1, l2, l3] S σ Q := oIfLt f_167_32 (by decide)
theorem f_167_35 : oFet 167 35 = some (.iinc 2 1, 3) := by decide +kernel
theorem s_167_35 {d : Nat} {l0 l1 l3 : oV} {x : Int} {S : List oV} {σ : oSg} {Q : Option oV → (Nat → oC) → Prop} (c1 : oCat l1 = 1)  : oE d 167 35 [l0, l1, .inl x, l3] S σ Q = oE d 167 38 [l0, l1, .inl (oAdd x (1)), l3] S σ Q := pInc f_167_35 rfl (show (2 : Nat) < 4 by decide) (oC1n c1) (oC1n (v := .inl x) rfl) rfl
theorem f_167_38 : oFet 167 38 = some (.iinc 3 1, 3) := by decide +kernel
theorem s_167_38 {d : Nat} {l0 l1 l2 : oV} {x : Int} {S : List oV} {σ : oSg} {Q : Option oV → (Nat → oC) → Prop} (c2 : oCat l2 = 1)  : oE d 167 38 [l0, l1, l2, .inl x] S σ Q = oE d 167 41 [l0, l1, l2, .inl (oAdd x (1))] S σ Q := pInc f_167_38 rfl (show (3 : Nat) < 4 by decide) (oC1n c2) (oC1n (v := .inl x) rfl) rfl
theorem f_167_41 : oFet 167 41 = some (.goto (-27), 3) := by decide +kernel
theorem s_167_41 {d : Nat} {l0 l1 l2 l3 : oV} {S : List oV} {σ : oSg} {Q : Option oV → (Nat → oC) → Prop} : oE d 167 41 [l0, l1, l2, l3] S σ Q = oE d 167 14 [l0, l1, l2, l3] S σ Q := pGoto f_167_41 (by decide)
theorem f_167_44 : oFet 167 44 = some (.aload_n 0, 1) := by decide +kernel
theorem s_167_44 {d : Nat} {l1 l2 l3 : oV} {a : Nat} {S : List oV} {σ : oSg} {Q : Option oV → (Nat → oC) → Prop} : oE d 167 44 [.inr (.inr (.inl a)), l1, l2, l3] S σ Q = oE d 167 45 [.inr (.inr (.inl a)), l1, l2, l3] (.inr (.inr (.inl a)) :: S) σ Q := pLdN (k := 0) f_167_44 rfl rfl rfl
theorem f_167_45 : oFet 167 45 = some (.iconst 0, 1) := by decide +kernel
theorem s_167_45 {d : Nat} {l0 l1 l2 l3 : oV} {S : List oV} {σ : oSg} {Q : Option oV → (Nat → oC) → Prop} : oE d 167 45 [l0, l1, l2, l3] S σ Q = oE d 167 46 [l0, l1, l2, l3] (.inl (0) :: S) σ Q := pKst f_167_45 (by decide)
theorem f_167_46 : oFet 167 46 = some (.putfield 116, 3) := by decide +kernel
theorem s_167_46 {d : Nat} {l0 l1 l2 l3 : oV} {a : Nat} {v : Int} {S : List oV} {σ : oSg} {Q : Option oV → (Nat → oC) → Prop} (hk : oKd a = some 11) : oE d 167 46 [l0, l1, l2, l3] (.inl v :: .inr (.inr (.inl a)) :: S) σ Q = oE d 167 49 [l0, l1, l2, l3] S (oSF σ a 6 v) Q := pPfI f_167_46 ow_167 fl_11_116 rfl (by decide) rfl rfl hk
theorem f_167_49 : oFet 167 49 = some (.iload_n 1, 1) := by decide +kernel
theorem s_167_49 {d : Nat} {l0 l2 l3 : oV} {x : Int} {S : List oV} {σ : oSg} {Q : Option oV → (Nat → oC) → Prop} : oE d 167 49 [l0, .inl x, l2, l3] S σ Q = oE d 167 50 [l0, .inl x, l2, l3] (.inl x :: S) σ Q := pLdN (k := 1) f_167_49 rfl rfl rfl
theorem f_167_50 : oFet 167 50 = some (.iconst (-1), 1) := by decide +kernel
theorem s_167_50 {d : Nat} {l0 l1 l2 l3 : oV} {S : List oV} {σ : oSg} {Q : Option oV → (Nat → oC) → Prop} : oE d 167 50 [l0, l1, l2, l3] S σ Q = oE d 167 51 [l0, l1, l2, l3] (.inl (-1) :: S) σ Q := pKst f_167_50 (by decide)
theorem f_167_51 : oFet 167 51 = some (.if_icmp .ne 7, 3) := by decide +kernel
theorem s_167_51 {d : Nat} {l0 l1 l2 l3 : oV} {x y : Int} {S : List oV} {σ : oSg} {Q : Option oV → (Nat → oC) → Prop} : oE d 167 51 [l0, l1, l2, l3] (.inl y :: .inl x :: S) σ Q = if ¬ x = y then oE d 167 58 [l0, l1, l2, l3] S σ Q else oE d 167 54 [l0, l1, l2, l3] S σ Q := oCmpNe f_167_51 (by decide)
theorem f_167_54 : oFet 167 54 = some (.iload_n 2, 1) := by decide +kernel
theorem s_167_54 {d : Nat} {l0 l1 l3 : oV} {x : Int} {S : List oV} {σ : oSg} {Q : Option oV → (Nat → oC) → Prop} : oE d 167 54 [l0, l1, .inl x, l3] S σ Q = oE d 167 55 [l0, l1, .inl x, l3] (.inl x :: S) σ Q := pLdN (k := 2) f_167_54 rfl rfl rfl
theorem f_167_55 : oFet 167 55 = some (.goto 7, 3) := by decide +kernel
theorem s_167_55 {d : Nat} {l0 l1 l2 l3 : oV} {S : List oV} {σ : oSg} {Q : Option oV → (Nat → oC) → Prop} : oE d 167 55 [l0, l1, l2, l3] S σ Q = oE d 167 62 [l0, l1, l2, l3] S σ Q := pGoto f_167_55 (by decide)
theorem f_167_58 : oFet 167 58 = some (.bipush (-10), 2) := by decide +kernel
theorem s_167_58 {d : Nat} {l0 l1 l2 l3 : oV} {S : List oV} {σ : oSg} {Q : Option oV → (Nat → oC) → Prop} : oE d 167 58 [l0, l1, l2, l3] S σ Q = oE d 167 60 [l0, l1, l2, l3] (.inl (-10) :: S) σ Q := pBip f_167_58 (by decide)
theorem f_167_60 : oFet 167 60 = some (.iload_n 1, 1) := by decide +kernel
theorem s_167_60 {d : Nat} {l0 l2 l3 : oV} {x : Int} {S : List oV} {σ : oSg} {Q : Option oV → (Nat → oC) → Prop} : oE d 167 60 [l0, .inl x, l2, l3] S σ Q = oE d 167 61 [l0, .inl x, l2, l3] (.inl x :: S) σ Q := pLdN (k := 1) f_167_60 rfl rfl rfl
theorem f_167_61 : oFet 167 61 = some (.isub, 1) := by decide +kernel
theorem s_167_61 {d : Nat} {l0 l1 l2 l3 : oV} {x y : Int} {S : List oV} {σ : oSg} {Q : Option oV → (Nat → oC) → Prop} : oE d 167 61 [l0, l1, l2, l3] (.inl y :: .inl x :: S) σ Q = oE d 167 62 [l0, l1, l2, l3] (.inl (oSub x y) :: S) σ Q := oS3 f_167_61 rfl rfl rfl
theorem f_167_62 : oFet 167 62 = some (.ireturn, 1) := by decide +kernel
theorem s_167_62 {d : Nat} {l0 l1 l2 l3 : oV} {x : Int} {σ : oSg} {Q : Option oV → (Nat → oC) → Prop} : oE d 167 62 [l0, l1, l2, l3] [.inl x] σ Q = Q (some (.inl x)) (oBld σ) := oIret f_167_62 rt_167
theorem ow_168 : (oMt 168).2.2.2.2.1 = 11 := by decide +kernel
theorem rt_168 : (oMt 168).2.2.2.1 = some .int := by decide +kernel
theorem nl_168 : (oMt 168).2.2.1 = 6 := by decide +kernel
theorem f_168_0 : oFet 168 0 = some (.iconst 0, 1) := by decide +kernel
theorem s_168_0 {d : Nat} {l0 l1 l2 l3 l4 l5 : oV} {S : List oV} {σ : oSg} {Q : Option oV → (Nat → oC) → Prop} : oE d 168 0 [l0, l1, l2, l3, l4, l5] S σ Q = oE d 168 1 [l0, l1, l2, l3, l4, l5] (.inl (0) :: S) σ Q := pKst f_168_0 (by decide)
theorem f_168_1 : oFet 168 1 = some (.istore_n 1, 1) := by decide +kernel
theorem s_168_1 {d : Nat} {l0 l1 l2 l3 l4 l5 : oV} {x : Int} {S : List oV} {σ : oSg} {Q : Option oV → (Nat → oC) → Prop} (c1 : oCat l1 = 1) (c0 : oCat l0 = 1)  : oE d 168 1 [l0, l1, l2, l3, l4, l5] (.inl x :: S) σ Q = oE d 168 2 [l0, .inl x, l2, l3, l4, l5] S σ Q := pSt (i := 1) f_168_1 rfl rfl (show (1 : Nat) < 6 by decide) (oC1n c0) (oC1n c1) rfl
theorem f_168_2 : oFet 168 2 = some (.iconst 0, 1) := by decide +kernel
theorem s_168_2 {d : Nat} {l0 l1 l2 l3 l4 l5 : oV} {S : List oV} {σ : oSg} {Q : Option oV → (Nat → oC) → Prop} : oE d 168 2 [l0, l1, l2, l3, l4, l5] S σ Q = oE d 168 3 [l0, l1, l2, l3, l4, l5] (.inl (0) :: S) σ Q := pKst f_168_2 (by decide)
theorem f_168_3 : oFet 168 3 = some (.istore_n 2, 1) := by decide +kernel
theorem s_168_3 {d : Nat} {l0 l1 l2 l3 l4 l5 : oV} {x : Int} {S : List oV} {σ : oSg} {Q : Option oV → (Nat → oC) → Prop} (c2 : oCat l2 = 1) (c1 : oCat l1 = 1)  : oE d 168 3 [l0, l1, l2, l3, l4, l5] (.inl x :: S) σ Q = oE d 168 4 [l0, l1, .inl x, l3, l4, l5] S σ Q := pSt (i := 2) f_168_3 rfl rfl (show (2 : Nat) < 6 by decide) (oC1n c1) (oC1n c2) rfl
theorem f_168_4 : oFet 168 4 = some (.aload_n 0, 1) := by decide +kernel
theorem s_168_4 {d : Nat} {l1 l2 l3 l4 l5 : oV} {a : Nat} {S : List oV} {σ : oSg} {Q : Option oV → (Nat → oC) → Prop} : oE d 168 4 [.inr (.inr (.inl a)), l1, l2, l3, l4, l5] S σ Q = oE d 168 5 [.inr (.inr (.inl a)), l1, l2, l3, l4, l5] (.inr (.inr (.inl a)) :: S) σ Q := pLdN (k := 0) f_168_4 rfl rfl rfl
theorem f_168_5 : oFet 168 5 = some (.iload_n 1, 1) := by decide +kernel
theorem s_168_5 {d : Nat} {l0 l2 l3 l4 l5 : oV} {x : Int} {S : List oV} {σ : oSg} {Q : Option oV → (Nat → oC) → Prop} : oE d 168 5 [l0, .inl x, l2, l3, l4, l5] S σ Q = oE d 168 6 [l0, .inl x, l2, l3, l4, l5] (.inl x :: S) σ Q := pLdN (k := 1) f_168_5 rfl rfl rfl
theorem f_168_6 : oFet 168 6 = some (.bipush 112, 2) := by decide +kernel
theorem s_168_6 {d : Nat} {l0 l1 l2 l3 l4 l5 : oV} {S : List oV} {σ : oSg} {Q : Option oV → (Nat → oC) → Prop} : oE d 168 6 [l0, l1, l2, l3, l4, l5] S σ Q = oE d 168 8 [l0, l1, l2, l3, l4, l5] (.inl (112) :: S) σ Q := pBip f_168_6 (by decide)
theorem f_168_8 : oFet 168 8 = some (.invokevirtual 119, 3) := by decide +kernel
theorem c_168_8 {d : Nat} {l0 l1 l2 l3 l4 l5 : oV} {x0 x1 : oV} {a : Nat} {v : Option oV} {τ : oSg} {S : List oV} {σ : oSg} {Q : Option oV → (Nat → oC) → Prop} (hm : oMi d 169 [.inr (.inr (.inl a)), x0, x1] σ v τ) (hk : oKd a = some 11) (hs : oSmall S = true) : oE d 168 8 [l0, l1, l2, l3, l4, l5] (x1 :: x0 :: .inr (.inr (.inl a)) :: S) σ Q = oE d 168 11 [l0, l1, l2, l3, l4, l5] (v.toList ++ S) τ Q := pCallV f_168_8 ow_168 lk_11_119 mt_169 rfl rfl rfl hk hs hm
theorem f_168_11 : oFet 168 11 = some (.ifCond .ne 35, 3) := by decide +kernel
theorem s_168_11 {d : Nat} {l0 l1 l2 l3 l4 l5 : oV} {x : Int} {S : List oV} {σ : oSg} {Q : Option oV → (Nat → oC) → Prop} : oE d 168 11 [l0, l1, l2, l3, l4, l5] (.inl x :: S) σ Q = if ¬ x = 0 then oE d 168 46 [l0, l1, l2, l3, l4, l5] S σ Q else oE d 168 14 [l0, l1, l2, l3, l4, l5] S σ Q := oIfNe f_168_11 (by decide)
theorem f_168_14 : oFet 168 14 = some (.aload_n 0, 1) := by decide +kernel
theorem s_168_14 {d : Nat} {l1 l2 l3 l4 l5 : oV} {a : Nat} {S : List oV} {σ : oSg} {Q : Option oV → (Nat → oC) → Prop} : oE d 168 14 [.inr (.inr (.inl a)), l1, l2, l3, l4, l5] S σ Q = oE d 168 15 [.inr (.inr (.inl a)), l1, l2, l3, l4, l5] (.inr (.inr (.inl a)) :: S) σ Q := pLdN (k := 0) f_168_14 rfl rfl rfl
theorem f_168_15 : oFet 168 15 = some (.iload_n 1, 1) := by decide +kernel
theorem s_168_15 {d : Nat} {l0 l2 l3 l4 l5 : oV} {x : Int} {S : List oV} {σ : oSg} {Q : Option oV → (Nat → oC) → Prop} : oE d 168 15 [l0, .inl x, l2, l3, l4, l5] S σ Q = oE d 168 16 [l0, .inl x, l2, l3, l4, l5] (.inl x :: S) σ Q := pLdN (k := 1) f_168_15 rfl rfl rfl
theorem f_168_16 : oFet 168 16 = some (.bipush 119, 2) := by decide +kernel
theorem s_168_16 {d : Nat} {l0 l1 l2 l3 l4 l5 : oV} {S : List oV} {σ : oSg} {Q : Option oV → (Nat → oC) → Prop} : oE d 168 16 [l0, l1, l2, l3, l4, l5] S σ Q = oE d 168 18 [l0, l1, l2, l3, l4, l5] (.inl (119) :: S) σ Q := pBip f_168_16 (by decide)
theorem f_168_18 : oFet 168 18 = some (.invokevirtual 119, 3) := by decide +kernel
theorem c_168_18 {d : Nat} {l0 l1 l2 l3 l4 l5 : oV} {x0 x1 : oV} {a : Nat} {v : Option oV} {τ : oSg} {S : List oV} {σ : oSg} {Q : Option oV → (Nat → oC) → Prop} (hm : oMi d 169 [.inr (.inr (.inl a)), x0, x1] σ v τ) (hk : oKd a = some 11) (hs : oSmall S = true) : oE d 168 18 [l0, l1, l2, l3, l4, l5] (x1 :: x0 :: .inr (.inr (.inl a)) :: S) σ Q = oE d 168 21 [l0, l1, l2, l3, l4, l5] (v.toList ++ S) τ Q := pCallV f_168_18 ow_168 lk_11_119 mt_169 rfl rfl rfl hk hs hm
theorem f_168_21 : oFet 168 21 = some (.ifCond .ne 25, 3) := by decide +kernel
theorem s_168_21 {d : Nat} {l0 l1 l2 l3 l4 l5 : oV} {x : Int} {S : List oV} {σ : oSg} {Q : Option oV → (Nat → oC) → Prop} : oE d 168 21 [l0, l1, l2, l3, l4, l5] (.inl x :: S) σ Q = if ¬ x = 0 then oE d 168 46 [l0, l1, l2, l3, l4, l5] S σ Q else oE d 168 24 [l0, l1, l2, l3, l4, l5] S σ Q := oIfNe f_168_21 (by decide)
theorem f_168_24 : oFet 168 24 = some (.aload_n 0, 1) := by decide +kernel
theorem s_168_24 {d : Nat} {l1 l2 l3 l4 l5 : oV} {a : Nat} {S : List oV} {σ : oSg} {Q : Option oV → (Nat → oC) → Prop} : oE d 168 24 [.inr (.inr (.inl a)), l1, l2, l3, l4, l5] S σ Q = oE d 168 25 [.inr (.inr (.inl a)), l1, l2, l3, l4, l5] (.inr (.inr (.inl a)) :: S) σ Q := pLdN (k := 0) f_168_24 rfl rfl rfl
theorem f_168_25 : oFet 168 25 = some (.iload_n 1, 1) := by decide +kernel
theorem s_168_25 {d : Nat} {l0 l2 l3 l4 l5 : oV} {x : Int} {S : List oV} {σ : oSg} {Q : Option oV → (Nat → oC) → Prop} : oE d 168 25 [l0, .inl x, l2, l3, l4, l5] S σ Q = oE d 168 26 [l0, .inl x, l2, l3, l4, l5] (.inl x :: S) σ Q := pLdN (k := 1) f_168_25 rfl rfl rfl
theorem f_168_26 : oFet 168 26 = some (.bipush 109, 2) := by decide +kernel
theorem s_168_26 {d : Nat} {l0 l1 l2 l3 l4 l5 : oV} {S : List oV} {σ : oSg} {Q : Option oV → (Nat → oC) → Prop} : oE d 168 26 [l0, l1, l2, l3, l4, l5] S σ Q = oE d 168 28 [l0, l1, l2, l3, l4, l5] (.inl (109) :: S) σ Q := pBip f_168_26 (by decide)
theorem f_168_28 : oFet 168 28 = some (.invokevirtual 119, 3) := by decide +kernel
theorem c_168_28 {d : Nat} {l0 l1 l2 l3 l4 l5 : oV} {x0 x1 : oV} {a : Nat} {v : Option oV} {τ : oSg} {S : List oV} {σ : oSg} {Q : Option oV → (Nat → oC) → Prop} (hm : oMi d 169 [.inr (.inr (.inl a)), x0, x1] σ v τ) (hk : oKd a = some 11) (hs : oSmall S = true) : oE d 168 28 [l0, l1, l2, l3, l4, l5] (x1 :: x0 :: .inr (.inr (.inl a)) :: S) σ Q = oE d 168 31 [l0, l1, l2, l3, l4, l5] (v.toList ++ S) τ Q := pCallV f_168_28 ow_168 lk_11_119 mt_169 rfl rfl rfl hk hs hm
theorem f_168_31 : oFet 168 31 = some (.ifCond .ne 15, 3) := by decide +kernel
theorem s_168_31 {d : Nat} {l0 l1 l2 l3 l4 l5 : oV} {x : Int} {S : List oV} {σ : oSg} {Q : Option oV → (Nat → oC) → Prop} : oE d 168 31 [l0, l1, l2, l3, l4, l5] (.inl x :: S) σ Q = if ¬ x = 0 then oE d 168 46 [l0, l1, l2, l3, l4, l5] S σ Q else oE d 168 34 [l0, l1, l2, l3, l4, l5] S σ Q := oIfNe f_168_31 (by decide)
theorem f_168_34 : oFet 168 34 = some (.aload_n 0, 1) := by decide +kernel
theorem s_168_34 {d : Nat} {l1 l2 l3 l4 l5 : oV} {a : Nat} {S : List oV} {σ : oSg} {Q : Option oV → (Nat → oC) → Prop} : oE d 168 34 [.inr (.inr (.inl a)), l1, l2, l3, l4, l5] S σ Q = oE d 168 35 [.inr (.inr (.inl a)), l1, l2, l3, l4, l5] (.inr (.inr (.inl a)) :: S) σ Q := pLdN (k := 0) f_168_34 rfl rfl rfl
theorem f_168_35 : oFet 168 35 = some (.iload_n 1, 1) := by decide +kernel
theorem s_168_35 {d : Nat} {l0 l2 l3 l4 l5 : oV} {x : Int} {S : List oV} {σ : oSg} {Q : Option oV → (Nat → oC) → Prop} : oE d 168 35 [l0, .inl x, l2, l3, l4, l5] S σ Q = oE d 168 36 [l0, .inl x, l2, l3, l4, l5] (.inl x :: S) σ Q := pLdN (k := 1) f_168_35 rfl rfl rfl
theorem f_168_36 : oFet 168 36 = some (.bipush 104, 2) := by decide +kernel
theorem s_168_36 {d : Nat} {l0 l1 l2 l3 l4 l5 : oV} {S : List oV} {σ : oSg} {Q : Option oV → (Nat → oC) → Prop} : oE d 168 36 [l0, l1, l2, l3, l4, l5] S σ Q = oE d 168 38 [l0, l1, l2, l3, l4, l5] (.inl (104) :: S) σ Q := pBip f_168_36 (by decide)
theorem f_168_38 : oFet 168 38 = some (.invokevirtual 119, 3) := by decide +kernel
theorem c_168_38 {d : Nat} {l0 l1 l2 l3 l4 l5 : oV} {x0 x1 : oV} {a : Nat} {v : Option oV} {τ : oSg} {S : List oV} {σ : oSg} {Q : Option oV → (Nat → oC) → Prop} (hm : oMi d 169 [.inr (.inr (.inl a)), x0, x1] σ v τ) (hk : oKd a = some 11) (hs : oSmall S = true) : oE d 168 38 [l0, l1, l2, l3, l4, l5] (x1 :: x0 :: .inr (.inr (.inl a)) :: S) σ Q = oE d 168 41 [l0, l1, l2, l3, l4, l5] (v.toList ++ S) τ Q := pCallV f_168_38 ow_168 lk_11_119 mt_169 rfl rfl rfl hk hs hm
theorem f_168_41 : oFet 168 41 = some (.ifCond .ne 5, 3) := by decide +kernel
theorem s_168_41 {d : Nat} {l0 l1 l2 l3 l4 l5 : oV} {x : Int} {S : List oV} {σ : oSg} {Q : Option oV → (Nat → oC) → Prop} : oE d 168 41 [l0, l1, l2, l3, l4, l5] (.inl x :: S) σ Q = if ¬ x = 0 then oE d 168 46 [l0, l1, l2, l3, l4, l5] S σ Q else oE d 168 44 [l0, l1, l2, l3, l4, l5] S σ Q := oIfNe f_168_41 (by decide)
theorem f_168_44 : oFet 168 44 = some (.iload_n 1, 1) := by decide +kernel
theorem s_168_44 {d : Nat} {l0 l2 l3 l4 l5 : oV} {x : Int} {S : List oV} {σ : oSg} {Q : Option oV → (Nat → oC) → Prop} : oE d 168 44 [l0, .inl x, l2, l3, l4, l5] S σ Q = oE d 168 45 [l0, .inl x, l2, l3, l4, l5] (.inl x :: S) σ Q := pLdN (k := 1) f_168_44 rfl rfl rfl
theorem f_168_45 : oFet 168 45 = some (.ireturn, 1) := by decide +kernel
theorem s_168_45 {d : Nat} {l0 l1 l2 l3 l4 l5 : oV} {x : Int} {σ : oSg} {Q : Option oV → (Nat → oC) → Prop} : oE d 168 45 [l0, l1, l2, l3, l4, l5] [.inl x] σ Q = Q (some (.inl x)) (oBld σ) := oIret f_168_45 rt_168
theorem f_168_46 : oFet 168 46 = some (.aload_n 0, 1) := by decide +kernel
theorem s_168_46 {d : Nat} {l1 l2 l3 l4 l5 : oV} {a : Nat} {S : List oV} {σ : oSg} {Q : Option oV → (Nat → oC) → Prop} : oE d 168 46 [.inr (.inr (.inl a)), l1, l2, l3, l4, l5] S σ Q = oE d 168 47 [.inr (.inr (.inl a)), l1, l2, l3, l4, l5] (.inr (.inr (.inl a)) :: S) σ Q := pLdN (k := 0) f_168_46 rfl rfl rfl
theorem f_168_47 : oFet 168 47 = some (.getfield 24, 3) := by decide +kernel
theorem s_168_47 {d : Nat} {l0 l1 l2 l3 l4 l5 : oV} {a : Nat} {S : List oV} {σ : oSg} {Q : Option oV → (Nat → oC) → Prop} (hk : oKd a = some 11) : oE d 168 47 [l0, l1, l2, l3, l4, l5] (.inr (.inr (.inl a)) :: S) σ Q = oE d 168 50 [l0, l1, l2, l3, l4, l5] (.inr (.inr (.inl (oRf a 5))) :: S) σ Q := pGfR f_168_47 ow_168 fl_11_24 rfl (by decide) hk
theorem f_168_50 : oFet 168 50 = some (.iload_n 2, 1) := by decide +kernel
theorem s_168_50 {d : Nat} {l0 l1 l3 l4 l5 : oV} {x : Int} {S : List oV} {σ : oSg} {Q : Option oV → (Nat → oC) → Prop} : oE d 168 50 [l0, l1, .inl x, l3, l4, l5] S σ Q = oE d 168 51 [l0, l1, .inl x, l3, l4, l5] (.inl x :: S) σ Q := pLdN (k := 2) f_168_50 rfl rfl rfl
theorem f_168_51 : oFet 168 51 = some (.iload_n 1, 1) := by decide +kernel
theorem s_168_51 {d : Nat} {l0 l2 l3 l4 l5 : oV} {x : Int} {S : List oV} {σ : oSg} {Q : Option oV → (Nat → oC) → Prop} : oE d 168 51 [l0, .inl x, l2, l3, l4, l5] S σ Q = oE d 168 52 [l0, .inl x, l2, l3, l4, l5] (.inl x :: S) σ Q := pLdN (k := 1) f_168_51 rfl rfl rfl
theorem f_168_52 : oFet 168 52 = some (.iastore, 1) := by decide +kernel
theorem s_168_52 {d : Nat} {l0 l1 l2 l3 l4 l5 : oV} {a : Nat} {i v : Int} {S : List oV} {σ : oSg} {Q : Option oV → (Nat → oC) → Prop} (hk : oAk a = some 0) (h0 : 0 ≤ i) (h1 : i < (oLn a : Int)) : oE d 168 52 [l0, l1, l2, l3, l4, l5] (.inl v :: .inl i :: .inr (.inr (.inl a)) :: S) σ Q = oE d 168 53 [l0, l1, l2, l3, l4, l5] S (oSA σ a i.toNat v) Q := oIas f_168_52 hk h0 h1
theorem f_168_53 : oFet 168 53 = some (.iinc 2 1, 3) := by decide +kernel
theorem s_168_53 {d : Nat} {l0 l1 l3 l4 l5 : oV} {x : Int} {S : List oV} {σ : oSg} {Q : Option oV → (Nat → oC) → Prop} (c1 : oCat l1 = 1)  : oE d 168 53 [l0, l1, .inl x, l3, l4, l5] S σ Q = oE d 168 56 [l0, l1, .inl (oAdd x (1)), l3, l4, l5] S σ Q := pInc f_168_53 rfl (show (2 : Nat) < 6 by decide) (oC1n c1) (oC1n (v := .inl x) rfl) rfl
theorem f_168_56 : oFet 168 56 = some (.aload_n 0, 1) := by decide +kernel
theorem s_168_56 {d : Nat} {l1 l2 l3 l4 l5 : oV} {a : Nat} {S : List oV} {σ : oSg} {Q : Option oV → (Nat → oC) → Prop} : oE d 168 56 [.inr (.inr (.inl a)), l1, l2, l3, l4, l5] S σ Q = oE d 168 57 [.inr (.inr (.inl a)), l1, l2, l3, l4, l5] (.inr (.inr (.inl a)) :: S) σ Q := pLdN (k := 0) f_168_56 rfl rfl rfl
theorem f_168_57 : oFet 168 57 = some (.getfield 21, 3) := by decide +kernel
theorem s_168_57 {d : Nat} {l0 l1 l2 l3 l4 l5 : oV} {a : Nat} {S : List oV} {σ : oSg} {Q : Option oV → (Nat → oC) → Prop} (hk : oKd a = some 11) : oE d 168 57 [l0, l1, l2, l3, l4, l5] (.inr (.inr (.inl a)) :: S) σ Q = oE d 168 60 [l0, l1, l2, l3, l4, l5] (.inr (.inr (.inl (oRf a 4))) :: S) σ Q := pGfR f_168_57 ow_168 fl_11_21 rfl (by decide) hk
theorem f_168_60 : oFet 168 60 = some (.iload_n 1, 1) := by decide +kernel
theorem s_168_60 {d : Nat} {l0 l2 l3 l4 l5 : oV} {x : Int} {S : List oV} {σ : oSg} {Q : Option oV → (Nat → oC) → Prop} : oE d 168 60 [l0, .inl x, l2, l3, l4, l5] S σ Q = oE d 168 61 [l0, .inl x, l2, l3, l4, l5] (.inl x :: S) σ Q := pLdN (k := 1) f_168_60 rfl rfl rfl
theorem f_168_61 : oFet 168 61 = some (.iaload, 1) := by decide +kernel
theorem s_168_61 {d : Nat} {l0 l1 l2 l3 l4 l5 : oV} {a : Nat} {i : Int} {S : List oV} {σ : oSg} {Q : Option oV → (Nat → oC) → Prop} (hk : oAk a = some 0) (h0 : 0 ≤ i) (h1 : i < (oLn a : Int)) : oE d 168 61 [l0, l1, l2, l3, l4, l5] (.inl i :: .inr (.inr (.inl a)) :: S) σ Q = oE d 168 62 [l0, l1, l2, l3, l4, l5] (.inl (σ.2 a i.toNat) :: S) σ Q := oIal f_168_61 hk h0 h1
theorem f_168_62 : oFet 168 62 = some (.bipush 112, 2) := by decide +kernel
theorem s_168_62 {d : Nat} {l0 l1 l2 l3 l4 l5 : oV} {S : List oV} {σ : oSg} {Q : Option oV → (Nat → oC) → Prop} : oE d 168 62 [l0, l1, l2, l3, l4, l5] S σ Q = oE d 168 64 [l0, l1, l2, l3, l4, l5] (.inl (112) :: S) σ Q := pBip f_168_62 (by decide)
theorem f_168_64 : oFet 168 64 = some (.if_icmp .ne 7, 3) := by decide +kernel
theorem s_168_64 {d : Nat} {l0 l1 l2 l3 l4 l5 : oV} {x y : Int} {S : List oV} {σ : oSg} {Q : Option oV → (Nat → oC) → Prop} : oE d 168 64 [l0, l1, l2, l3, l4, l5] (.inl y :: .inl x :: S) σ Q = if ¬ x = y then oE d 168 71 [l0, l1, l2, l3, l4, l5] S σ Q else oE d 168 67 [l0, l1, l2, l3, l4, l5] S σ Q := oCmpNe f_168_64 (by decide)
theorem f_168_67 : oFet 168 67 = some (.iconst 0, 1) := by decide +kernel
theorem s_168_67 {d : Nat} {l0 l1 l2 l3 l4 l5 : oV} {S : List oV} {σ : oSg} {Q : Option oV → (Nat → oC) → Prop} : oE d 168 67 [l0, l1, l2, l3, l4, l5] S σ Q = oE d 168 68 [l0, l1, l2, l3, l4, l5] (.inl (0) :: S) σ Q := pKst f_168_67 (by decide)
theorem f_168_68 : oFet 168 68 = some (.goto 19, 3) := by decide +kernel
theorem s_168_68 {d : Nat} {l0 l1 l2 l3 l4 l5 : oV} {S : List oV} {σ : oSg} {Q : Option oV → (Nat → oC) → Prop} : oE d 168 68 [l0, l1, l2, l3, l4, l5] S σ Q = oE d 168 87 [l0, l1, l2, l3, l4, l5] S σ Q := pGoto f_168_68 (by decide)
theorem f_168_71 : oFet 168 71 = some (.aload_n 0, 1) := by decide +kernel
theorem s_168_71 {d : Nat} {l1 l2 l3 l4 l5 : oV} {a : Nat} {S : List oV} {σ : oSg} {Q : Option oV → (Nat → oC) → Prop} : oE d 168 71 [.inr (.inr (.inl a)), l1, l2, l3, l4, l5] S σ Q = oE d 168 72 [.inr (.inr (.inl a)), l1, l2, l3, l4, l5] (.inr (.inr (.inl a)) :: S) σ Q := pLdN (k := 0) f_168_71 rfl rfl rfl
theorem f_168_72 : oFet 168 72 = some (.getfield 21, 3) := by decide +kernel
theorem s_168_72 {d : Nat} {l0 l1 l2 l3 l4 l5 : oV} {a : Nat} {S : List oV} {σ : oSg} {Q : Option oV → (Nat → oC) → Prop} (hk : oKd a = some 11) : oE d 168 72 [l0, l1, l2, l3, l4, l5] (.inr (.inr (.inl a)) :: S) σ Q = oE d 168 75 [l0, l1, l2, l3, l4, l5] (.inr (.inr (.inl (oRf a 4))) :: S) σ Q := pGfR f_168_72 ow_168 fl_11_21 rfl (by decide) hk
theorem f_168_75 : oFet 168 75 = some (.iload_n 1, 1) := by decide +kernel
theorem s_168_75 {d : Nat} {l0 l2 l3 l4 l5 : oV} {x : Int} {S : List oV} {σ : oSg} {Q : Option oV → (Nat → oC) → Prop} : oE d 168 75 [l0, .inl x, l2, l3, l4, l5] S σ Q = oE d 168 76 [l0, .inl x, l2, l3, l4, l5] (.inl x :: S) σ Q := pLdN (k := 1) f_168_75 rfl rfl rfl
theorem f_168_76 : oFet 168 76 = some (.iaload, 1) := by decide +kernel
theorem s_168_76 {d : Nat} {l0 l1 l2 l3 l4 l5 : oV} {a : Nat} {i : Int} {S : List oV} {σ : oSg} {Q : Option oV → (Nat → oC) → Prop} (hk : oAk a = some 0) (h0 : 0 ≤ i) (h1 : i < (oLn a : Int)) : oE d 168 76 [l0, l1, l2, l3, l4, l5] (.inl i :: .inr (.inr (.inl a)) :: S) σ Q = oE d 168 77 [l0, l1, l2, l3, l4, l5] (.inl (σ.2 a i.toNat) :: S) σ Q := oIal f_168_76 hk h0 h1
theorem f_168_77 : oFet 168 77 = some (.bipush 119, 2) := by decide +kernel
theorem s_168_77 {d : Nat} {l0 l1 l2 l3 l4 l5 : oV} {S : List oV} {σ : oSg} {Q : Option oV → (Nat → oC) → Prop} : oE d 168 77 [l0, l1, l2, l3, l4, l5] S σ Q = oE d 168 79 [l0, l1, l2, l3, l4, l5] (.inl (119) :: S) σ Q := pBip f_168_77 (by decide)
theorem f_168_79 : oFet 168 79 = some (.if_icmp .ne 7, 3) := by decide +kernel
theorem s_168_79 {d : Nat} {l0 l1 l2 l3 l4 l5 : oV} {x y : Int} {S : List oV} {σ : oSg} {Q : Option oV → (Nat → oC) → Prop} : oE d 168 79 [l0, l1, l2, l3, l4, l5] (.inl y :: .inl x :: S) σ Q = if ¬ x = y then oE d 168 86 [l0, l1, l2, l3, l4, l5] S σ Q else oE d 168 82 [l0, l1, l2, l3, l4, l5] S σ Q := oCmpNe f_168_79 (by decide)
theorem f_168_82 : oFet 168 82 = some (.iconst 3, 1) := by decide +kernel
theorem s_168_82 {d : Nat} {l0 l1 l2 l3 l4 l5 : oV} {S : List oV} {σ : oSg} {Q : Option oV → (Nat → oC) → Prop} : oE d 168 82 [l0, l1, l2, l3, l4, l5] S σ Q = oE d 168 83 [l0, l1, l2, l3, l4, l5] (.inl (3) :: S) σ Q := pKst f_168_82 (by decide)
theorem f_168_83 : oFet 168 83 = some (.goto 4, 3) := by decide +kernel
theorem s_168_83 {d : Nat} {l0 l1 l2 l3 l4 l5 : oV} {S : List oV} {σ : oSg} {Q : Option oV → (Nat → oC) → Prop} : oE d 168 83 [l0, l1, l2, l3, l4, l5] S σ Q = oE d 168 87 [l0, l1, l2, l3, l4, l5] S σ Q := pGoto f_168_83 (by decide)
theorem f_168_86 : oFet 168 86 = some (.iconst 2, 1) := by decide +kernel
theorem s_168_86 {d : Nat} {l0 l1 l2 l3 l4 l5 : oV} {S : List oV} {σ : oSg} {Q : Option oV → (Nat → oC) → Prop} : oE d 168 86 [l0, l1, l2, l3, l4, l5] S σ Q = oE d 168 87 [l0, l1, l2, l3, l4, l5] (.inl (2) :: S) σ Q := pKst f_168_86 (by decide)
theorem f_168_87 : oFet 168 87 = some (.istore_n 3, 1) := by decide +kernel
theorem s_168_87 {d : Nat} {l0 l1 l2 l3 l4 l5 : oV} {x : Int} {S : List oV} {σ : oSg} {Q : Option oV → (Nat → oC) → Prop} (c3 : oCat l3 = 1) (c2 : oCat l2 = 1)  : oE d 168 87 [l0, l1, l2, l3, l4, l5] (.inl x :: S) σ Q = oE d 168 88 [l0, l1, l2, .inl x, l4, l5] S σ Q := pSt (i := 3) f_168_87 rfl rfl (show (3 : Nat) < 6 by decide) (oC1n c2) (oC1n c3) rfl
theorem f_168_88 : oFet 168 88 = some (.aload_n 0, 1) := by decide +kernel
theorem s_168_88 {d : Nat} {l1 l2 l3 l4 l5 : oV} {a : Nat} {S : List oV} {σ : oSg} {Q : Option oV → (Nat → oC) → Prop} : oE d 168 88 [.inr (.inr (.inl a)), l1, l2, l3, l4, l5] S σ Q = oE d 168 89 [.inr (.inr (.inl a)), l1, l2, l3, l4, l5] (.inr (.inr (.inl a)) :: S) σ Q := pLdN (k := 0) f_168_88 rfl rfl rfl
theorem f_168_89 : oFet 168 89 = some (.getfield 21, 3) := by decide +kernel
theorem s_168_89 {d : Nat} {l0 l1 l2 l3 l4 l5 : oV} {a : Nat} {S : List oV} {σ : oSg} {Q : Option oV → (Nat → oC) → Prop} (hk : oKd a = some 11) : oE d 168 89 [l0, l1, l2, l3, l4, l5] (.inr (.inr (.inl a)) :: S) σ Q = oE d 168 92 [l0, l1, l2, l3, l4, l5] (.inr (.inr (.inl (oRf a 4))) :: S) σ Q := pGfR f_168_89 ow_168 fl_11_21 rfl (by decide) hk
theorem f_168_92 : oFet 168 92 = some (.iload_n 1, 1) := by decide +kernel
theorem s_168_92 {d : Nat} {l0 l2 l3 l4 l5 : oV} {x : Int} {S : List oV} {σ : oSg} {Q : Option oV → (Nat → oC) → Prop} : oE d 168 92 [l0, .inl x, l2, l3, l4, l5] S σ Q = oE d 168 93 [l0, .inl x, l2, l3, l4, l5] (.inl x :: S) σ Q := pLdN (k := 1) f_168_92 rfl rfl rfl
theorem f_168_93 : oFet 168 93 = some (.iaload, 1) := by decide +kernel
theorem s_168_93 {d : Nat} {l0 l1 l2 l3 l4 l5 : oV} {a : Nat} {i : Int} {S : List oV} {σ : oSg} {Q : Option oV → (Nat → oC) → Prop} (hk : oAk a = some 0) (h0 : 0 ≤ i) (h1 : i < (oLn a : Int)) : oE d 168 93 [l0, l1, l2, l3, l4, l5] (.inl i :: .inr (.inr (.inl a)) :: S) σ Q = oE d 168 94 [l0, l1, l2, l3, l4, l5] (.inl (σ.2 a i.toNat) :: S) σ Q := oIal f_168_93 hk h0 h1
theorem f_168_94 : oFet 168 94 = some (.bipush 119, 2) := by decide +kernel
theorem s_168_94 {d : Nat} {l0 l1 l2 l3 l4 l5 : oV} {S : List oV} {σ : oSg} {Q : Option oV → (Nat → oC) → Prop} : oE d 168 94 [l0, l1, l2, l3, l4, l5] S σ Q = oE d 168 96 [l0, l1, l2, l3, l4, l5] (.inl (119) :: S) σ Q := pBip f_168_94 (by decide)
theorem f_168_96 : oFet 168 96 = some (.if_icmp .eq 14, 3) := by decide +kernel
theorem s_168_96 {d : Nat} {l0 l1 l2 l3 l4 l5 : oV} {x y : Int} {S : List oV} {σ : oSg} {Q : Option oV → (Nat → oC) → Prop} : oE d 168 96 [l0, l1, l2, l3, l4, l5] (.inl y :: .inl x :: S) σ Q = if x = y then oE d 168 110 [l0, l1, l2, l3, l4, l5] S σ Q else oE d 168 99 [l0, l1, l2, l3, l4, l5] S σ Q := oCmpEq f_168_96 (by decide)
theorem f_168_99 : oFet 168 99 = some (.aload_n 0, 1) := by decide +kernel
theorem s_168_99 {d : Nat} {l1 l2 l3 l4 l5 : oV} {a : Nat} {S : List oV} {σ : oSg} {Q : Option oV → (Nat → oC) → Prop} : oE d 168 99 [.inr (.inr (.inl a)), l1, l2, l3, l4, l5] S σ Q = oE d 168 100 [.inr (.inr (.inl a)), l1, l2, l3, l4, l5] (.inr (.inr (.inl a)) :: S) σ Q := pLdN (k := 0) f_168_99 rfl rfl rfl
theorem f_168_100 : oFet 168 100 = some (.getfield 21, 3) := by decide +kernel
theorem s_168_100 {d : Nat} {l0 l1 l2 l3 l4 l5 : oV} {a : Nat} {S : List oV} {σ : oSg} {Q : Option oV → (Nat → oC) → Prop} (hk : oKd a = some 11) : oE d 168 100 [l0, l1, l2, l3, l4, l5] (.inr (.inr (.inl a)) :: S) σ Q = oE d 168 103 [l0, l1, l2, l3, l4, l5] (.inr (.inr (.inl (oRf a 4))) :: S) σ Q := pGfR f_168_100 ow_168 fl_11_21 rfl (by decide) hk
theorem f_168_103 : oFet 168 103 = some (.iload_n 1, 1) := by decide +kernel
theorem s_168_103 {d : Nat} {l0 l2 l3 l4 l5 : oV} {x : Int} {S : List oV} {σ : oSg} {Q : Option oV → (Nat → oC) → Prop} : oE d 168 103 [l0, .inl x, l2, l3, l4, l5] S σ Q = oE d 168 104 [l0, .inl x, l2, l3, l4, l5] (.inl x :: S) σ Q := pLdN (k := 1) f_168_103 rfl rfl rfl
theorem f_168_104 : oFet 168 104 = some (.iaload, 1) := by decide +kernel
theorem s_168_104 {d : Nat} {l0 l1 l2 l3 l4 l5 : oV} {a : Nat} {i : Int} {S : List oV} {σ : oSg} {Q : Option oV → (Nat → oC) → Prop} (hk : oAk a = some 0) (h0 : 0 ≤ i) (h1 : i < (oLn a : Int)) : oE d 168 104 [l0, l1, l2, l3, l4, l5] (.inl i :: .inr (.inr (.inl a)) :: S) σ Q = oE d 168 105 [l0, l1, l2, l3, l4, l5] (.inl (σ.2 a i.toNat) :: S) σ Q := oIal f_168_104 hk h0 h1
theorem f_168_105 : oFet 168 105 = some (.bipush 104, 2) := by decide +kernel
theorem s_168_105 {d : Nat} {l0 l1 l2 l3 l4 l5 : oV} {S : List oV} {σ : oSg} {Q : Option oV → (Nat → oC) → Prop} : oE d 168 105 [l0, l1, l2, l3, l4, l5] S σ Q = oE d 168 107 [l0, l1, l2, l3, l4, l5] (.inl (104) :: S) σ Q := pBip f_168_105 (by decide)
theorem f_168_107 : oFet 168 107 = some (.if_icmp .ne 7, 3) := by decide +kernel
theorem s_168_107 {d : Nat} {l0 l1 l2 l3 l4 l5 : oV} {x y : Int} {S : List oV} {σ : oSg} {Q : Option oV → (Nat → oC) → Prop} : oE d 168 107 [l0, l1, l2, l3, l4, l5] (.inl y :: .inl x :: S) σ Q = if ¬ x = y then oE d 168 114 [l0, l1, l2, l3, l4, l5] S σ Q else oE d 168 110 [l0, l1, l2, l3, l4, l5] S σ Q := oCmpNe f_168_107 (by decide)
theorem f_168_110 : oFet 168 110 = some (.iconst 1, 1) := by decide +kernel
theorem s_168_110 {d : Nat} {l0 l1 l2 l3 l4 l5 : oV} {S : List oV} {σ : oSg} {Q : Option oV → (Nat → oC) → Prop} : oE d 168 110 [l0, l1, l2, l3, l4, l5] S σ Q = oE d 168 111 [l0, l1, l2, l3, l4, l5] (.inl (1) :: S) σ Q := pKst f_168_110 (by decide)
theorem f_168_111 : oFet 168 111 = some (.goto 4, 3) := by decide +kernel
theorem s_168_111 {d : Nat} {l0 l1 l2 l3 l4 l5 : oV} {S : List oV} {σ : oSg} {Q : Option oV → (Nat → oC) → Prop} : oE d 168 111 [l0, l1, l2, l3, l4, l5] S σ Q = oE d 168 115 [l0, l1, l2, l3, l4, l5] S σ Q := pGoto f_168_111 (by decide)
theorem f_168_114 : oFet 168 114 = some (.iconst 0, 1) := by decide +kernel
theorem s_168_114 {d : Nat} {l0 l1 l2 l3 l4 l5 : oV} {S : List oV} {σ : oSg} {Q : Option oV → (Nat → oC) → Prop} : oE d 168 114 [l0, l1, l2, l3, l4, l5] S σ Q = oE d 168 115 [l0, l1, l2, l3, l4, l5] (.inl (0) :: S) σ Q := pKst f_168_114 (by decide)
theorem f_168_115 : oFet 168 115 = some (.istore 4, 2) := by decide +kernel
theorem s_168_115 {d : Nat} {l0 l1 l2 l3 l4 l5 : oV} {x : Int} {S : List oV} {σ : oSg} {Q : Option oV → (Nat → oC) → Prop} (c4 : oCat l4 = 1) (c3 : oCat l3 = 1)  : oE d 168 115 [l0, l1, l2, l3, l4, l5] (.inl x :: S) σ Q = oE d 168 117 [l0, l1, l2, l3, .inl x, l5] S σ Q := pSt (i := 4) f_168_115 rfl rfl (show (4 : Nat) < 6 by decide) (oC1n c3) (oC1n c4) rfl
theorem f_168_117 : oFet 168 117 = some (.iinc 1 1, 3) := by decide +kernel
theorem s_168_117 {d : Nat} {l0 l2 l3 l4 l5 : oV} {x : Int} {S : List oV} {σ : oSg} {Q : Option oV → (Nat → oC) → Prop} (c0 : oCat l0 = 1)  : oE d 168 117 [l0, .inl x, l2, l3, l4, l5] S σ Q = oE d 168 120 [l0, .inl (oAdd x (1)), l2, l3, l4, l5] S σ Q := pInc f_168_117 rfl (show (1 : Nat) < 6 by decide) (oC1n c0) (oC1n (v := .inl x) rfl) rfl
theorem f_168_120 : oFet 168 120 = some (.iconst 0, 1) := by decide +kernel
theorem s_168_120 {d : Nat} {l0 l1 l2 l3 l4 l5 : oV} {S : List oV} {σ : oSg} {Q : Option oV → (Nat → oC) → Prop} : oE d 168 120 [l0, l1, l2, l3, l4, l5] S σ Q = oE d 168 121 [l0, l1, l2, l3, l4, l5] (.inl (0) :: S) σ Q := pKst f_168_120 (by decide)
theorem f_168_121 : oFet 168 121 = some (.istore 5, 2) := by decide +kernel
theorem s_168_121 {d : Nat} {l0 l1 l2 l3 l4 l5 : oV} {x : Int} {S : List oV} {σ : oSg} {Q : Option oV → (Nat → oC) → Prop} (c5 : oCat l5 = 1) (c4 : oCat l4 = 1)  : oE d 168 121 [l0, l1, l2, l3, l4, l5] (.inl x :: S) σ Q = oE d 168 123 [l0, l1, l2, l3, l4, .inl x] S σ Q := pSt (i := 5) f_168_121 rfl rfl (show (5 : Nat) < 6 by decide) (oC1n c4) (oC1n c5) rfl
theorem f_168_123 : oFet 168 123 = some (.iload 5, 2) := by decide +kernel
theorem s_168_123 {d : Nat} {l0 l1 l2 l3 l4 : oV} {x : Int} {S : List oV} {σ : oSg} {Q : Option oV → (Nat → oC) → Prop} : oE d 168 123 [l0, l1, l2, l3, l4, .inl x] S σ Q = oE d 168 125 [l0, l1, l2, l3, l4, .inl x] (.inl x :: S) σ Q := pLd (i := 5) f_168_123 rfl rfl rfl
theorem f_168_125 : oFet 168 125 = some (.iload_n 3, 1) := by decide +kernel
theorem s_168_125 {d : Nat} {l0 l1 l2 l4 l5 : oV} {x : Int} {S : List oV} {σ : oSg} {Q : Option oV → (Nat → oC) → Prop} : oE d 168 125 [l0, l1, l2, .inl x, l4, l5] S σ Q = oE d 168 126 [l0, l1, l2, .inl x, l4, l5] (.inl x :: S) σ Q := pLdN (k := 3) f_168_125 rfl rfl rfl
theorem f_168_126 : oFet 168 126 = some (.if_icmp .ge 22, 3) := by decide +kernel
theorem s_168_126 {d : Nat} {l0 l1 l2 l3 l4 l5 : oV} {x y : Int} {S : List oV} {σ : oSg} {Q : Option oV → (Nat → oC) → Prop} : oE d 168 126 [l0, l1, l2, l3, l4, l5] (.inl y :: .inl x :: S) σ Q = if y ≤ x then oE d 168 148 [l0, l1, l2, l3, l4, l5] S σ Q else oE d 168 129 [l0, l1, l2, l3, l4, l5] S σ Q := oCmpGe f_168_126 (by decide)
theorem f_168_129 : oFet 168 129 = some (.aload_n 0, 1) := by decide +kernel
theorem s_168_129 {d : Nat} {l1 l2 l3 l4 l5 : oV} {a : Nat} {S : List oV} {σ : oSg} {Q : Option oV → (Nat → oC) → Prop} : oE d 168 129 [.inr (.inr (.inl a)), l1, l2, l3, l4, l5] S σ Q = oE d 168 130 [.inr (.inr (.inl a)), l1, l2, l3, l4, l5] (.inr (.inr (.inl a)) :: S) σ Q := pLdN (k := 0) f_168_129 rfl rfl rfl
theorem f_168_130 : oFet 168 130 = some (.iload_n 1, 1) := by decide +kernel
theorem s_168_130 {d : Nat} {l0 l2 l3 l4 l5 : oV} {x : Int} {S : List oV} {σ : oSg} {Q : Option oV → (Nat → oC) → Prop} : oE d 168 130 [l0, .inl x, l2, l3, l4, l5] S σ Q = oE d 168 131 [l0, .inl x, l2, l3, l4, l5] (.inl x :: S) σ Q := pLdN (k := 1) f_168_130 rfl rfl rfl
theorem f_168_131 : oFet 168 131 = some (.invokevirtual 122, 3) := by decide +kernel
theorem c_168_131 {d : Nat} {l0 l1 l2 l3 l4 l5 : oV} {x0 : oV} {a : Nat} {v : Option oV} {τ : oSg} {S : List oV} {σ : oSg} {Q : Option oV → (Nat → oC) → Prop} (hm : oMi d 170 [.inr (.inr (.inl a)), x0] σ v τ) (hk : oKd a = some 11) (hs : oSmall S = true) : oE d 168 131 [l0, l1, l2, l3, l4, l5] (x0 :: .inr (.inr (.inl a)) :: S) σ Q = oE d 168 134 [l0, l1, l2, l3, l4, l5] (v.toList ++ S) τ Q := pCallV f_168_131 ow_168 lk_11_122 mt_170 rfl rfl rfl hk hs hm
theorem f_168_134 : oFet 168 134 = some (.ifCond .ne 5, 3) := by decide +kernel
theorem s_168_134 {d : Nat} {l0 l1 l2 l3 l4 l5 : oV} {x : Int} {S : List oV} {σ : oSg} {Q : Option oV → (Nat → oC) → Prop} : oE d 168 134 [l0, l1, l2, l3, l4, l5] (.inl x :: S) σ Q = if ¬ x = 0 then oE d 168 139 [l0, l1, l2, l3, l4, l5] S σ Q else oE d 168 137 [l0, l1, l2, l3, l4, l5] S σ Q := oIfNe f_168_134 (by decide)
theorem f_168_137 : oFet 168 137 = some (.iload_n 1, 1) := by decide +kernel
theorem s_168_137 {d : Nat} {l0 l2 l3 l4 l5 : oV} {x : Int} {S : List oV} {σ : oSg} {Q : Option oV → (Nat → oC) → Prop} : oE d 168 137 [l0, .inl x, l2, l3, l4, l5] S σ Q = oE d 168 138 [l0, .inl x, l2, l3, l4, l5] (.inl x :: S) σ Q := pLdN (k := 1) f_168_137 rfl rfl rfl
theorem f_168_138 : oFet 168 138 = some (.ireturn, 1) := by decide +kernel
theorem s_168_138 {d : Nat} {l0 l1 l2 l3 l4 l5 : oV} {x : Int} {σ : oSg} {Q : Option oV → (Nat → oC) → Prop} : oE d 168 138 [l0, l1, l2, l3, l4, l5] [.inl x] σ Q = Q (some (.inl x)) (oBld σ) := oIret f_168_138 rt_168
theorem f_168_139 : oFet 168 139 = some (.iinc 1 1, 3) := by decide +kernel
theorem s_168_139 {d : Nat} {l0 l2 l3 l4 l5 : oV} {x : Int} {S : List oV} {σ : oSg} {Q : Option oV → (Nat → oC) → Prop} (c0 : oCat l0 = 1)  : oE d 168 139 [l0, .inl x, l2, l3, l4, l5] S σ Q = oE d 168 142 [l0, .inl (oAdd x (1)), l2, l3, l4, l5] S σ Q := pInc f_168_139 rfl (show (1 : Nat) < 6 by decide) (oC1n c0) (oC1n (v := .inl x) rfl) rfl
theorem f_168_142 : oFet 168 142 = some (.iinc 5 1, 3) := by decide +kernel
theorem s_168_142 {d : Nat} {l0 l1 l2 l3 l4 : oV} {x : Int} {S : List oV} {σ : oSg} {Q : Option oV → (Nat → oC) → Prop} (c4 : oCat l4 = 1)  : oE d 168 142 [l0, l1, l2, l3, l4, .inl x] S σ Q = oE d 168 145 [l0, l1, l2, l3, l4, .inl (oAdd x (1))] S σ Q := pInc f_168_142 rfl (show (5 : Nat) < 6 by decide) (oC1n c4) (oC1n (v := .inl x) rfl) rfl
theorem f_168_145 : oFet 168 145 = some (.goto (-22), 3) := by decide +kernel
theorem s_168_145 {d : Nat} {l0 l1 l2 l3 l4 l5 : oV} {S : List oV} {σ : oSg} {Q : Option oV → (Nat → oC) → Prop} : oE d 168 145 [l0, l1, l2, l3, l4, l5] S σ Q = oE d 168 123 [l0, l1, l2, l3, l4, l5] S σ Q := pGoto f_168_145 (by decide)
theorem f_168_148 : oFet 168 148 = some (.iload 4, 2) := by decide +kernel
theorem s_168_148 {d : Nat} {l0 l1 l2 l3 l5 : oV} {x : Int} {S : List oV} {σ : oSg} {Q : Option oV → (Nat → oC) → Prop} : oE d 168 148 [l0, l1, l2, l3, .inl x, l5] S σ Q = oE d 168 150 [l0, l1, l2, l3, .inl x, l5] (.inl x :: S) σ Q := pLd (i := 4) f_168_148 rfl rfl rfl
theorem f_168_150 : oFet 168 150 = some (.ifCond .eq 14, 3) := by decide +kernel
theorem s_168_150 {d : Nat} {l0 l1 l2 l3 l4 l5 : oV} {x : Int} {S : List oV} {σ : oSg} {Q : Option oV → (Nat → oC) → Prop} : oE d 168 150 [l0, l1, l2, l3, l4, l5] (.inl x :: S) σ Q = if x = 0 then oE d 168 164 [l0, l1, l2, l3, l4, l5] S σ Q else oE d 168 153 [l0, l1, l2, l3, l4, l5] S σ Q := oIfEq f_168_150 (by decide)
theorem f_168_153 : oFet 168 153 = some (.aload_n 0, 1) := by decide +kernel
theorem s_168_153 {d : Nat} {l1 l2 l3 l4 l5 : oV} {a : Nat} {S : List oV} {σ : oSg} {Q : Option oV → (Nat → oC) → Prop} : oE d 168 153 [.inr (.inr (.inl a)), l1, l2, l3, l4, l5] S σ Q = oE d 168 154 [.inr (.inr (.inl a)), l1, l2, l3, l4, l5] (.inr (.inr (.inl a)) :: S) σ Q := pLdN (k := 0) f_168_153 rfl rfl rfl
theorem f_168_154 : oFet 168 154 = some (.iload_n 1, 1) := by decide +kernel
theorem s_168_154 {d : Nat} {l0 l2 l3 l4 l5 : oV} {x : Int} {S : List oV} {σ : oSg} {Q : Option oV → (Nat → oC) → Prop} : oE d 168 154 [l0, .inl x, l2, l3, l4, l5] S σ Q = oE d 168 155 [l0, .inl x, l2, l3, l4, l5] (.inl x :: S) σ Q := pLdN (k := 1) f_168_154 rfl rfl rfl
theorem f_168_155 : oFet 168 155 = some (.invokevirtual 122, 3) := by decide +kernel
theorem c_168_155 {d : Nat} {l0 l1 l2 l3 l4 l5 : oV} {x0 : oV} {a : Nat} {v : Option oV} {τ : oSg} {S : List oV} {σ : oSg} {Q : Option oV → (Nat → oC) → Prop} (hm : oMi d 170 [.inr (.inr (.inl a)), x0] σ v τ) (hk : oKd a = some 11) (hs : oSmall S = true) : oE d 168 155 [l0, l1, l2, l3, l4, l5] (x0 :: .inr (.inr (.inl a)) :: S) σ Q = oE d 168 158 [l0, l1, l2, l3, l4, l5] (v.toList ++ S) τ Q := pCallV f_168_155 ow_168 lk_11_122 mt_170 rfl rfl rfl hk hs hm
theorem f_168_158 : oFet 168 158 = some (.ifCond .eq 6, 3) := by decide +kernel
theorem s_168_158 {d : Nat} {l0 l1 l2 l3 l4 l5 : oV} {x : Int} {S : List oV} {σ : oSg} {Q : Option oV → (Nat → oC) → Prop} : oE d 168 158 [l0, l1, l2, l3, l4, l5] (.inl x :: S) σ Q = if x = 0 then oE d 168 164 [l0, l1, l2, l3, l4, l5] S σ Q else oE d 168 161 [l0, l1, l2, l3, l4, l5] S σ Q := oIfEq f_168_158 (by decide)
theorem f_168_161 : oFet 168 161 = some (.iinc 1 1, 3) := by decide +kernel
theorem s_168_161 {d : Nat} {l0 l2 l3 l4 l5 : oV} {x : Int} {S : List oV} {σ : oSg} {Q : Option oV → (Nat → oC) → Prop} (c0 : oCat l0 = 1)  : oE d 168 161 [l0, .inl x, l2, l3, l4, l5] S σ Q = oE d 168 164 [l0, .inl (oAdd x (1)), l2, l3, l4, l5] S σ Q := pInc f_168_161 rfl (show (1 : Nat) < 6 by decide) (oC1n c0) (oC1n (v := .inl x) rfl) rfl
theorem f_168_164 : oFet 168 164 = some (.iload_n 1, 1) := by decide +kernel
theorem s_168_164 {d : Nat} {l0 l2 l3 l4 l5 : oV} {x : Int} {S : List oV} {σ : oSg} {Q : Option oV → (Nat → oC) → Prop} : oE d 168 164 [l0, .inl x, l2, l3, l4, l5] S σ Q = oE d 168 165 [l0, .inl x, l2, l3, l4, l5] (.inl x :: S) σ Q := pLdN (k := 1) f_168_164 rfl rfl rfl
theorem f_168_165 : oFet 168 165 = some (.aload_n 0, 1) := by decide +kernel
theorem s_168_165 {d : Nat} {l1 l2 l3 l4 l5 : oV} {a : Nat} {S : List oV} {σ : oSg} {Q : Option oV → (Nat → oC) → Prop} : oE d 168 165 [.inr (.inr (.inl a)), l1, l2, l3, l4, l5] S σ Q = oE d 168 166 [.inr (.inr (.inl a)), l1, l2, l3, l4, l5] (.inr (.inr (.inl a)) :: S) σ Q := pLdN (k := 0) f_168_165 rfl rfl rfl
theorem f_168_166 : oFet 168 166 = some (.getfield 116, 3) := by decide +kernel
theorem s_168_166 {d : Nat} {l0 l1 l2 l3 l4 l5 : oV} {a : Nat} {S : List oV} {σ : oSg} {Q : Option oV → (Nat → oC) → Prop} (hk : oKd a = some 11) : oE d 168 166 [l0, l1, l2, l3, l4, l5] (.inr (.inr (.inl a)) :: S) σ Q = oE d 168 169 [l0, l1, l2, l3, l4, l5] (.inl (σ.1 a 6) :: S) σ Q := pGfI f_168_166 ow_168 fl_11_116 rfl (by decide) hk
theorem f_168_169 : oFet 168 169 = some (.if_icmp .ne 10, 3) := by decide +kernel
theorem s_168_169 {d : Nat} {l0 l1 l2 l3 l4 l5 : oV} {x y : Int} {S : List oV} {σ : oSg} {Q : Option oV → (Nat → oC) → Prop} : oE d 168 169 [l0, l1, l2, l3, l4, l5] (.inl y :: .inl x :: S) σ Q = if ¬ x = y then oE d 168 179 [l0, l1, l2, l3, l4, l5] S σ Q else oE d 168 172 [l0, l1, l2, l3, l4, l5] S σ Q := oCmpNe f_168_169 (by decide)
theorem f_168_172 : oFet 168 172 = some (.aload_n 0, 1) := by decide +kernel
theorem s_168_172 {d : Nat} {l1 l2 l3 l4 l5 : oV} {a : Nat} {S : List oV} {σ : oSg} {Q : Option oV → (Nat → oC) → Prop} : oE d 168 172 [.inr (.inr (.inl a)), l1, l2, l3, l4, l5] S σ Q = oE d 168 173 [.inr (.inr (.inl a)), l1, l2, l3, l4, l5] (.inr (.inr (.inl a)) :: S) σ Q := pLdN (k := 0) f_168_172 rfl rfl rfl
theorem f_168_173 : oFet 168 173 = some (.iload_n 2, 1) := by decide +kernel
theorem s_168_173 {d : Nat} {l0 l1 l3 l4 l5 : oV} {x : Int} {S : List oV} {σ : oSg} {Q : Option oV → (Nat → oC) → Prop} : oE d 168 173 [l0, l1, .inl x, l3, l4, l5] S σ Q = oE d 168 174 [l0, l1, .inl x, l3, l4, l5] (.inl x :: S) σ Q := pLdN (k := 2) f_168_173 rfl rfl rfl
theorem f_168_174 : oFet 168 174 = some (.putfield 125, 3) := by decide +kernel
theorem s_168_174 {d : Nat} {l0 l1 l2 l3 l4 l5 : oV} {a : Nat} {v : Int} {S : List oV} {σ : oSg} {Q : Option oV → (Nat → oC) → Prop} (hk : oKd a = some 11) : oE d 168 174 [l0, l1, l2, l3, l4, l5] (.inl v :: .inr (.inr (.inl a)) :: S) σ Q = oE d 168 177 [l0, l1, l2, l3, l4, l5] S (oSF σ a 7 v) Q := pPfI f_168_174 ow_168 fl_11_125 rfl (by decide) rfl rfl hk
theorem f_168_177 : oFet 168 177 = some (.iconst (-1), 1) := by decide +kernel
theorem s_168_177 {d : Nat} {l0 l1 l2 l3 l4 l5 : oV} {S : List oV} {σ : oSg} {Q : Option oV → (Nat → oC) → Prop} : oE d 168 177 [l0, l1, l2, l3, l4, l5] S σ Q = oE d 168 178 [l0, l1, l2, l3, l4, l5] (.inl (-1) :: S) σ Q := pKst f_168_177 (by decide)
theorem f_168_178 : oFet 168 178 = some (.ireturn, 1) := by decide +kernel
theorem s_168_178 {d : Nat} {l0 l1 l2 l3 l4 l5 : oV} {x : Int} {σ : oSg} {Q : Option oV → (Nat → oC) → Prop} : oE d 168 178 [l0, l1, l2, l3, l4, l5] [.inl x] σ Q = Q (some (.inl x)) (oBld σ) := oIret f_168_178 rt_168
theorem f_168_179 : oFet 168 179 = some (.iload_n 2, 1) := by decide +kernel
theorem s_168_179 {d : Nat} {l0 l1 l3 l4 l5 : oV} {x : Int} {S : List oV} {σ : oSg} {Q : Option oV → (Nat → oC) → Prop} : oE d 168 179 [l0, l1, .inl x, l3, l4, l5] S σ Q = oE d 168 180 [l0, l1, .inl x, l3, l4, l5] (.inl x :: S) σ Q := pLdN (k := 2) f_168_179 rfl rfl rfl
theorem f_168_180 : oFet 168 180 = some (.bipush 12, 2) := by decide +kernel
theorem s_168_180 {d : Nat} {l0 l1 l2 l3 l4 l5 : oV} {S : List oV} {σ : oSg} {Q : Option oV → (Nat → oC) → Prop} : oE d 168 180 [l0, l1, l2, l3, l4, l5] S σ Q = oE d 168 182 [l0, l1, l2, l3, l4, l5] (.inl (12) :: S) σ Q := pBip f_168_180 (by decide)
theorem f_168_182 : oFet 168 182 = some (.if_icmp .eq 13, 3) := by decide +kernel
theorem s_168_182 {d : Nat} {l0 l1 l2 l3 l4 l5 : oV} {x y : Int} {S : List oV} {σ : oSg} {Q : Option oV → (Nat → oC) → Prop} : oE d 168 182 [l0, l1, l2, l3, l4, l5] (.inl y :: .inl x :: S) σ Q = if x = y then oE d 168 195 [l0, l1, l2, l3, l4, l5] S σ Q else oE d 168 185 [l0, l1, l2, l3, l4, l5] S σ Q := oCmpEq f_168_182 (by decide)
theorem f_168_185 : oFet 168 185 = some (.aload_n 0, 1) := by decide +kernel
theorem s_168_185 {d : Nat} {l1 l2 l3 l4 l5 : oV} {a : Nat} {S : List oV} {σ : oSg} {Q : Option oV → (Nat → oC) → Prop} : oE d 168 185 [.inr (.inr (.inl a)), l1, l2, l3, l4, l5] S σ Q = oE d 168 186 [.inr (.inr (.inl a)), l1, l2, l3, l4, l5] (.inr (.inr (.inl a)) :: S) σ Q := pLdN (k := 0) f_168_185 rfl rfl rfl
theorem f_168_186 : oFet 168 186 = some (.iload_n 1, 1) := by decide +kernel
theorem s_168_186 {d : Nat} {l0 l2 l3 l4 l5 : oV} {x : Int} {S : List oV} {σ : oSg} {Q : Option oV → (Nat → oC) → Prop} : oE d 168 186 [l0, .inl x, l2, l3, l4, l5] S σ Q = oE d 168 187 [l0, .inl x, l2, l3, l4, l5] (.inl x :: S) σ Q := pLdN (k := 1) f_168_186 rfl rfl rfl
theorem f_168_187 : oFet 168 187 = some (.bipush 59, 2) := by decide +kernel
theorem s_168_187 {d : Nat} {l0 l1 l2 l3 l4 l5 : oV} {S : List oV} {σ : oSg} {Q : Option oV → (Nat → oC) → Prop} : oE d 168 187 [l0, l1, l2, l3, l4, l5] S σ Q = oE d 168 189 [l0, l1, l2, l3, l4, l5] (.inl (59) :: S) σ Q := pBip f_168_187 (by decide)
theorem f_168_189 : oFet 168 189 = some (.invokevirtual 119, 3) := by decide +kernel
theorem c_168_189 {d : Nat} {l0 l1 l2 l3 l4 l5 : oV} {x0 x1 : oV} {a : Nat} {v : Option oV} {τ : oSg} {S : List oV} {σ : oSg} {Q : Option oV → (Nat → oC) → Prop} (hm : oMi d 169 [.inr (.inr (.inl a)), x0, x1] σ v τ) (hk : oKd a = some 11) (hs : oSmall S = true) : oE d 168 189 [l0, l1, l2, l3, l4, l5] (x1 :: x0 :: .inr (.inr (.inl a)) :: S) σ Q = oE d 168 192 [l0, l1, l2, l3, l4, l5] (v.toList ++ S) τ Q := pCallV f_168_189 ow_168 lk_11_119 mt_169 rfl rfl rfl hk hs hm
theorem f_168_192 : oFet 168 192 = some (.ifCond .ne 5, 3) := by decide +kernel
theorem s_168_192 {d : Nat} {l0 l1 l2 l3 l4 l5 : oV} {x : Int} {S : List oV} {σ : oSg} {Q : Option oV → (Nat → oC) → Prop} : oE d 168 192 [l0, l1, l2, l3, l4, l5] (.inl x :: S) σ Q = if ¬ x = 0 then oE d 168 197 [l0, l1, l2, l3, l4, l5] S σ Q else oE d 168 195 [l0, l1, l2, l3, l4, l5] S σ Q := oIfNe f_168_192 (by decide)
theorem f_168_195 : oFet 168 195 = some (.iload_n 1, 1) := by decide +kernel
theorem s_168_195 {d : Nat} {l0 l2 l3 l4 l5 : oV} {x : Int} {S : List oV} {σ : oSg} {Q : Option oV → (Nat → oC) → Prop} : oE d 168 195 [l0, .inl x, l2, l3, l4, l5] S σ Q = oE d 168 196 [l0, .inl x, l2, l3, l4, l5] (.inl x :: S) σ Q := pLdN (k := 1) f_168_195 rfl rfl rfl
theorem f_168_196 : oFet 168 196 = some (.ireturn, 1) := by decide +kernel
theorem s_168_196 {d : Nat} {l0 l1 l2 l3 l4 l5 : oV} {x : Int} {σ : oSg} {Q : Option oV → (Nat → oC) → Prop} : oE d 168 196 [l0, l1, l2, l3, l4, l5] [.inl x] σ Q = Q (some (.inl x)) (oBld σ) := oIret f_168_196 rt_168
theorem f_168_197 : oFet 168 197 = some (.iinc 1 1, 3) := by decide +kernel
theorem s_168_197 {d : Nat} {l0 l2 l3 l4 l5 : oV} {x : Int} {S : List oV} {σ : oSg} {Q : Option oV → (Nat → oC) → Prop} (c0 : oCat l0 = 1)  : oE d 168 197 [l0, .inl x, l2, l3, l4, l5] S σ Q = oE d 168 200 [l0, .inl (oAdd x (1)), l2, l3, l4, l5] S σ Q := pInc f_168_197 rfl (show (1 : Nat) < 6 by decide) (oC1n c0) (oC1n (v := .inl x) rfl) rfl
theorem f_168_200 : oFet 168 200 = some (.goto (-196), 3) := by decide +kernel
theorem s_168_200 {d : Nat} {l0 l1 l2 l3 l4 l5 : oV} {S : List oV} {σ : oSg} {Q : Option oV → (Nat → oC) → Prop} : oE d 168 200 [l0, l1, l2, l3, l4, l5] S σ Q = oE d 168 4 [l0, l1, l2, l3, l4, l5] S σ Q := pGoto f_168_200 (by decide)
theorem ow_169 : (oMt 169).2.2.2.2.1 = 11 := by decide +kernel
theorem rt_169 : (oMt 169).2.2.2.1 = some .boolean := by decide +kernel
theorem nl_169 : (oMt 169).2.2.1 = 3 := by decide +kernel
theorem f_169_0 : oFet 169 0 = some (.iload_n 1, 1) := by decide +kernel
theorem s_169_0 {d : Nat} {l0 l2 : oV} {x : Int} {S : List oV} {σ : oSg} {Q : Option oV → (Nat → oC) → Prop} : oE d 169 0 [l0, .inl x, l2] S σ Q = oE d 169 1 [l0, .inl x, l2] (.inl x :: S) σ Q := pLdN (k := 1) f_169_0 rfl rfl rfl
theorem f_169_1 : oFet 169 1 = some (.aload_n 0, 1) := by decide +kernel
theorem s_169_1 {d : Nat} {l1 l2 : oV} {a : Nat} {S : List oV} {σ : oSg} {Q : Option oV → (Nat → oC) → Prop} : oE d 169 1 [.inr (.inr (.inl a)), l1, l2] S σ Q = oE d 169 2 [.inr (.inr (.inl a)), l1, l2] (.inr (.inr (.inl a)) :: S) σ Q := pLdN (k := 0) f_169_1 rfl rfl rfl
theorem f_169_2 : oFet 169 2 = some (.getfield 116, 3) := by decide +kernel
theorem s_169_2 {d : Nat} {l0 l1 l2 : oV} {a : Nat} {S : List oV} {σ : oSg} {Q : Option oV → (Nat → oC) → Prop} (hk : oKd a = some 11) : oE d 169 2 [l0, l1, l2] (.inr (.inr (.inl a)) :: S) σ Q = oE d 169 5 [l0, l1, l2] (.inl (σ.1 a 6) :: S) σ Q := pGfI f_169_2 ow_169 fl_11_116 rfl (by decide) hk
theorem f_169_5 : oFet 169 5 = some (.if_icmp .ge 17, 3) := by decide +kernel
theorem s_169_5 {d : Nat} {l0 l1 l2 : oV} {x y : Int} {S : List oV} {σ : oSg} {Q : Option oV → (Nat → oC) → Prop} : oE d 169 5 [l0, l1, l2] (.inl y :: .inl x :: S) σ Q = if y ≤ x then oE d 169 22 [l0, l1, l2] S σ Q else oE d 169 8 [l0, l1, l2] S σ Q := oCmpGe f_169_5 (by decide)
theorem f_169_8 : oFet 169 8 = some (.aload_n 0, 1) := by decide +kernel
theorem s_169_8 {d : Nat} {l1 l2 : oV} {a : Nat} {S : List oV} {σ : oSg} {Q : Option oV → (Nat → oC) → Prop} : oE d 169 8 [.inr (.inr (.inl a)), l1, l2] S σ Q = oE d 169 9 [.inr (.inr (.inl a)), l1, l2] (.inr (.inr (.inl a)) :: S) σ Q := pLdN (k := 0) f_169_8 rfl rfl rfl
theorem f_169_9 : oFet 169 9 = some (.getfield 21, 3) := by decide +kernel
theorem s_169_9 {d : Nat} {l0 l1 l2 : oV} {a : Nat} {S : List oV} {σ : oSg} {Q : Option oV → (Nat → oC) → Prop} (hk : oKd a = some 11) : oE d 169 9 [l0, l1, l2] (.inr (.inr (.inl a)) :: S) σ Q = oE d 169 12 [l0, l1, l2] (.inr (.inr (.inl (oRf a 4))) :: S) σ Q := pGfR f_169_9 ow_169 fl_11_21 rfl (by decide) hk
theorem f_169_12 : oFet 169 12 = some (.iload_n 1, 1) := by decide +kernel
theorem s_169_12 {d : Nat} {l0 l2 : oV} {x : Int} {S : List oV} {σ : oSg} {Q : Option oV → (Nat → oC) → Prop} : oE d 169 12 [l0, .inl x, l2] S σ Q = oE d 169 13 [l0, .inl x, l2] (.inl x :: S) σ Q := pLdN (k := 1) f_169_12 rfl rfl rfl
theorem f_169_13 : oFet 169 13 = some (.iaload, 1) := by decide +kernel
theorem s_169_13 {d : Nat} {l0 l1 l2 : oV} {a : Nat} {i : Int} {S : List oV} {σ : oSg} {Q : Option oV → (Nat → oC) → Prop} (hk : oAk a = some 0) (h0 : 0 ≤ i) (h1 : i < (oLn a : Int)) : oE d 169 13 [l0, l1, l2] (.inl i :: .inr (.inr (.inl a)) :: S) σ Q = oE d 169 14 [l0, l1, l2] (.inl (σ.2 a i.toNat) :: S) σ Q := oIal f_169_13 hk h0 h1
theorem f_169_14 : oFet 169 14 = some (.iload_n 2, 1) := by decide +kernel
theorem s_169_14 {d : Nat} {l0 l1 : oV} {x : Int} {S : List oV} {σ : oSg} {Q : Option oV → (Nat → oC) → Prop} : oE d 169 14 [l0, l1, .inl x] S σ Q = oE d 169 15 [l0, l1, .inl x] (.inl x :: S) σ Q := pLdN (k := 2) f_169_14 rfl rfl rfl
theorem f_169_15 : oFet 169 15 = some (.if_icmp .ne 7, 3) := by decide +kernel
theorem s_169_15 {d : Nat} {l0 l1 l2 : oV} {x y : Int} {S : List oV} {σ : oSg} {Q : Option oV → (Nat → oC) → Prop} : oE d 169 15 [l0, l1, l2] (.inl y :: .inl x :: S) σ Q = if ¬ x = y then oE d 169 22 [l0, l1, l2] S σ Q else oE d 169 18 [l0, l1, l2] S σ Q := oCmpNe f_169_15 (by decide)
theorem f_169_18 : oFet 169 18 = some (.iconst 1, 1) := by decide +kernel
theorem s_169_18 {d : Nat} {l0 l1 l2 : oV} {S : List oV} {σ : oSg} {Q : Option oV → (Nat → oC) → Prop} : oE d 169 18 [l0, l1, l2] S σ Q = oE d 169 19 [l0, l1, l2] (.inl (1) :: S) σ Q := pKst f_169_18 (by decide)
theorem f_169_19 : oFet 169 19 = some (.goto 4, 3) := by decide +kernel
theorem s_169_19 {d : Nat} {l0 l1 l2 : oV} {S : List oV} {σ : oSg} {Q : Option oV → (Nat → oC) → Prop} : oE d 169 19 [l0, l1, l2] S σ Q = oE d 169 23 [l0, l1, l2] S σ Q := pGoto f_169_19 (by decide)
theorem f_169_22 : oFet 169 22 = some (.iconst 0, 1) := by decide +kernel
theorem s_169_22 {d : Nat} {l0 l1 l2 : oV} {S : List oV} {σ : oSg} {Q : Option oV → (Nat → oC) → Prop} : oE d 169 22 [l0, l1, l2] S σ Q = oE d 169 23 [l0, l1, l2] (.inl (0) :: S) σ Q := pKst f_169_22 (by decide)
theorem f_169_23 : oFet 169 23 = some (.ireturn, 1) := by decide +kernel
theorem s_169_23 {d : Nat} {l0 l1 l2 : oV} {x : Int} {σ : oSg} {Q : Option oV → (Nat → oC) → Prop} (hx : x = 0 ∨ x = 1) : oE d 169 23 [l0, l1, l2] [.inl x] σ Q = Q (some (.inl x)) (oBld σ) := oZret f_169_23 rt_169 hx
theorem ow_170 : (oMt 170).2.2.2.2.1 = 11 := by decide +kernel
theorem rt_170 : (oMt 170).2.2.2.1 = some .boolean := by decide +kernel
theorem nl_170 : (oMt 170).2.2.1 = 2 := by decide +kernel
theorem f_170_0 : oFet 170 0 = some (.iload_n 1, 1) := by decide +kernel
theorem s_170_0 {d : Nat} {l0 : oV} {x : Int} {S : List oV} {σ : oSg} {Q : Option oV → (Nat → oC) → Prop} : oE d 170 0 [l0, .inl x] S σ Q = oE d 170 1 [l0, .inl x] (.inl x :: S) σ Q := pLdN (k := 1) f_170_0 rfl rfl rfl
theorem f_170_1 : oFet 170 1 = some (.aload_n 0, 1) := by decide +kernel
theorem s_170_1 {d : Nat} {l1 : oV} {a : Nat} {S : List oV} {σ : oSg} {Q : Option oV → (Nat → oC) → Prop} : oE d 170 1 [.inr (.inr (.inl a)), l1] S σ Q = oE d 170 2 [.inr (.inr (.inl a)), l1] (.inr (.inr (.inl a)) :: S) σ Q := pLdN (k := 0) f_170_1 rfl rfl rfl
theorem f_170_2 : oFet 170 2 = some (.getfield 116, 3) := by decide +kernel
theorem s_170_2 {d : Nat} {l0 l1 : oV} {a : Nat} {S : List oV} {σ : oSg} {Q : Option oV → (Nat → oC) → Prop} (hk : oKd a = some 11) : oE d 170 2 [l0, l1] (.inr (.inr (.inl a)) :: S) σ Q = oE d 170 5 [l0, l1] (.inl (σ.1 a 6) :: S) σ Q := pGfI f_170_2 ow_170 fl_11_116 rfl (by decide) hk
theorem f_170_5 : oFet 170 5 = some (.if_icmp .ge 23, 3) := by decide +kernel
theorem s_170_5 {d : Nat} {l0 l1 : oV} {x y : Int} {S : List oV} {σ : oSg} {Q : Option oV → (Nat → oC) → Prop} : oE d 170 5 [l0, l1] (.inl y :: .inl x :: S) σ Q = if y ≤ x then oE d 170 28 [l0, l1] S σ Q else oE d 170 8 [l0, l1] S σ Q := oCmpGe f_170_5 (by decide)
theorem f_170_8 : oFet 170 8 = some (.aload_n 0, 1) := by decide +kernel
theorem s_170_8 {d : Nat} {l1 : oV} {a : Nat} {S : List oV} {σ : oSg} {Q : Option oV → (Nat → oC) → Prop} : oE d 170 8 [.inr (.inr (.inl a)), l1] S σ Q = oE d 170 9 [.inr (.inr (.inl a)), l1] (.inr (.inr (.inl a)) :: S) σ Q := pLdN (k := 0) f_170_8 rfl rfl rfl
theorem f_170_9 : oFet 170 9 = some (.getfield 21, 3) := by decide +kernel
theorem s_170_9 {d : Nat} {l0 l1 : oV} {a : Nat} {S : List oV} {σ : oSg} {Q : Option oV → (Nat → oC) → Prop} (hk : oKd a = some 11) : oE d 170 9 [l0, l1] (.inr (.inr (.inl a)) :: S) σ Q = oE d 170 12 [l0, l1] (.inr (.inr (.inl (oRf a 4))) :: S) σ Q := pGfR f_170_9 ow_170 fl_11_21 rfl (by decide) hk
theorem f_170_12 : oFet 170 12 = some (.iload_n 1, 1) := by decide +kernel
theorem s_170_12 {d : Nat} {l0 : oV} {x : Int} {S : List oV} {σ : oSg} {Q : Option oV → (Nat → oC) → Prop} : oE d 170 12 [l0, .inl x] S σ Q = oE d 170 13 [l0, .inl x] (.inl x :: S) σ Q := pLdN (k := 1) f_170_12 rfl rfl rfl
theorem f_170_13 : oFet 170 13 = some (.iaload, 1) := by decide +kernel
theorem s_170_13 {d : Nat} {l0 l1 : oV} {a : Nat} {i : Int} {S : List oV} {σ : oSg} {Q : Option oV → (Nat → oC) → Prop} (hk : oAk a = some 0) (h0 : 0 ≤ i) (h1 : i < (oLn a : Int)) : oE d 170 13 [l0, l1] (.inl i :: .inr (.inr (.inl a)) :: S) σ Q = oE d 170 14 [l0, l1] (.inl (σ.2 a i.toNat) :: S) σ Q := oIal f_170_13 hk h0 h1
theorem f_170_14 : oFet 170 14 = some (.bipush 48, 2) := by decide +kernel
theorem s_170_14 {d : Nat} {l0 l1 : oV} {S : List oV} {σ : oSg} {Q : Option oV → (Nat → oC) → Prop} : oE d 170 14 [l0, l1] S σ Q = oE d 170 16 [l0, l1] (.inl (48) :: S) σ Q := pBip f_170_14 (by decide)
theorem f_170_16 : oFet 170 16 = some (.bipush 57, 2) := by decide +kernel
theorem s_170_16 {d : Nat} {l0 l1 : oV} {S : List oV} {σ : oSg} {Q : Option oV → (Nat → oC) → Prop} : oE d 170 16 [l0, l1] S σ Q = oE d 170 18 [l0, l1] (.inl (57) :: S) σ Q := pBip f_170_16 (by decide)
theorem f_170_18 : oFet 170 18 = some (.invokestatic 57, 3) := by decide +kernel
theorem c_170_18 {d : Nat} {l0 l1 : oV} {x0 x1 x2 : oV} {v : Option oV} {τ : oSg} {S : List oV} {σ : oSg} {Q : Option oV → (Nat → oC) → Prop} (hm : oMi d 146 [x0, x1, x2] σ v τ) (hs : oSmall S = true) : oE d 170 18 [l0, l1] (x2 :: x1 :: x0 :: S) σ Q = oE d 170 21 [l0, l1] (v.toList ++ S) τ Q := pCallS f_170_18 ow_170 lk_11_57 mt_146 rfl rfl rfl hs hm
theorem f_170_21 : oFet 170 21 = some (.ifCond .eq 7, 3) := by decide +kernel
theorem s_170_21 {d : Nat} {l0 l1 : oV} {x : Int} {S : List oV} {σ : oSg} {Q : Option oV → (Nat → oC) → Prop} : oE d 170 21 [l0, l1] (.inl x :: S) σ Q = if x = 0 then oE d 170 28 [l0, l1] S σ Q else oE d 170 24 [l0, l1] S σ Q := oIfEq f_170_21 (by decide)
theorem f_170_24 : oFet 170 24 = some (.iconst 1, 1) := by decide +kernel
theorem s_170_24 {d : Nat} {l0 l1 : oV} {S : List oV} {σ : oSg} {Q : Option oV → (Nat → oC) → Prop} : oE d 170 24 [l0, l1] S σ Q = oE d 170 25 [l0, l1] (.inl (1) :: S) σ Q := pKst f_170_24 (by decide)
theorem f_170_25 : oFet 170 25 = some (.goto 4, 3) := by decide +kernel
theorem s_170_25 {d : Nat} {l0 l1 : oV} {S : List oV} {σ : oSg} {Q : Option oV → (Nat → oC) → Prop} : oE d 170 25 [l0, l1] S σ Q = oE d 170 29 [l0, l1] S σ Q := pGoto f_170_25 (by decide)
theorem f_170_28 : oFet 170 28 = some (.iconst 0, 1) := by decide +kernel
theorem s_170_28 {d : Nat} {l0 l1 : oV} {S : List oV} {σ : oSg} {Q : Option oV → (Nat → oC) → Prop} : oE d 170 28 [l0, l1] S σ Q = oE d 170 29 [l0, l1] (.inl (0) :: S) σ Q := pKst f_170_28 (by decide)
theorem f_170_29 : oFet 170 29 = some (.ireturn, 1) := by decide +kernel
theorem s_170_29 {d : Nat} {l0 l1 : oV} {x : Int} {σ : oSg} {Q : Option oV → (Nat → oC) → Prop} (hx : x = 0 ∨ x = 1) : oE d 170 29 [l0, l1] [.inl x] σ Q = Q (some (.inl x)) (oBld σ) := oZret f_170_29 rt_170 hx
theorem ow_171 : (oMt 171).2.2.2.2.1 = 11 := by decide +kernel
theorem rt_171 : (oMt 171).2.2.2.1 = some .int := by decide +kernel
theorem nl_171 : (oMt 171).2.2.1 = 2 := by decide +kernel
theorem f_171_0 : oFet 171 0 = some (.aload_n 0, 1) := by decide +kernel
theorem s_171_0 {d : Nat} {l1 : oV} {a : Nat} {S : List oV} {σ : oSg} {Q : Option oV → (Nat → oC) → Prop} : oE d 171 0 [.inr (.inr (.inl a)), l1] S σ Q = oE d 171 1 [.inr (.inr (.inl a)), l1] (.inr (.inr (.inl a)) :: S) σ Q := pLdN (k := 0) f_171_0 rfl rfl rfl
theorem f_171_1 : oFet 171 1 = some (.getfield 21, 3) := by decide +kernel
theorem s_171_1 {d : Nat} {l0 l1 : oV} {a : Nat} {S : List oV} {σ : oSg} {Q : Option oV → (Nat → oC) → Prop} (hk : oKd a = some 11) : oE d 171 1 [l0, l1] (.inr (.inr (.inl a)) :: S) σ Q = oE d 171 4 [l0, l1] (.inr (.inr (.inl (oRf a 4))) :: S) σ Q := pGfR f_171_1 ow_171 fl_11_21 rfl (by decide) hk
theorem f_171_4 : oFet 171 4 = some (.iload_n 1, 1) := by decide +kernel
theorem s_171_4 {d : Nat} {l0 : oV} {x : Int} {S : List oV} {σ : oSg} {Q : Option oV → (Nat → oC) → Prop} : oE d 171 4 [l0, .inl x] S σ Q = oE d 171 5 [l0, .inl x] (.inl x :: S) σ Q := pLdN (k := 1) f_171_4 rfl rfl rfl
theorem f_171_5 : oFet 171 5 = some (.iaload, 1) := by decide +kernel
theorem s_171_5 {d : Nat} {l0 l1 : oV} {a : Nat} {i : Int} {S : List oV} {σ : oSg} {Q : Option oV → (Nat → oC) → Prop} (hk : oAk a = some 0) (h0 : 0 ≤ i) (h1 : i < (oLn a : Int)) : oE d 171 5 [l0, l1] (.inl i :: .inr (.inr (.inl a)) :: S) σ Q = oE d 171 6 [l0, l1] (.inl (σ.2 a i.toNat) :: S) σ Q := oIal f_171_5 hk h0 h1
theorem f_171_6 : oFet 171 6 = some (.lookupswitch 84 #[(109, 65), (112, 34), (119, 39)], 34) := by decide +kernel
theorem s_171_6_109 {d : Nat} {l0 l1 : oV} {S : List oV} {σ : oSg} {Q : Option oV → (Nat → oC) → Prop} : oE d 171 6 [l0, l1] (.inl (109) :: S) σ Q = oE d 171 71 [l0, l1] S σ Q := oLook (off := 65) f_171_6 (by decide) (by decide +kernel) (by decide)
theorem s_171_6_112 {d : Nat} {l0 l1 : oV} {S : List oV} {σ : oSg} {Q : Option oV → (Nat → oC) → Prop} : oE d 171 6 [l0, l1] (.inl (112) :: S) σ Q = oE d 171 40 [l0, l1] S σ Q := oLook (off := 34) f_171_6 (by decide) (by decide +kernel) (by decide)
theorem s_171_6_119 {d : Nat} {l0 l1 : oV} {S : List oV} {σ : oSg} {Q : Option oV → (Nat → oC) → Prop} : oE d 171 6 [l0, l1] (.inl (119) :: S) σ Q = oE d 171 45 [l0, l1] S σ Q := oLook (off := 39) f_171_6 (by decide) (by decide +kernel) (by decide)
theorem s_171_6_d {d : Nat} {l0 l1 : oV} {x : Int} {S : List oV} {σ : oSg} {Q : Option oV → (Nat → oC) → Prop} (hx : x ≠ 109 ∧ x ≠ 112 ∧ x ≠ 119) : oE d 171 6 [l0, l1] (.inl x :: S) σ Q = oE d 171 90 [l0, l1] S σ Q := oLook (off := 84) f_171_6 (by decide) (by simp [Op.lookupswitch.offset_cons, Op.lookupswitch.offset, hx.1.symm, hx.1.symm, hx.2.1.symm, hx.2.2.symm]) (by decide)
theorem f_171_40 : oFet 171 40 = some (.aload_n 0, 1) := by decide +kernel
theorem s_171_40 {d : Nat} {l1 : oV} {a : Nat} {S : List oV} {σ : oSg} {Q : Option oV → (Nat → oC) → Prop} : oE d 171 40 [.inr (.inr (.inl a)), l1] S σ Q = oE d 171 41 [.inr (.inr (.inl a)), l1] (.inr (.inr (.inl a)) :: S) σ Q := pLdN (k := 0) f_171_40 rfl rfl rfl
theorem f_171_41 : oFet 171 41 = some (.invokevirtual 131, 3) := by decide +kernel
theorem c_171_41 {d : Nat} {l0 l1 : oV} {a : Nat} {v : Option oV} {τ : oSg} {S : List oV} {σ : oSg} {Q : Option oV → (Nat → oC) → Prop} (hm : oMi d 142 [.inr (.inr (.inl a))] σ v τ) (hk : oKd a = some 11) (hs : oSmall S = true) : oE d 171 41 [l0, l1] (.inr (.inr (.inl a)) :: S) σ Q = oE d 171 44 [l0, l1] (v.toList ++ S) τ Q := pCallV f_171_41 ow_171 lk_11_131 mt_142 rfl rfl rfl hk hs hm
theorem f_171_44 : oFet 171 44 = some (.ireturn, 1) := by decide +kernel
theorem s_171_44 {d : Nat} {l0 l1 : oV} {x : Int} {σ : oSg} {Q : Option oV → (Nat → oC) → Prop} : oE d 171 44 [l0, l1] [.inl x] σ Q = Q (some (.inl x)) (oBld σ) := oIret f_171_44 rt_171
theorem f_171_45 : oFet 171 45 = some (.aload_n 0, 1) := by decide +kernel
theorem s_171_45 {d : Nat} {l1 : oV} {a : Nat} {S : List oV} {σ : oSg} {Q : Option oV → (Nat → oC) → Prop} : oE d 171 45 [.inr (.inr (.inl a)), l1] S σ Q = oE d 171 46 [.inr (.inr (.inl a)), l1] (.inr (.inr (.inl a)) :: S) σ Q := pLdN (k := 0) f_171_45 rfl rfl rfl
theorem f_171_46 : oFet 171 46 = some (.aload_n 0, 1) := by decide +kernel
theorem s_171_46 {d : Nat} {l1 : oV} {a : Nat} {S : List oV} {σ : oSg} {Q : Option oV → (Nat → oC) → Prop} : oE d 171 46 [.inr (.inr (.inl a)), l1] S σ Q = oE d 171 47 [.inr (.inr (.inl a)), l1] (.inr (.inr (.inl a)) :: S) σ Q := pLdN (k := 0) f_171_46 rfl rfl rfl
theorem f_171_47 : oFet 171 47 = some (.iload_n 1, 1) := by decide +kernel
theorem s_171_47 {d : Nat} {l0 : oV} {x : Int} {S : List oV} {σ : oSg} {Q : Option oV → (Nat → oC) → Prop} : oE d 171 47 [l0, .inl x] S σ Q = oE d 171 48 [l0, .inl x] (.inl x :: S) σ Q := pLdN (k := 1) f_171_47 rfl rfl rfl
theorem f_171_48 : oFet 171 48 = some (.iconst 1, 1) := by decide +kernel
theorem s_171_48 {d : Nat} {l0 l1 : oV} {S : List oV} {σ : oSg} {Q : Option oV → (Nat → oC) → Prop} : oE d 171 48 [l0, l1] S σ Q = oE d 171 49 [l0, l1] (.inl (1) :: S) σ Q := pKst f_171_48 (by decide)
theorem f_171_49 : oFet 171 49 = some (.iadd, 1) := by decide +kernel
theorem s_171_49 {d : Nat} {l0 l1 : oV} {x y : Int} {S : List oV} {σ : oSg} {Q : Option oV → (Nat → oC) → Prop} : oE d 171 49 [l0, l1] (.inl y :: .inl x :: S) σ Q = oE d 171 50 [l0, l1] (.inl (oAdd x y) :: S) σ Q := oS3 f_171_49 rfl rfl rfl
theorem f_171_50 : oFet 171 50 = some (.invokevirtual 128, 3) := by decide +kernel
theorem c_171_50 {d : Nat} {l0 l1 : oV} {x0 : oV} {a : Nat} {v : Option oV} {τ : oSg} {S : List oV} {σ : oSg} {Q : Option oV → (Nat → oC) → Prop} (hm : oMi d 172 [.inr (.inr (.inl a)), x0] σ v τ) (hk : oKd a = some 11) (hs : oSmall S = true) : oE d 171 50 [l0, l1] (x0 :: .inr (.inr (.inl a)) :: S) σ Q = oE d 171 53 [l0, l1] (v.toList ++ S) τ Q := pCallV f_171_50 ow_171 lk_11_128 mt_172 rfl rfl rfl hk hs hm
theorem f_171_53 : oFet 171 53 = some (.aload_n 0, 1) := by decide +kernel
theorem s_171_53 {d : Nat} {l1 : oV} {a : Nat} {S : List oV} {σ : oSg} {Q : Option oV → (Nat → oC) → Prop} : oE d 171 53 [.inr (.inr (.inl a)), l1] S σ Q = oE d 171 54 [.inr (.inr (.inl a)), l1] (.inr (.inr (.inl a)) :: S) σ Q := pLdN (k := 0) f_171_53 rfl rfl rfl
theorem f_171_54 : oFet 171 54 = some (.iload_n 1, 1) := by decide +kernel
theorem s_171_54 {d : Nat} {l0 : oV} {x : Int} {S : List oV} {σ : oSg} {Q : Option oV → (Nat → oC) → Prop} : oE d 171 54 [l0, .inl x] S σ Q = oE d 171 55 [l0, .inl x] (.inl x :: S) σ Q := pLdN (k := 1) f_171_54 rfl rfl rfl
theorem f_171_55 : oFet 171 55 = some (.iconst 2, 1) := by decide +kernel
theorem s_171_55 {d : Nat} {l0 l1 : oV} {S : List oV} {σ : oSg} {Q : Option oV → (Nat → oC) → Prop} : oE d 171 55 [l0, l1] S σ Q = oE d 171 56 [l0, l1] (.inl (2) :: S) σ Q := pKst f_171_55 (by decide)
theorem f_171_56 : oFet 171 56 = some (.iadd, 1) := by decide +kernel
theorem s_171_56 {d : Nat} {l0 l1 : oV} {x y : Int} {S : List oV} {σ : oSg} {Q : Option oV → (Nat → oC) → Prop} : oE d 171 56 [l0, l1] (.inl y :: .inl x :: S) σ Q = oE d 171 57 [l0, l1] (.inl (oAdd x y) :: S) σ Q := oS3 f_171_56 rfl rfl rfl
theorem f_171_57 : oFet 171 57 = some (.invokevirtual 128, 3) := by decide +kernel
theorem c_171_57 {d : Nat} {l0 l1 : oV} {x0 : oV} {a : Nat} {v : Option oV} {τ : oSg} {S : List oV} {σ : oSg} {Q : Option oV → (Nat → oC) → Prop} (hm : oMi d 172 [.inr (.inr (.inl a)), x0] σ v τ) (hk : oKd a = some 11) (hs : oSmall S = true) : oE d 171 57 [l0, l1] (x0 :: .inr (.inr (.inl a)) :: S) σ Q = oE d 171 60 [l0, l1] (v.toList ++ S) τ Q := pCallV f_171_57 ow_171 lk_11_128 mt_172 rfl rfl rfl hk hs hm
theorem f_171_60 : oFet 171 60 = some (.aload_n 0, 1) := by decide +kernel
theorem s_171_60 {d : Nat} {l1 : oV} {a : Nat} {S : List oV} {σ : oSg} {Q : Option oV → (Nat → oC) → Prop} : oE d 171 60 [.inr (.inr (.inl a)), l1] S σ Q = oE d 171 61 [.inr (.inr (.inl a)), l1] (.inr (.inr (.inl a)) :: S) σ Q := pLdN (k := 0) f_171_60 rfl rfl rfl
theorem f_171_61 : oFet 171 61 = some (.iload_n 1, 1) := by decide +kernel
theorem s_171_61 {d : Nat} {l0 : oV} {x : Int} {S : List oV} {σ : oSg} {Q : Option oV → (Nat → oC) → Prop} : oE d 171 61 [l0, .inl x] S σ Q = oE d 171 62 [l0, .inl x] (.inl x :: S) σ Q := pLdN (k := 1) f_171_61 rfl rfl rfl
theorem f_171_62 : oFet 171 62 = some (.iconst 3, 1) := by decide +kernel
theorem s_171_62 {d : Nat} {l0 l1 : oV} {S : List oV} {σ : oSg} {Q : Option oV → (Nat → oC) → Prop} : oE d 171 62 [l0, l1] S σ Q = oE d 171 63 [l0, l1] (.inl (3) :: S) σ Q := pKst f_171_62 (by decide)
theorem f_171_63 : oFet 171 63 = some (.iadd, 1) := by decide +kernel
theorem s_171_63 {d : Nat} {l0 l1 : oV} {x y : Int} {S : List oV} {σ : oSg} {Q : Option oV → (Nat → oC) → Prop} : oE d 171 63 [l0, l1] (.inl y :: .inl x :: S) σ Q = oE d 171 64 [l0, l1] (.inl (oAdd x y) :: S) σ Q := oS3 f_171_63 rfl rfl rfl
theorem f_171_64 : oFet 171 64 = some (.invokevirtual 134, 3) := by decide +kernel
theorem c_171_64 {d : Nat} {l0 l1 : oV} {x0 : oV} {a : Nat} {v : Option oV} {τ : oSg} {S : List oV} {σ : oSg} {Q : Option oV → (Nat → oC) → Prop} (hm : oMi d 173 [.inr (.inr (.inl a)), x0] σ v τ) (hk : oKd a = some 11) (hs : oSmall S = true) : oE d 171 64 [l0, l1] (x0 :: .inr (.inr (.inl a)) :: S) σ Q = oE d 171 67 [l0, l1] (v.toList ++ S) τ Q := pCallV f_171_64 ow_171 lk_11_134 mt_173 rfl rfl rfl hk hs hm
theorem f_171_67 : oFet 171 67 = some (.invokevirtual 137, 3) := by decide +kernel
theorem c_171_67 {d : Nat} {l0 l1 : oV} {x0 x1 x2 : oV} {a : Nat} {v : Option oV} {τ : oSg} {S : List oV} {σ : oSg} {Q : Option oV → (Nat → oC) → Prop} (hm : oMi d 143 [.inr (.inr (.inl a)), x0, x1, x2] σ v τ) (hk : oKd a = some 11) (hs : oSmall S = true) : oE d 171 67 [l0, l1] (x2 :: x1 :: x0 :: .inr (.inr (.inl a)) :: S) σ Q = oE d 171 70 [l0, l1] (v.toList ++ S) τ Q := pCallV f_171_67 ow_171 lk_11_137 mt_143 rfl rfl rfl hk hs hm
theorem f_171_70 : oFet 171 70 = some (.ireturn, 1) := by decide +kernel
theorem s_171_70 {d : Nat} {l0 l1 : oV} {x : Int} {σ : oSg} {Q : Option oV → (Nat → oC) → Prop} : oE d 171 70 [l0, l1] [.inl x] σ Q = Q (some (.inl x)) (oBld σ) := oIret f_171_70 rt_171
theorem f_171_71 : oFet 171 71 = some (.aload_n 0, 1) := by decide +kernel
theorem s_171_71 {d : Nat} {l1 : oV} {a : Nat} {S : List oV} {σ : oSg} {Q : Option oV → (Nat → oC) → Prop} : oE d 171 71 [.inr (.inr (.inl a)), l1] S σ Q = oE d 171 72 [.inr (.inr (.inl a)), l1] (.inr (.inr (.inl a)) :: S) σ Q := pLdN (k := 0) f_171_71 rfl rfl rfl
theorem f_171_72 : oFet 171 72 = some (.aload_n 0, 1) := by decide +kernel
theorem s_171_72 {d : Nat} {l1 : oV} {a : Nat} {S : List oV} {σ : oSg} {Q : Option oV → (Nat → oC) → Prop} : oE d 171 72 [.inr (.inr (.inl a)), l1] S σ Q = oE d 171 73 [.inr (.inr (.inl a)), l1] (.inr (.inr (.inl a)) :: S) σ Q := pLdN (k := 0) f_171_72 rfl rfl rfl
theorem f_171_73 : oFet 171 73 = some (.iload_n 1, 1) := by decide +kernel
theorem s_171_73 {d : Nat} {l0 : oV} {x : Int} {S : List oV} {σ : oSg} {Q : Option oV → (Nat → oC) → Prop} : oE d 171 73 [l0, .inl x] S σ Q = oE d 171 74 [l0, .inl x] (.inl x :: S) σ Q := pLdN (k := 1) f_171_73 rfl rfl rfl
theorem f_171_74 : oFet 171 74 = some (.iconst 1, 1) := by decide +kernel
theorem s_171_74 {d : Nat} {l0 l1 : oV} {S : List oV} {σ : oSg} {Q : Option oV → (Nat → oC) → Prop} : oE d 171 74 [l0, l1] S σ Q = oE d 171 75 [l0, l1] (.inl (1) :: S) σ Q := pKst f_171_74 (by decide)
theorem f_171_75 : oFet 171 75 = some (.iadd, 1) := by decide +kernel
theorem s_171_75 {d : Nat} {l0 l1 : oV} {x y : Int} {S : List oV} {σ : oSg} {Q : Option oV → (Nat → oC) → Prop} : oE d 171 75 [l0, l1] (.inl y :: .inl x :: S) σ Q = oE d 171 76 [l0, l1] (.inl (oAdd x y) :: S) σ Q := oS3 f_171_75 rfl rfl rfl
theorem f_171_76 : oFet 171 76 = some (.invokevirtual 128, 3) := by decide +kernel
theorem c_171_76 {d : Nat} {l0 l1 : oV} {x0 : oV} {a : Nat} {v : Option oV} {τ : oSg} {S : List oV} {σ : oSg} {Q : Option oV → (Nat → oC) → Prop} (hm : oMi d 172 [.inr (.inr (.inl a)), x0] σ v τ) (hk : oKd a = some 11) (hs : oSmall S = true) : oE d 171 76 [l0, l1] (x0 :: .inr (.inr (.inl a)) :: S) σ Q = oE d 171 79 [l0, l1] (v.toList ++ S) τ Q := pCallV f_171_76 ow_171 lk_11_128 mt_172 rfl rfl rfl hk hs hm
theorem f_171_79 : oFet 171 79 = some (.aload_n 0, 1) := by decide +kernel
theorem s_171_79 {d : Nat} {l1 : oV} {a : Nat} {S : List oV} {σ : oSg} {Q : Option oV → (Nat → oC) → Prop} : oE d 171 79 [.inr (.inr (.inl a)), l1] S σ Q = oE d 171 80 [.inr (.inr (.inl a)), l1] (.inr (.inr (.inl a)) :: S) σ Q := pLdN (k := 0) f_171_79 rfl rfl rfl
theorem f_171_80 : oFet 171 80 = some (.iload_n 1, 1) := by decide +kernel
theorem s_171_80 {d : Nat} {l0 : oV} {x : Int} {S : List oV} {σ : oSg} {Q : Option oV → (Nat → oC) → Prop} : oE d 171 80 [l0, .inl x] S σ Q = oE d 171 81 [l0, .inl x] (.inl x :: S) σ Q := pLdN (k := 1) f_171_80 rfl rfl rfl
theorem f_171_81 : oFet 171 81 = some (.iconst 2, 1) := by decide +kernel
theorem s_171_81 {d : Nat} {l0 l1 : oV} {S : List oV} {σ : oSg} {Q : Option oV → (Nat → oC) → Prop} : oE d 171 81 [l0, l1] S σ Q = oE d 171 82 [l0, l1] (.inl (2) :: S) σ Q := pKst f_171_81 (by decide)
theorem f_171_82 : oFet 171 82 = some (.iadd, 1) := by decide +kernel
theorem s_171_82 {d : Nat} {l0 l1 : oV} {x y : Int} {S : List oV} {σ : oSg} {Q : Option oV → (Nat → oC) → Prop} : oE d 171 82 [l0, l1] (.inl y :: .inl x :: S) σ Q = oE d 171 83 [l0, l1] (.inl (oAdd x y) :: S) σ Q := oS3 f_171_82 rfl rfl rfl
theorem f_171_83 : oFet 171 83 = some (.invokevirtual 128, 3) := by decide +kernel
theorem c_171_83 {d : Nat} {l0 l1 : oV} {x0 : oV} {a : Nat} {v : Option oV} {τ : oSg} {S : List oV} {σ : oSg} {Q : Option oV → (Nat → oC) → Prop} (hm : oMi d 172 [.inr (.inr (.inl a)), x0] σ v τ) (hk : oKd a = some 11) (hs : oSmall S = true) : oE d 171 83 [l0, l1] (x0 :: .inr (.inr (.inl a)) :: S) σ Q = oE d 171 86 [l0, l1] (v.toList ++ S) τ Q := pCallV f_171_83 ow_171 lk_11_128 mt_172 rfl rfl rfl hk hs hm
theorem f_171_86 : oFet 171 86 = some (.invokevirtual 141, 3) := by decide +kernel
theorem c_171_86 {d : Nat} {l0 l1 : oV} {x0 x1 : oV} {a : Nat} {v : Option oV} {τ : oSg} {S : List oV} {σ : oSg} {Q : Option oV → (Nat → oC) → Prop} (hm : oMi d 152 [.inr (.inr (.inl a)), x0, x1] σ v τ) (hk : oKd a = some 11) (hs : oSmall S = true) : oE d 171 86 [l0, l1] (x1 :: x0 :: .inr (.inr (.inl a)) :: S) σ Q = oE d 171 89 [l0, l1] (v.toList ++ S) τ Q := pCallV f_171_86 ow_171 lk_11_141 mt_152 rfl rfl rfl hk hs hm
theorem f_171_89 : oFet 171 89 = some (.ireturn, 1) := by decide +kernel
theorem s_171_89 {d : Nat} {l0 l1 : oV} {x : Int} {σ : oSg} {Q : Option oV → (Nat → oC) → Prop} : oE d 171 89 [l0, l1] [.inl x] σ Q = Q (some (.inl x)) (oBld σ) := oIret f_171_89 rt_171
theorem f_171_90 : oFet 171 90 = some (.aload_n 0, 1) := by decide +kernel
theorem s_171_90 {d : Nat} {l1 : oV} {a : Nat} {S : List oV} {σ : oSg} {Q : Option oV → (Nat → oC) → Prop} : oE d 171 90 [.inr (.inr (.inl a)), l1] S σ Q = oE d 171 91 [.inr (.inr (.inl a)), l1] (.inr (.inr (.inl a)) :: S) σ Q := pLdN (k := 0) f_171_90 rfl rfl rfl
theorem f_171_91 : oFet 171 91 = some (.aload_n 0, 1) := by decide +kernel
theorem s_171_91 {d : Nat} {l1 : oV} {a : Nat} {S : List oV} {σ : oSg} {Q : Option oV → (Nat → oC) → Prop} : oE d 171 91 [.inr (.inr (.inl a)), l1] S σ Q = oE d 171 92 [.inr (.inr (.inl a)), l1] (.inr (.inr (.inl a)) :: S) σ Q := pLdN (k := 0) f_171_91 rfl rfl rfl
theorem f_171_92 : oFet 171 92 = some (.iload_n 1, 1) := by decide +kernel
theorem s_171_92 {d : Nat} {l0 : oV} {x : Int} {S : List oV} {σ : oSg} {Q : Option oV → (Nat → oC) → Prop} : oE d 171 92 [l0, .inl x] S σ Q = oE d 171 93 [l0, .inl x] (.inl x :: S) σ Q := pLdN (k := 1) f_171_92 rfl rfl rfl
theorem f_171_93 : oFet 171 93 = some (.iconst 1, 1) := by decide +kernel
theorem s_171_93 {d : Nat} {l0 l1 : oV} {S : List oV} {σ : oSg} {Q : Option oV → (Nat → oC) → Prop} : oE d 171 93 [l0, l1] S σ Q = oE d 171 94 [l0, l1] (.inl (1) :: S) σ Q := pKst f_171_93 (by decide)
theorem f_171_94 : oFet 171 94 = some (.iadd, 1) := by decide +kernel
theorem s_171_94 {d : Nat} {l0 l1 : oV} {x y : Int} {S : List oV} {σ : oSg} {Q : Option oV → (Nat → oC) → Prop} : oE d 171 94 [l0, l1] (.inl y :: .inl x :: S) σ Q = oE d 171 95 [l0, l1] (.inl (oAdd x y) :: S) σ Q := oS3 f_171_94 rfl rfl rfl
theorem f_171_95 : oFet 171 95 = some (.invokevirtual 128, 3) := by decide +kernel
theorem c_171_95 {d : Nat} {l0 l1 : oV} {x0 : oV} {a : Nat} {v : Option oV} {τ : oSg} {S : List oV} {σ : oSg} {Q : Option oV → (Nat → oC) → Prop} (hm : oMi d 172 [.inr (.inr (.inl a)), x0] σ v τ) (hk : oKd a = some 11) (hs : oSmall S = true) : oE d 171 95 [l0, l1] (x0 :: .inr (.inr (.inl a)) :: S) σ Q = oE d 171 98 [l0, l1] (v.toList ++ S) τ Q := pCallV f_171_95 ow_171 lk_11_128 mt_172 rfl rfl rfl hk hs hm
theorem f_171_98 : oFet 171 98 = some (.aload_n 0, 1) := by decide +kernel
theorem s_171_98 {d : Nat} {l1 : oV} {a : Nat} {S : List oV} {σ : oSg} {Q : Option oV → (Nat → oC) → Prop} : oE d 171 98 [.inr (.inr (.inl a)), l1] S σ Q = oE d 171 99 [.inr (.inr (.inl a)), l1] (.inr (.inr (.inl a)) :: S) σ Q := pLdN (k := 0) f_171_98 rfl rfl rfl
theorem f_171_99 : oFet 171 99 = some (.iload_n 1, 1) := by decide +kernel
theorem s_171_99 {d : Nat} {l0 : oV} {x : Int} {S : List oV} {σ : oSg} {Q : Option oV → (Nat → oC) → Prop} : oE d 171 99 [l0, .inl x] S σ Q = oE d 171 100 [l0, .inl x] (.inl x :: S) σ Q := pLdN (k := 1) f_171_99 rfl rfl rfl
theorem f_171_100 : oFet 171 100 = some (.iconst 2, 1) := by decide +kernel
theorem s_171_100 {d : Nat} {l0 l1 : oV} {S : List oV} {σ : oSg} {Q : Option oV → (Nat → oC) → Prop} : oE d 171 100 [l0, l1] S σ Q = oE d 171 101 [l0, l1] (.inl (2) :: S) σ Q := pKst f_171_100 (by decide)
theorem f_171_101 : oFet 171 101 = some (.iadd, 1) := by decide +kernel
theorem s_171_101 {d : Nat} {l0 l1 : oV} {x y : Int} {S : List oV} {σ : oSg} {Q : Option oV → (Nat → oC) → Prop} : oE d 171 101 [l0, l1] (.inl y :: .inl x :: S) σ Q = oE d 171 102 [l0, l1] (.inl (oAdd x y) :: S) σ Q := oS3 f_171_101 rfl rfl rfl
theorem f_171_102 : oFet 171 102 = some (.invokevirtual 134, 3) := by decide +kernel
theorem c_171_102 {d : Nat} {l0 l1 : oV} {x0 : oV} {a : Nat} {v : Option oV} {τ : oSg} {S : List oV} {σ : oSg} {Q : Option oV → (Nat → oC) → Prop} (hm : oMi d 173 [.inr (.inr (.inl a)), x0] σ v τ) (hk : oKd a = some 11) (hs : oSmall S = true) : oE d 171 102 [l0, l1] (x0 :: .inr (.inr (.inl a)) :: S) σ Q = oE d 171 105 [l0, l1] (v.toList ++ S) τ Q := pCallV f_171_102 ow_171 lk_11_134 mt_173 rfl rfl rfl hk hs hm
theorem f_171_105 : oFet 171 105 = some (.invokevirtual 144, 3) := by decide +kernel
theorem c_171_105 {d : Nat} {l0 l1 : oV} {x0 x1 : oV} {a : Nat} {v : Option oV} {τ : oSg} {S : List oV} {σ : oSg} {Q : Option oV → (Nat → oC) → Prop} (hm : oMi d 174 [.inr (.inr (.inl a)), x0, x1] σ v τ) (hk : oKd a = some 11) (hs : oSmall S = true) : oE d 171 105 [l0, l1] (x1 :: x0 :: .inr (.inr (.inl a)) :: S) σ Q = oE d 171 108 [l0, l1] (v.toList ++ S) τ Q := pCallV f_171_105 ow_171 lk_11_144 mt_174 rfl rfl rfl hk hs hm
theorem f_171_108 : oFet 171 108 = some (.ireturn, 1) := by decide +kernel
theorem s_171_108 {d : Nat} {l0 l1 : oV} {x : Int} {σ : oSg} {Q : Option oV → (Nat → oC) → Prop} : oE d 171 108 [l0, l1] [.inl x] σ Q = Q (some (.inl x)) (oBld σ) := oIret f_171_108 rt_171
theorem ow_172 : (oMt 172).2.2.2.2.1 = 11 := by decide +kernel
theorem rt_172 : (oMt 172).2.2.2.1 = some .int := by decide +kernel
theorem nl_172 : (oMt 172).2.2.1 = 2 := by decide +kernel
theorem f_172_0 : oFet 172 0 = some (.aload_n 0, 1) := by decide +kernel
theorem s_172_0 {d : Nat} {l1 : oV} {a : Nat} {S : List oV} {σ : oSg} {Q : Option oV → (Nat → oC) → Prop} : oE d 172 0 [.inr (.inr (.inl a)), l1] S σ Q = oE d 172 1 [.inr (.inr (.inl a)), l1] (.inr (.inr (.inl a)) :: S) σ Q := pLdN (k := 0) f_172_0 rfl rfl rfl
theorem f_172_1 : oFet 172 1 = some (.getfield 21, 3) := by decide +kernel
theorem s_172_1 {d : Nat} {l0 l1 : oV} {a : Nat} {S : List oV} {σ : oSg} {Q : Option oV → (Nat → oC) → Prop} (hk : oKd a = some 11) : oE d 172 1 [l0, l1] (.inr (.inr (.inl a)) :: S) σ Q = oE d 172 4 [l0, l1] (.inr (.inr (.inl (oRf a 4))) :: S) σ Q := pGfR f_172_1 ow_172 fl_11_21 rfl (by decide) hk
theorem f_172_4 : oFet 172 4 = some (.iload_n 1, 1) := by decide +kernel
theorem s_172_4 {d : Nat} {l0 : oV} {x : Int} {S : List oV} {σ : oSg} {Q : Option oV → (Nat → oC) → Prop} : oE d 172 4 [l0, .inl x] S σ Q = oE d 172 5 [l0, .inl x] (.inl x :: S) σ Q := pLdN (k := 1) f_172_4 rfl rfl rfl
theorem f_172_5 : oFet 172 5 = some (.iaload, 1) := by decide +kernel
theorem s_172_5 {d : Nat} {l0 l1 : oV} {a : Nat} {i : Int} {S : List oV} {σ : oSg} {Q : Option oV → (Nat → oC) → Prop} (hk : oAk a = some 0) (h0 : 0 ≤ i) (h1 : i < (oLn a : Int)) : oE d 172 5 [l0, l1] (.inl i :: .inr (.inr (.inl a)) :: S) σ Q = oE d 172 6 [l0, l1] (.inl (σ.2 a i.toNat) :: S) σ Q := oIal f_172_5 hk h0 h1
theorem f_172_6 : oFet 172 6 = some (.bipush 48, 2) := by decide +kernel
theorem s_172_6 {d : Nat} {l0 l1 : oV} {S : List oV} {σ : oSg} {Q : Option oV → (Nat → oC) → Prop} : oE d 172 6 [l0, l1] S σ Q = oE d 172 8 [l0, l1] (.inl (48) :: S) σ Q := pBip f_172_6 (by decide)
theorem f_172_8 : oFet 172 8 = some (.isub, 1) := by decide +kernel
theorem s_172_8 {d : Nat} {l0 l1 : oV} {x y : Int} {S : List oV} {σ : oSg} {Q : Option oV → (Nat → oC) → Prop} : oE d 172 8 [l0, l1] (.inl y :: .inl x :: S) σ Q = oE d 172 9 [l0, l1] (.inl (oSub x y) :: S) σ Q := oS3 f_172_8 rfl rfl rfl
theorem f_172_9 : oFet 172 9 = some (.ireturn, 1) := by decide +kernel
theorem s_172_9 {d : Nat} {l0 l1 : oV} {x : Int} {σ : oSg} {Q : Option oV → (Nat → oC) → Prop} : oE d 172 9 [l0, l1] [.inl x] σ Q = Q (some (.inl x)) (oBld σ) := oIret f_172_9 rt_172
theorem ow_173 : (oMt 173).2.2.2.2.1 = 11 := by decide +kernel
theorem rt_173 : (oMt 173).2.2.2.1 = some .int := by decide +kernel
theorem nl_173 : (oMt 173).2.2.1 = 2 := by decide +kernel
theorem f_173_0 : oFet 173 0 = some (.aload_n 0, 1) := by decide +kernel
theorem s_173_0 {d : Nat} {l1 : oV} {a : Nat} {S : List oV} {σ : oSg} {Q : Option oV → (Nat → oC) → Prop} : oE d 173 0 [.inr (.inr (.inl a)), l1] S σ Q = oE d 173 1 [.inr (.inr (.inl a)), l1] (.inr (.inr (.inl a)) :: S) σ Q := pLdN (k := 0) f_173_0 rfl rfl rfl
theorem f_173_1 : oFet 173 1 = some (.iload_n 1, 1) := by decide +kernel
theorem s_173_1 {d : Nat} {l0 : oV} {x : Int} {S : List oV} {σ : oSg} {Q : Option oV → (Nat → oC) → Prop} : oE d 173 1 [l0, .inl x] S σ Q = oE d 173 2 [l0, .inl x] (.inl x :: S) σ Q := pLdN (k := 1) f_173_1 rfl rfl rfl
theorem f_173_2 : oFet 173 2 = some (.iconst 1, 1) := by decide +kernel
theorem s_173_2 {d : Nat} {l0 l1 : oV} {S : List oV} {σ : oSg} {Q : Option oV → (Nat → oC) → Prop} : oE d 173 2 [l0, l1] S σ Q = oE d 173 3 [l0, l1] (.inl (1) :: S) σ Q := pKst f_173_2 (by decide)
theorem f_173_3 : oFet 173 3 = some (.iadd, 1) := by decide +kernel
theorem s_173_3 {d : Nat} {l0 l1 : oV} {x y : Int} {S : List oV} {σ : oSg} {Q : Option oV → (Nat → oC) → Prop} : oE d 173 3 [l0, l1] (.inl y :: .inl x :: S) σ Q = oE d 173 4 [l0, l1] (.inl (oAdd x y) :: S) σ Q := oS3 f_173_3 rfl rfl rfl
theorem f_173_4 : oFet 173 4 = some (.invokevirtual 122, 3) := by decide +kernel
theorem c_173_4 {d : Nat} {l0 l1 : oV} {x0 : oV} {a : Nat} {v : Option oV} {τ : oSg} {S : List oV} {σ : oSg} {Q : Option oV → (Nat → oC) → Prop} (hm : oMi d 170 [.inr (.inr (.inl a)), x0] σ v τ) (hk : oKd a = some 11) (hs : oSmall S = true) : oE d 173 4 [l0, l1] (x0 :: .inr (.inr (.inl a)) :: S) σ Q = oE d 173 7 [l0, l1] (v.toList ++ S) τ Q := pCallV f_173_4 ow_173 lk_11_122 mt_170 rfl rfl rfl hk hs hm
theorem f_173_7 : oFet 173 7 = some (.ifCond .eq 22, 3) := by decide +kernel
theorem s_173_7 {d : Nat} {l0 l1 : oV} {x : Int} {S : List oV} {σ : oSg} {Q : Option oV → (Nat → oC) → Prop} : oE d 173 7 [l0, l1] (.inl x :: S) σ Q = if x = 0 then oE d 173 29 [l0, l1] S σ Q else oE d 173 10 [l0, l1] S σ Q := oIfEq f_173_7 (by decide)
theorem f_173_10 : oFet 173 10 = some (.bipush 10, 2) := by decide +kernel
theorem s_173_10 {d : Nat} {l0 l1 : oV} {S : List oV} {σ : oSg} {Q : Option oV → (Nat → oC) → Prop} : oE d 173 10 [l0, l1] S σ Q = oE d 173 12 [l0, l1] (.inl (10) :: S) σ Q := pBip f_173_10 (by decide)
theorem f_173_12 : oFet 173 12 = some (.aload_n 0, 1) := by decide +kernel
theorem s_173_12 {d : Nat} {l1 : oV} {a : Nat} {S : List oV} {σ : oSg} {Q : Option oV → (Nat → oC) → Prop} : oE d 173 12 [.inr (.inr (.inl a)), l1] S σ Q = oE d 173 13 [.inr (.inr (.inl a)), l1] (.inr (.inr (.inl a)) :: S) σ Q := pLdN (k := 0) f_173_12 rfl rfl rfl
theorem f_173_13 : oFet 173 13 = some (.iload_n 1, 1) := by decide +kernel
theorem s_173_13 {d : Nat} {l0 : oV} {x : Int} {S : List oV} {σ : oSg} {Q : Option oV → (Nat → oC) → Prop} : oE d 173 13 [l0, .inl x] S σ Q = oE d 173 14 [l0, .inl x] (.inl x :: S) σ Q := pLdN (k := 1) f_173_13 rfl rfl rfl
theorem f_173_14 : oFet 173 14 = some (.invokevirtual 128, 3) := by decide +kernel
theorem c_173_14 {d : Nat} {l0 l1 : oV} {x0 : oV} {a : Nat} {v : Option oV} {τ : oSg} {S : List oV} {σ : oSg} {Q : Option oV → (Nat → oC) → Prop} (hm : oMi d 172 [.inr (.inr (.inl a)), x0] σ v τ) (hk : oKd a = some 11) (hs : oSmall S = true) : oE d 173 14 [l0, l1] (x0 :: .inr (.inr (.inl a)) :: S) σ Q = oE d 173 17 [l0, l1] (v.toList ++ S) τ Q := pCallV f_173_14 ow_173 lk_11_128 mt_172 rfl rfl rfl hk hs hm
theorem f_173_17 : oFet 173 17 = some (.imul, 1) := by decide +kernel
theorem s_173_17 {d : Nat} {l0 l1 : oV} {x y : Int} {S : List oV} {σ : oSg} {Q : Option oV → (Nat → oC) → Prop} : oE d 173 17 [l0, l1] (.inl y :: .inl x :: S) σ Q = oE d 173 18 [l0, l1] (.inl (oMul x y) :: S) σ Q := oS3 f_173_17 rfl rfl rfl
theorem f_173_18 : oFet 173 18 = some (.aload_n 0, 1) := by decide +kernel
theorem s_173_18 {d : Nat} {l1 : oV} {a : Nat} {S : List oV} {σ : oSg} {Q : Option oV → (Nat → oC) → Prop} : oE d 173 18 [.inr (.inr (.inl a)), l1] S σ Q = oE d 173 19 [.inr (.inr (.inl a)), l1] (.inr (.inr (.inl a)) :: S) σ Q := pLdN (k := 0) f_173_18 rfl rfl rfl
theorem f_173_19 : oFet 173 19 = some (.iload_n 1, 1) := by decide +kernel
theorem s_173_19 {d : Nat} {l0 : oV} {x : Int} {S : List oV} {σ : oSg} {Q : Option oV → (Nat → oC) → Prop} : oE d 173 19 [l0, .inl x] S σ Q = oE d 173 20 [l0, .inl x] (.inl x :: S) σ Q := pLdN (k := 1) f_173_19 rfl rfl rfl
theorem f_173_20 : oFet 173 20 = some (.iconst 1, 1) := by decide +kernel
theorem s_173_20 {d : Nat} {l0 l1 : oV} {S : List oV} {σ : oSg} {Q : Option oV → (Nat → oC) → Prop} : oE d 173 20 [l0, l1] S σ Q = oE d 173 21 [l0, l1] (.inl (1) :: S) σ Q := pKst f_173_20 (by decide)
theorem f_173_21 : oFet 173 21 = some (.iadd, 1) := by decide +kernel
theorem s_173_21 {d : Nat} {l0 l1 : oV} {x y : Int} {S : List oV} {σ : oSg} {Q : Option oV → (Nat → oC) → Prop} : oE d 173 21 [l0, l1] (.inl y :: .inl x :: S) σ Q = oE d 173 22 [l0, l1] (.inl (oAdd x y) :: S) σ Q := oS3 f_173_21 rfl rfl rfl
theorem f_173_22 : oFet 173 22 = some (.invokevirtual 128, 3) := by decide +kernel
theorem c_173_22 {d : Nat} {l0 l1 : oV} {x0 : oV} {a : Nat} {v : Option oV} {τ : oSg} {S : List oV} {σ : oSg} {Q : Option oV → (Nat → oC) → Prop} (hm : oMi d 172 [.inr (.inr (.inl a)), x0] σ v τ) (hk : oKd a = some 11) (hs : oSmall S = true) : oE d 173 22 [l0, l1] (x0 :: .inr (.inr (.inl a)) :: S) σ Q = oE d 173 25 [l0, l1] (v.toList ++ S) τ Q := pCallV f_173_22 ow_173 lk_11_128 mt_172 rfl rfl rfl hk hs hm
theorem f_173_25 : oFet 173 25 = some (.iadd, 1) := by decide +kernel
theorem s_173_25 {d : Nat} {l0 l1 : oV} {x y : Int} {S : List oV} {σ : oSg} {Q : Option oV → (Nat → oC) → Prop} : oE d 173 25 [l0, l1] (.inl y :: .inl x :: S) σ Q = oE d 173 26 [l0, l1] (.inl (oAdd x y) :: S) σ Q := oS3 f_173_25 rfl rfl rfl
theorem f_173_26 : oFet 173 26 = some (.goto 8, 3) := by decide +kernel
theorem s_173_26 {d : Nat} {l0 l1 : oV} {S : List oV} {σ : oSg} {Q : Option oV → (Nat → oC) → Prop} : oE d 173 26 [l0, l1] S σ Q = oE d 173 34 [l0, l1] S σ Q := pGoto f_173_26 (by decide)
theorem f_173_29 : oFet 173 29 = some (.aload_n 0, 1) := by decide +kernel
theorem s_173_29 {d : Nat} {l1 : oV} {a : Nat} {S : List oV} {σ : oSg} {Q : Option oV → (Nat → oC) → Prop} : oE d 173 29 [.inr (.inr (.inl a)), l1] S σ Q = oE d 173 30 [.inr (.inr (.inl a)), l1] (.inr (.inr (.inl a)) :: S) σ Q := pLdN (k := 0) f_173_29 rfl rfl rfl
theorem f_173_30 : oFet 173 30 = some (.iload_n 1, 1) := by decide +kernel
theorem s_173_30 {d : Nat} {l0 : oV} {x : Int} {S : List oV} {σ : oSg} {Q : Option oV → (Nat → oC) → Prop} : oE d 173 30 [l0, .inl x] S σ Q = oE d 173 31 [l0, .inl x] (.inl x :: S) σ Q := pLdN (k := 1) f_173_30 rfl rfl rfl
theorem f_173_31 : oFet 173 31 = some (.invokevirtual 128, 3) := by decide +kernel
theorem c_173_31 {d : Nat} {l0 l1 : oV} {x0 : oV} {a : Nat} {v : Option oV} {τ : oSg} {S : List oV} {σ : oSg} {Q : Option oV → (Nat → oC) → Prop} (hm : oMi d 172 [.inr (.inr (.inl a)), x0] σ v τ) (hk : oKd a = some 11) (hs : oSmall S = true) : oE d 173 31 [l0, l1] (x0 :: .inr (.inr (.inl a)) :: S) σ Q = oE d 173 34 [l0, l1] (v.toList ++ S) τ Q := pCallV f_173_31 ow_173 lk_11_128 mt_172 rfl rfl rfl hk hs hm
theorem f_173_34 : oFet 173 34 = some (.ireturn, 1) := by decide +kernel
theorem s_173_34 {d : Nat} {l0 l1 : oV} {x : Int} {σ : oSg} {Q : Option oV → (Nat → oC) → Prop} : oE d 173 34 [l0, l1] [.inl x] σ Q = Q (some (.inl x)) (oBld σ) := oIret f_173_34 rt_173
theorem ow_174 : (oMt 174).2.2.2.2.1 = 11 := by decide +kernel
theorem rt_174 : (oMt 174).2.2.2.1 = some .int := by decide +kernel
theorem nl_174 : (oMt 174).2.2.1 = 4 := by decide +kernel
theorem f_174_0 : oFet 174 0 = some (.aload_n 0, 1) := by decide +kernel
theorem s_174_0 {d : Nat} {l1 l2 l3 : oV} {a : Nat} {S : List oV} {σ : oSg} {Q : Option oV → (Nat → oC) → Prop} : oE d 174 0 [.inr (.inr (.inl a)), l1, l2, l3] S σ Q = oE d 174 1 [.inr (.inr (.inl a)), l1, l2, l3] (.inr (.inr (.inl a)) :: S) σ Q := pLdN (k := 0) f_174_0 rfl rfl rfl
theorem f_174_1 : oFet 174 1 = some (.iload_n 1, 1) := by decide +kernel
theorem s_174_1 {d : Nat} {l0 l2 l3 : oV} {x : Int} {S : List oV} {σ : oSg} {Q : Option oV → (Nat → oC) → Prop} : oE d 174 1 [l0, .inl x, l2, l3] S σ Q = oE d 174 2 [l0, .inl x, l2, l3] (.inl x :: S) σ Q := pLdN (k := 1) f_174_1 rfl rfl rfl
theorem f_174_2 : oFet 174 2 = some (.invokevirtual 61, 3) := by decide +kernel
theorem c_174_2 {d : Nat} {l0 l1 l2 l3 : oV} {x0 : oV} {a : Nat} {v : Option oV} {τ : oSg} {S : List oV} {σ : oSg} {Q : Option oV → (Nat → oC) → Prop} (hm : oMi d 145 [.inr (.inr (.inl a)), x0] σ v τ) (hk : oKd a = some 11) (hs : oSmall S = true) : oE d 174 2 [l0, l1, l2, l3] (x0 :: .inr (.inr (.inl a)) :: S) σ Q = oE d 174 5 [l0, l1, l2, l3] (v.toList ++ S) τ Q := pCallV f_174_2 ow_174 lk_11_61 mt_145 rfl rfl rfl hk hs hm
theorem f_174_5 : oFet 174 5 = some (.ifCond .ne 5, 3) := by decide +kernel
theorem s_174_5 {d : Nat} {l0 l1 l2 l3 : oV} {x : Int} {S : List oV} {σ : oSg} {Q : Option oV → (Nat → oC) → Prop} : oE d 174 5 [l0, l1, l2, l3] (.inl x :: S) σ Q = if ¬ x = 0 then oE d 174 10 [l0, l1, l2, l3] S σ Q else oE d 174 8 [l0, l1, l2, l3] S σ Q := oIfNe f_174_5 (by decide)
theorem f_174_8 : oFet 174 8 = some (.iconst (-1), 1) := by decide +kernel
theorem s_174_8 {d : Nat} {l0 l1 l2 l3 : oV} {S : List oV} {σ : oSg} {Q : Option oV → (Nat → oC) → Prop} : oE d 174 8 [l0, l1, l2, l3] S σ Q = oE d 174 9 [l0, l1, l2, l3] (.inl (-1) :: S) σ Q := pKst f_174_8 (by decide)
theorem f_174_9 : oFet 174 9 = some (.ireturn, 1) := by decide +kernel
theorem s_174_9 {d : Nat} {l0 l1 l2 l3 : oV} {x : Int} {σ : oSg} {Q : Option oV → (Nat → oC) → Prop} : oE d 174 9 [l0, l1, l2, l3] [.inl x] σ Q = Q (some (.inl x)) (oBld σ) := oIret f_174_9 rt_174
theorem f_174_10 : oFet 174 10 = some (.iload_n 2, 1) := by decide +kernel
theorem s_174_10 {d : Nat} {l0 l1 l3 : oV} {x : Int} {S : List oV} {σ : oSg} {Q : Option oV → (Nat → oC) → Prop} : oE d 174 10 [l0, l1, .inl x, l3] S σ Q = oE d 174 11 [l0, l1, .inl x, l3] (.inl x :: S) σ Q := pLdN (k := 2) f_174_10 rfl rfl rfl
theorem f_174_11 : oFet 174 11 = some (.iconst 0, 1) := by decide +kernel
theorem s_174_11 {d : Nat} {l0 l1 l2 l3 : oV} {S : List oV} {σ : oSg} {Q : Option oV → (Nat → oC) → Prop} : oE d 174 11 [l0, l1, l2, l3] S σ Q = oE d 174 12 [l0, l1, l2, l3] (.inl (0) :: S) σ Q := pKst f_174_11 (by decide)
theorem f_174_12 : oFet 174 12 = some (.bipush 60, 2) := by decide +kernel
theorem s_174_12 {d : Nat} {l0 l1 l2 l3 : oV} {S : List oV} {σ : oSg} {Q : Option oV → (Nat → oC) → Prop} : oE d 174 12 [l0, l1, l2, l3] S σ Q = oE d 174 14 [l0, l1, l2, l3] (.inl (60) :: S) σ Q := pBip f_174_12 (by decide)
theorem f_174_14 : oFet 174 14 = some (.invokestatic 57, 3) := by decide +kernel
theorem c_174_14 {d : Nat} {l0 l1 l2 l3 : oV} {x0 x1 x2 : oV} {v : Option oV} {τ : oSg} {S : List oV} {σ : oSg} {Q : Option oV → (Nat → oC) → Prop} (hm : oMi d 146 [x0, x1, x2] σ v τ) (hs : oSmall S = true) : oE d 174 14 [l0, l1, l2, l3] (x2 :: x1 :: x0 :: S) σ Q = oE d 174 17 [l0, l1, l2, l3] (v.toList ++ S) τ Q := pCallS f_174_14 ow_174 lk_11_57 mt_146 rfl rfl rfl hs hm
theorem f_174_17 : oFet 174 17 = some (.ifCond .ne 6, 3) := by decide +kernel
theorem s_174_17 {d : Nat} {l0 l1 l2 l3 : oV} {x : Int} {S : List oV} {σ : oSg} {Q : Option oV → (Nat → oC) → Prop} : oE d 174 17 [l0, l1, l2, l3] (.inl x :: S) σ Q = if ¬ x = 0 then oE d 174 23 [l0, l1, l2, l3] S σ Q else oE d 174 20 [l0, l1, l2, l3] S σ Q := oIfNe f_174_17 (by decide)
theorem f_174_20 : oFet 174 20 = some (.bipush (-2), 2) := by decide +kernel
theorem s_174_20 {d : Nat} {l0 l1 l2 l3 : oV} {S : List oV} {σ : oSg} {Q : Option oV → (Nat → oC) → Prop} : oE d 174 20 [l0, l1, l2, l3] S σ Q = oE d 174 22 [l0, l1, l2, l3] (.inl (-2) :: S) σ Q := pBip f_174_20 (by decide)
theorem f_174_22 : oFet 174 22 = some (.ireturn, 1) := by decide +kernel
theorem s_174_22 {d : Nat} {l0 l1 l2 l3 : oV} {x : Int} {σ : oSg} {Q : Option oV → (Nat → oC) → Prop} : oE d 174 22 [l0, l1, l2, l3] [.inl x] σ Q = Q (some (.inl x)) (oBld σ) := oIret f_174_22 rt_174
theorem f_174_23 : oFet 174 23 = some (.aload_n 0, 1) := by decide +kernel
theorem s_174_23 {d : Nat} {l1 l2 l3 : oV} {a : Nat} {S : List oV} {σ : oSg} {Q : Option oV → (Nat → oC) → Prop} : oE d 174 23 [.inr (.inr (.inl a)), l1, l2, l3] S σ Q = oE d 174 24 [.inr (.inr (.inl a)), l1, l2, l3] (.inr (.inr (.inl a)) :: S) σ Q := pLdN (k := 0) f_174_23 rfl rfl rfl
theorem f_174_24 : oFet 174 24 = some (.getfield 11, 3) := by decide +kernel
theorem s_174_24 {d : Nat} {l0 l1 l2 l3 : oV} {a : Nat} {S : List oV} {σ : oSg} {Q : Option oV → (Nat → oC) → Prop} (hk : oKd a = some 11) : oE d 174 24 [l0, l1, l2, l3] (.inr (.inr (.inl a)) :: S) σ Q = oE d 174 27 [l0, l1, l2, l3] (.inr (.inr (.inl (oRf a 0))) :: S) σ Q := pGfR f_174_24 ow_174 fl_11_11 rfl (by decide) hk
theorem f_174_27 : oFet 174 27 = some (.bipush 57, 2) := by decide +kernel
theorem s_174_27 {d : Nat} {l0 l1 l2 l3 : oV} {S : List oV} {σ : oSg} {Q : Option oV → (Nat → oC) → Prop} : oE d 174 27 [l0, l1, l2, l3] S σ Q = oE d 174 29 [l0, l1, l2, l3] (.inl (57) :: S) σ Q := pBip f_174_27 (by decide)
theorem f_174_29 : oFet 174 29 = some (.iload_n 1, 1) := by decide +kernel
theorem s_174_29 {d : Nat} {l0 l2 l3 : oV} {x : Int} {S : List oV} {σ : oSg} {Q : Option oV → (Nat → oC) → Prop} : oE d 174 29 [l0, .inl x, l2, l3] S σ Q = oE d 174 30 [l0, .inl x, l2, l3] (.inl x :: S) σ Q := pLdN (k := 1) f_174_29 rfl rfl rfl
theorem f_174_30 : oFet 174 30 = some (.iadd, 1) := by decide +kernel
theorem s_174_30 {d : Nat} {l0 l1 l2 l3 : oV} {x y : Int} {S : List oV} {σ : oSg} {Q : Option oV → (Nat → oC) → Prop} : oE d 174 30 [l0, l1, l2, l3] (.inl y :: .inl x :: S) σ Q = oE d 174 31 [l0, l1, l2, l3] (.inl (oAdd x y) :: S) σ Q := oS3 f_174_30 rfl rfl rfl
theorem f_174_31 : oFet 174 31 = some (.iaload, 1) := by decide +kernel
theorem s_174_31 {d : Nat} {l0 l1 l2 l3 : oV} {a : Nat} {i : Int} {S : List oV} {σ : oSg} {Q : Option oV → (Nat → oC) → Prop} (hk : oAk a = some 0) (h0 : 0 ≤ i) (h1 : i < (oLn a : Int)) : oE d 174 31 [l0, l1, l2, l3] (.inl i :: .inr (.inr (.inl a)) :: S) σ Q = oE d 174 32 [l0, l1, l2, l3] (.inl (σ.2 a i.toNat) :: S) σ Q := oIal f_174_31 hk h0 h1
theorem f_174_32 : oFet 174 32 = some (.istore_n 3, 1) := by decide +kernel
theorem s_174_32 {d : Nat} {l0 l1 l2 l3 : oV} {x : Int} {S : List oV} {σ : oSg} {Q : Option oV → (Nat → oC) → Prop} (c3 : oCat l3 = 1) (c2 : oCat l2 = 1)  : oE d 174 32 [l0, l1, l2, l3] (.inl x :: S) σ Q = oE d 174 33 [l0, l1, l2, .inl x] S σ Q := pSt (i := 3) f_174_32 rfl rfl (show (3 : Nat) < 4 by decide) (oC1n c2) (oC1n c3) rfl
theorem f_174_33 : oFet 174 33 = some (.aload_n 0, 1) := by decide +kernel
theorem s_174_33 {d : Nat} {l1 l2 l3 : oV} {a : Nat} {S : List oV} {σ : oSg} {Q : Option oV → (Nat → oC) → Prop} : oE d 174 33 [.inr (.inr (.inl a)), l1, l2, l3] S σ Q = oE d 174 34 [.inr (.inr (.inl a)), l1, l2, l3] (.inr (.inr (.inl a)) :: S) σ Q := pLdN (k := 0) f_174_33 rfl rfl rfl
theorem f_174_34 : oFet 174 34 = some (.getfield 11, 3) := by decide +kernel
theorem s_174_34 {d : Nat} {l0 l1 l2 l3 : oV} {a : Nat} {S : List oV} {σ : oSg} {Q : Option oV → (Nat → oC) → Prop} (hk : oKd a = some 11) : oE d 174 34 [l0, l1, l2, l3] (.inr (.inr (.inl a)) :: S) σ Q = oE d 174 37 [l0, l1, l2, l3] (.inr (.inr (.inl (oRf a 0))) :: S) σ Q := pGfR f_174_34 ow_174 fl_11_11 rfl (by decide) hk
theorem f_174_37 : oFet 174 37 = some (.bipush 57, 2) := by decide +kernel
theorem s_174_37 {d : Nat} {l0 l1 l2 l3 : oV} {S : List oV} {σ : oSg} {Q : Option oV → (Nat → oC) → Prop} : oE d 174 37 [l0, l1, l2, l3] S σ Q = oE d 174 39 [l0, l1, l2, l3] (.inl (57) :: S) σ Q := pBip f_174_37 (by decide)
theorem f_174_39 : oFet 174 39 = some (.iload_n 1, 1) := by decide +kernel
theorem s_174_39 {d : Nat} {l0 l2 l3 : oV} {x : Int} {S : List oV} {σ : oSg} {Q : Option oV → (Nat → oC) → Prop} : oE d 174 39 [l0, .inl x, l2, l3] S σ Q = oE d 174 40 [l0, .inl x, l2, l3] (.inl x :: S) σ Q := pLdN (k := 1) f_174_39 rfl rfl rfl
theorem f_174_40 : oFet 174 40 = some (.iadd, 1) := by decide +kernel
theorem s_174_40 {d : Nat} {l0 l1 l2 l3 : oV} {x y : Int} {S : List oV} {σ : oSg} {Q : Option oV → (Nat → oC) → Prop} : oE d 174 40 [l0, l1, l2, l3] (.inl y :: .inl x :: S) σ Q = oE d 174 41 [l0, l1, l2, l3] (.inl (oAdd x y) :: S) σ Q := oS3 f_174_40 rfl rfl rfl
theorem f_174_41 : oFet 174 41 = some (.iload_n 2, 1) := by decide +kernel
theorem s_174_41 {d : Nat} {l0 l1 l3 : oV} {x : Int} {S : List oV} {σ : oSg} {Q : Option oV → (Nat → oC) → Prop} : oE d 174 41 [l0, l1, .inl x, l3] S σ Q = oE d 174 42 [l0, l1, .inl x, l3] (.inl x :: S) σ Q := pLdN (k := 2) f_174_41 rfl rfl rfl
theorem f_174_42 : oFet 174 42 = some (.iastore, 1) := by decide +kernel
theorem s_174_42 {d : Nat} {l0 l1 l2 l3 : oV} {a : Nat} {i v : Int} {S : List oV} {σ : oSg} {Q : Option oV → (Nat → oC) → Prop} (hk : oAk a = some 0) (h0 : 0 ≤ i) (h1 : i < (oLn a : Int)) : oE d 174 42 [l0, l1, l2, l3] (.inl v :: .inl i :: .inr (.inr (.inl a)) :: S) σ Q = oE d 174 43 [l0, l1, l2, l3] S (oSA σ a i.toNat v) Q := oIas f_174_42 hk h0 h1
theorem f_174_43 : oFet 174 43 = some (.iload_n 3, 1) := by decide +kernel
theorem s_174_43 {d : Nat} {l0 l1 l2 : oV} {x : Int} {S : List oV} {σ : oSg} {Q : Option oV → (Nat → oC) → Prop} : oE d 174 43 [l0, l1, l2, .inl x] S σ Q = oE d 174 44 [l0, l1, l2, .inl x] (.inl x :: S) σ Q := pLdN (k := 3) f_174_43 rfl rfl rfl
theorem f_174_44 : oFet 174 44 = some (.ireturn, 1) := by decide +kernel
theorem s_174_44 {d : Nat} {l0 l1 l2 l3 : oV} {x : Int} {σ : oSg} {Q : Option oV → (Nat → oC) → Prop} : oE d 174 44 [l0, l1, l2, l3] [.inl x] σ Q = Q (some (.inl x)) (oBld σ) := oIret f_174_44 rt_174
theorem ow_175 : (oMt 175).2.2.2.2.1 = 11 := by decide +kernel
theorem rt_175 : (oMt 175).2.2.2.1 = some .int := by decide +kernel
theorem nl_175 : (oMt 175).2.2.1 = 2 := by decide +kernel
theorem f_175_0 : oFet 175 0 = some (.aload_n 0, 1) := by decide +kernel
theorem s_175_0 {d : Nat} {l1 : oV} {a : Nat} {S : List oV} {σ : oSg} {Q : Option oV → (Nat → oC) → Prop} : oE d 175 0 [.inr (.inr (.inl a)), l1] S σ Q = oE d 175 1 [.inr (.inr (.inl a)), l1] (.inr (.inr (.inl a)) :: S) σ Q := pLdN (k := 0) f_175_0 rfl rfl rfl
theorem f_175_1 : oFet 175 1 = some (.invokevirtual 108, 3) := by decide +kernel
theorem c_175_1 {d : Nat} {l0 l1 : oV} {a : Nat} {v : Option oV} {τ : oSg} {S : List oV} {σ : oSg} {Q : Option oV → (Nat → oC) → Prop} (hm : oMi d 162 [.inr (.inr (.inl a))] σ v τ) (hk : oKd a = some 11) (hs : oSmall S = true) : oE d 175 1 [l0, l1] (.inr (.inr (.inl a)) :: S) σ Q = oE d 175 4 [l0, l1] (v.toList ++ S) τ Q := pCallV f_175_1 ow_175 lk_11_108 mt_162 rfl rfl rfl hk hs hm
theorem f_175_4 : oFet 175 4 = some (.ifCond .ne 6, 3) := by decide +kernel
theorem s_175_4 {d : Nat} {l0 l1 : oV} {x : Int} {S : List oV} {σ : oSg} {Q : Option oV → (Nat → oC) → Prop} : oE d 175 4 [l0, l1] (.inl x :: S) σ Q = if ¬ x = 0 then oE d 175 10 [l0, l1] S σ Q else oE d 175 7 [l0, l1] S σ Q := oIfNe f_175_4 (by decide)
theorem f_175_7 : oFet 175 7 = some (.bipush (-5), 2) := by decide +kernel
theorem s_175_7 {d : Nat} {l0 l1 : oV} {S : List oV} {σ : oSg} {Q : Option oV → (Nat → oC) → Prop} : oE d 175 7 [l0, l1] S σ Q = oE d 175 9 [l0, l1] (.inl (-5) :: S) σ Q := pBip f_175_7 (by decide)
theorem f_175_9 : oFet 175 9 = some (.ireturn, 1) := by decide +kernel
theorem s_175_9 {d : Nat} {l0 l1 : oV} {x : Int} {σ : oSg} {Q : Option oV → (Nat → oC) → Prop} : oE d 175 9 [l0, l1] [.inl x] σ Q = Q (some (.inl x)) (oBld σ) := oIret f_175_9 rt_175
theorem f_175_10 : oFet 175 10 = some (.iload_n 1, 1) := by decide +kernel
theorem s_175_10 {d : Nat} {l0 : oV} {x : Int} {S : List oV} {σ : oSg} {Q : Option oV → (Nat → oC) → Prop} : oE d 175 10 [l0, .inl x] S σ Q = oE d 175 11 [l0, .inl x] (.inl x :: S) σ Q := pLdN (k := 1) f_175_10 rfl rfl rfl
theorem f_175_11 : oFet 175 11 = some (.iconst (-1), 1) := by decide +kernel
theorem s_175_11 {d : Nat} {l0 l1 : oV} {S : List oV} {σ : oSg} {Q : Option oV → (Nat → oC) → Prop} : oE d 175 11 [l0, l1] S σ Q = oE d 175 12 [l0, l1] (.inl (-1) :: S) σ Q := pKst f_175_11 (by decide)
theorem f_175_12 : oFet 175 12 = some (.if_icmp .ne 8, 3) := by decide +kernel
theorem s_175_12 {d : Nat} {l0 l1 : oV} {x y : Int} {S : List oV} {σ : oSg} {Q : Option oV → (Nat → oC) → Prop} : oE d 175 12 [l0, l1] (.inl y :: .inl x :: S) σ Q = if ¬ x = y then oE d 175 20 [l0, l1] S σ Q else oE d 175 15 [l0, l1] S σ Q := oCmpNe f_175_12 (by decide)
theorem f_175_15 : oFet 175 15 = some (.aload_n 0, 1) := by decide +kernel
theorem s_175_15 {d : Nat} {l1 : oV} {a : Nat} {S : List oV} {σ : oSg} {Q : Option oV → (Nat → oC) → Prop} : oE d 175 15 [.inr (.inr (.inl a)), l1] S σ Q = oE d 175 16 [.inr (.inr (.inl a)), l1] (.inr (.inr (.inl a)) :: S) σ Q := pLdN (k := 0) f_175_15 rfl rfl rfl
theorem f_175_16 : oFet 175 16 = some (.getfield 112, 3) := by decide +kernel
theorem s_175_16 {d : Nat} {l0 l1 : oV} {a : Nat} {S : List oV} {σ : oSg} {Q : Option oV → (Nat → oC) → Prop} (hk : oKd a = some 11) : oE d 175 16 [l0, l1] (.inr (.inr (.inl a)) :: S) σ Q = oE d 175 19 [l0, l1] (.inl (σ.1 a 9) :: S) σ Q := pGfI f_175_16 ow_175 fl_11_112 rfl (by decide) hk
theorem f_175_19 : oFet 175 19 = some (.ireturn, 1) := by decide +kernel
theorem s_175_19 {d : Nat} {l0 l1 : oV} {x : Int} {σ : oSg} {Q : Option oV → (Nat → oC) → Prop} : oE d 175 19 [l0, l1] [.inl x] σ Q = Q (some (.inl x)) (oBld σ) := oIret f_175_19 rt_175
theorem f_175_20 : oFet 175 20 = some (.iload_n 1, 1) := by decide +kernel
theorem s_175_20 {d : Nat} {l0 : oV} {x : Int} {S : List oV} {σ : oSg} {Q : Option oV → (Nat → oC) → Prop} : oE d 175 20 [l0, .inl x] S σ Q = oE d 175 21 [l0, .inl x] (.inl x :: S) σ Q := pLdN (k := 1) f_175_20 rfl rfl rfl
theorem f_175_21 : oFet 175 21 = some (.iconst 0, 1) := by decide +kernel
theorem s_175_21 {d : Nat} {l0 l1 : oV} {S : List oV} {σ : oSg} {Q : Option oV → (Nat → oC) → Prop} : oE d 175 21 [l0, l1] S σ Q = oE d 175 22 [l0, l1] (.inl (0) :: S) σ Q := pKst f_175_21 (by decide)
theorem f_175_22 : oFet 175 22 = some (.aload_n 0, 1) := by decide +kernel
theorem s_175_22 {d : Nat} {l1 : oV} {a : Nat} {S : List oV} {σ : oSg} {Q : Option oV → (Nat → oC) → Prop} : oE d 175 22 [.inr (.inr (.inl a)), l1] S σ Q = oE d 175 23 [.inr (.inr (.inl a)), l1] (.inr (.inr (.inl a)) :: S) σ Q := pLdN (k := 0) f_175_22 rfl rfl rfl
theorem f_175_23 : oFet 175 23 = some (.getfield 112, 3) := by decide +kernel
theorem s_175_23 {d : Nat} {l0 l1 : oV} {a : Nat} {S : List oV} {σ : oSg} {Q : Option oV → (Nat → oC) → Prop} (hk : oKd a = some 11) : oE d 175 23 [l0, l1] (.inr (.inr (.inl a)) :: S) σ Q = oE d 175 26 [l0, l1] (.inl (σ.1 a 9) :: S) σ Q := pGfI f_175_23 ow_175 fl_11_112 rfl (by decide) hk
theorem f_175_26 : oFet 175 26 = some (.iconst 1, 1) := by decide +kernel
theorem s_175_26 {d : Nat} {l0 l1 : oV} {S : List oV} {σ : oSg} {Q : Option oV → (Nat → oC) → Prop} : oE d 175 26 [l0, l1] S σ Q = oE d 175 27 [l0, l1] (.inl (1) :: S) σ Q := pKst f_175_26 (by decide)
theorem f_175_27 : oFet 175 27 = some (.isub, 1) := by decide +kernel
theorem s_175_27 {d : Nat} {l0 l1 : oV} {x y : Int} {S : List oV} {σ : oSg} {Q : Option oV → (Nat → oC) → Prop} : oE d 175 27 [l0, l1] (.inl y :: .inl x :: S) σ Q = oE d 175 28 [l0, l1] (.inl (oSub x y) :: S) σ Q := oS3 f_175_27 rfl rfl rfl
theorem f_175_28 : oFet 175 28 = some (.invokestatic 57, 3) := by decide +kernel
theorem c_175_28 {d : Nat} {l0 l1 : oV} {x0 x1 x2 : oV} {v : Option oV} {τ : oSg} {S : List oV} {σ : oSg} {Q : Option oV → (Nat → oC) → Prop} (hm : oMi d 146 [x0, x1, x2] σ v τ) (hs : oSmall S = true) : oE d 175 28 [l0, l1] (x2 :: x1 :: x0 :: S) σ Q = oE d 175 31 [l0, l1] (v.toList ++ S) τ Q := pCallS f_175_28 ow_175 lk_11_57 mt_146 rfl rfl rfl hs hm
theorem f_175_31 : oFet 175 31 = some (.ifCond .eq 12, 3) := by decide +kernel
theorem s_175_31 {d : Nat} {l0 l1 : oV} {x : Int} {S : List oV} {σ : oSg} {Q : Option oV → (Nat → oC) → Prop} : oE d 175 31 [l0, l1] (.inl x :: S) σ Q = if x = 0 then oE d 175 43 [l0, l1] S σ Q else oE d 175 34 [l0, l1] S σ Q := oIfEq f_175_31 (by decide)
theorem f_175_34 : oFet 175 34 = some (.aload_n 0, 1) := by decide +kernel
theorem s_175_34 {d : Nat} {l1 : oV} {a : Nat} {S : List oV} {σ : oSg} {Q : Option oV → (Nat → oC) → Prop} : oE d 175 34 [.inr (.inr (.inl a)), l1] S σ Q = oE d 175 35 [.inr (.inr (.inl a)), l1] (.inr (.inr (.inl a)) :: S) σ Q := pLdN (k := 0) f_175_34 rfl rfl rfl
theorem f_175_35 : oFet 175 35 = some (.getfield 27, 3) := by decide +kernel
theorem s_175_35 {d : Nat} {l0 l1 : oV} {a : Nat} {S : List oV} {σ : oSg} {Q : Option oV → (Nat → oC) → Prop} (hk : oKd a = some 11) : oE d 175 35 [l0, l1] (.inr (.inr (.inl a)) :: S) σ Q = oE d 175 38 [l0, l1] (.inr (.inr (.inl (oRf a 8))) :: S) σ Q := pGfR f_175_35 ow_175 fl_11_27 rfl (by decide) hk
theorem f_175_38 : oFet 175 38 = some (.iload_n 1, 1) := by decide +kernel
theorem s_175_38 {d : Nat} {l0 : oV} {x : Int} {S : List oV} {σ : oSg} {Q : Option oV → (Nat → oC) → Prop} : oE d 175 38 [l0, .inl x] S σ Q = oE d 175 39 [l0, .inl x] (.inl x :: S) σ Q := pLdN (k := 1) f_175_38 rfl rfl rfl
theorem f_175_39 : oFet 175 39 = some (.iaload, 1) := by decide +kernel
theorem s_175_39 {d : Nat} {l0 l1 : oV} {a : Nat} {i : Int} {S : List oV} {σ : oSg} {Q : Option oV → (Nat → oC) → Prop} (hk : oAk a = some 0) (h0 : 0 ≤ i) (h1 : i < (oLn a : Int)) : oE d 175 39 [l0, l1] (.inl i :: .inr (.inr (.inl a)) :: S) σ Q = oE d 175 40 [l0, l1] (.inl (σ.2 a i.toNat) :: S) σ Q := oIal f_175_39 hk h0 h1
theorem f_175_40 : oFet 175 40 = some (.goto 4, 3) := by decide +kernel
theorem s_175_40 {d : Nat} {l0 l1 : oV} {S : List oV} {σ : oSg} {Q : Option oV → (Nat → oC) → Prop} : oE d 175 40 [l0, l1] S σ Q = oE d 175 44 [l0, l1] S σ Q := pGoto f_175_40 (by decide)
theorem f_175_43 : oFet 175 43 = some (.iconst (-1), 1) := by decide +kernel
theorem s_175_43 {d : Nat} {l0 l1 : oV} {S : List oV} {σ : oSg} {Q : Option oV → (Nat → oC) → Prop} : oE d 175 43 [l0, l1] S σ Q = oE d 175 44 [l0, l1] (.inl (-1) :: S) σ Q := pKst f_175_43 (by decide)
theorem f_175_44 : oFet 175 44 = some (.ireturn, 1) := by decide +kernel
theorem s_175_44 {d : Nat} {l0 l1 : oV} {x : Int} {σ : oSg} {Q : Option oV → (Nat → oC) → Prop} : oE d 175 44 [l0, l1] [.inl x] σ Q = Q (some (.inl x)) (oBld σ) := oIret f_175_44 rt_175
theorem ow_176 : (oMt 176).2.2.2.2.1 = 11 := by decide +kernel
theorem rt_176 : (oMt 176).2.2.2.1 = some .int := by decide +kernel
theorem nl_176 : (oMt 176).2.2.1 = 4 := by decide +kernel
theorem f_176_0 : oFet 176 0 = some (.iload_n 1, 1) := by decide +kernel
theorem s_176_0 {d : Nat} {l0 l2 l3 : oV} {x : Int} {S : List oV} {σ : oSg} {Q : Option oV → (Nat → oC) → Prop} : oE d 176 0 [l0, .inl x, l2, l3] S σ Q = oE d 176 1 [l0, .inl x, l2, l3] (.inl x :: S) σ Q := pLdN (k := 1) f_176_0 rfl rfl rfl
theorem f_176_1 : oFet 176 1 = some (.iconst 0, 1) := by decide +kernel
theorem s_176_1 {d : Nat} {l0 l1 l2 l3 : oV} {S : List oV} {σ : oSg} {Q : Option oV → (Nat → oC) → Prop} : oE d 176 1 [l0, l1, l2, l3] S σ Q = oE d 176 2 [l0, l1, l2, l3] (.inl (0) :: S) σ Q := pKst f_176_1 (by decide)
theorem f_176_2 : oFet 176 2 = some (.iconst 1, 1) := by decide +kernel
theorem s_176_2 {d : Nat} {l0 l1 l2 l3 : oV} {S : List oV} {σ : oSg} {Q : Option oV → (Nat → oC) → Prop} : oE d 176 2 [l0, l1, l2, l3] S σ Q = oE d 176 3 [l0, l1, l2, l3] (.inl (1) :: S) σ Q := pKst f_176_2 (by decide)
theorem f_176_3 : oFet 176 3 = some (.invokestatic 57, 3) := by decide +kernel
theorem c_176_3 {d : Nat} {l0 l1 l2 l3 : oV} {x0 x1 x2 : oV} {v : Option oV} {τ : oSg} {S : List oV} {σ : oSg} {Q : Option oV → (Nat → oC) → Prop} (hm : oMi d 146 [x0, x1, x2] σ v τ) (hs : oSmall S = true) : oE d 176 3 [l0, l1, l2, l3] (x2 :: x1 :: x0 :: S) σ Q = oE d 176 6 [l0, l1, l2, l3] (v.toList ++ S) τ Q := pCallS f_176_3 ow_176 lk_11_57 mt_146 rfl rfl rfl hs hm
theorem f_176_6 : oFet 176 6 = some (.ifCond .ne 5, 3) := by decide +kernel
theorem s_176_6 {d : Nat} {l0 l1 l2 l3 : oV} {x : Int} {S : List oV} {σ : oSg} {Q : Option oV → (Nat → oC) → Prop} : oE d 176 6 [l0, l1, l2, l3] (.inl x :: S) σ Q = if ¬ x = 0 then oE d 176 11 [l0, l1, l2, l3] S σ Q else oE d 176 9 [l0, l1, l2, l3] S σ Q := oIfNe f_176_6 (by decide)
theorem f_176_9 : oFet 176 9 = some (.iconst (-1), 1) := by decide +kernel
theorem s_176_9 {d : Nat} {l0 l1 l2 l3 : oV} {S : List oV} {σ : oSg} {Q : Option oV → (Nat → oC) → Prop} : oE d 176 9 [l0, l1, l2, l3] S σ Q = oE d 176 10 [l0, l1, l2, l3] (.inl (-1) :: S) σ Q := pKst f_176_9 (by decide)
theorem f_176_10 : oFet 176 10 = some (.ireturn, 1) := by decide +kernel
theorem s_176_10 {d : Nat} {l0 l1 l2 l3 : oV} {x : Int} {σ : oSg} {Q : Option oV → (Nat → oC) → Prop} : oE d 176 10 [l0, l1, l2, l3] [.inl x] σ Q = Q (some (.inl x)) (oBld σ) := oIret f_176_10 rt_176
theorem f_176_11 : oFet 176 11 = some (.aload_n 0, 1) := by decide +kernel
theorem s_176_11 {d : Nat} {l1 l2 l3 : oV} {a : Nat} {S : List oV} {σ : oSg} {Q : Option oV → (Nat → oC) → Prop} : oE d 176 11 [.inr (.inr (.inl a)), l1, l2, l3] S σ Q = oE d 176 12 [.inr (.inr (.inl a)), l1, l2, l3] (.inr (.inr (.inl a)) :: S) σ Q := pLdN (k := 0) f_176_11 rfl rfl rfl
theorem f_176_12 : oFet 176 12 = some (.invokevirtual 168, 3) := by decide +kernel
theorem c_176_12 {d : Nat} {l0 l1 l2 l3 : oV} {a : Nat} {v : Option oV} {τ : oSg} {S : List oV} {σ : oSg} {Q : Option oV → (Nat → oC) → Prop} (hm : oMi d 177 [.inr (.inr (.inl a))] σ v τ) (hk : oKd a = some 11) (hs : oSmall S = true) : oE d 176 12 [l0, l1, l2, l3] (.inr (.inr (.inl a)) :: S) σ Q = oE d 176 15 [l0, l1, l2, l3] (v.toList ++ S) τ Q := pCallV f_176_12 ow_176 lk_11_168 mt_177 rfl rfl rfl hk hs hm
theorem f_176_15 : oFet 176 15 = some (.ifCond .ne 6, 3) := by decide +kernel
theorem s_176_15 {d : Nat} {l0 l1 l2 l3 : oV} {x : Int} {S : List oV} {σ : oSg} {Q : Option oV → (Nat → oC) → Prop} : oE d 176 15 [l0, l1, l2, l3] (.inl x :: S) σ Q = if ¬ x = 0 then oE d 176 21 [l0, l1, l2, l3] S σ Q else oE d 176 18 [l0, l1, l2, l3] S σ Q := oIfNe f_176_15 (by decide)
theorem f_176_18 : oFet 176 18 = some (.bipush (-5), 2) := by decide +kernel
theorem s_176_18 {d : Nat} {l0 l1 l2 l3 : oV} {S : List oV} {σ : oSg} {Q : Option oV → (Nat → oC) → Prop} : oE d 176 18 [l0, l1, l2, l3] S σ Q = oE d 176 20 [l0, l1, l2, l3] (.inl (-5) :: S) σ Q := pBip f_176_18 (by decide)
theorem f_176_20 : oFet 176 20 = some (.ireturn, 1) := by decide +kernel
theorem s_176_20 {d : Nat} {l0 l1 l2 l3 : oV} {x : Int} {σ : oSg} {Q : Option oV → (Nat → oC) → Prop} : oE d 176 20 [l0, l1, l2, l3] [.inl x] σ Q = Q (some (.inl x)) (oBld σ) := oIret f_176_20 rt_176
theorem f_176_21 : oFet 176 21 = some (.iload_n 1, 1) := by decide +kernel
theorem s_176_21 {d : Nat} {l0 l2 l3 : oV} {x : Int} {S : List oV} {σ : oSg} {Q : Option oV → (Nat → oC) → Prop} : oE d 176 21 [l0, .inl x, l2, l3] S σ Q = oE d 176 22 [l0, .inl x, l2, l3] (.inl x :: S) σ Q := pLdN (k := 1) f_176_21 rfl rfl rfl
theorem f_176_22 : oFet 176 22 = some (.ifCond .ne 10, 3) := by decide +kernel
theorem s_176_22 {d : Nat} {l0 l1 l2 l3 : oV} {x : Int} {S : List oV} {σ : oSg} {Q : Option oV → (Nat → oC) → Prop} : oE d 176 22 [l0, l1, l2, l3] (.inl x :: S) σ Q = if ¬ x = 0 then oE d 176 32 [l0, l1, l2, l3] S σ Q else oE d 176 25 [l0, l1, l2, l3] S σ Q := oIfNe f_176_22 (by decide)
theorem f_176_25 : oFet 176 25 = some (.aload_n 0, 1) := by decide +kernel
theorem s_176_25 {d : Nat} {l1 l2 l3 : oV} {a : Nat} {S : List oV} {σ : oSg} {Q : Option oV → (Nat → oC) → Prop} : oE d 176 25 [.inr (.inr (.inl a)), l1, l2, l3] S σ Q = oE d 176 26 [.inr (.inr (.inl a)), l1, l2, l3] (.inr (.inr (.inl a)) :: S) σ Q := pLdN (k := 0) f_176_25 rfl rfl rfl
theorem f_176_26 : oFet 176 26 = some (.getfield 159, 3) := by decide +kernel
theorem s_176_26 {d : Nat} {l0 l1 l2 l3 : oV} {a : Nat} {S : List oV} {σ : oSg} {Q : Option oV → (Nat → oC) → Prop} (hk : oKd a = some 11) : oE d 176 26 [l0, l1, l2, l3] (.inr (.inr (.inl a)) :: S) σ Q = oE d 176 29 [l0, l1, l2, l3] (.inl (σ.1 a 10) :: S) σ Q := pGfI f_176_26 ow_176 fl_11_159 rfl (by decide) hk
theorem f_176_29 : oFet 176 29 = some (.goto 7, 3) := by decide +kernel
theorem s_176_29 {d : Nat} {l0 l1 l2 l3 : oV} {S : List oV} {σ : oSg} {Q : Option oV → (Nat → oC) → Prop} : oE d 176 29 [l0, l1, l2, l3] S σ Q = oE d 176 36 [l0, l1, l2, l3] S σ Q := pGoto f_176_29 (by decide)
theorem f_176_32 : oFet 176 32 = some (.aload_n 0, 1) := by decide +kernel
theorem s_176_32 {d : Nat} {l1 l2 l3 : oV} {a : Nat} {S : List oV} {σ : oSg} {Q : Option oV → (Nat → oC) → Prop} : oE d 176 32 [.inr (.inr (.inl a)), l1, l2, l3] S σ Q = oE d 176 33 [.inr (.inr (.inl a)), l1, l2, l3] (.inr (.inr (.inl a)) :: S) σ Q := pLdN (k := 0) f_176_32 rfl rfl rfl
theorem f_176_33 : oFet 176 33 = some (.getfield 162, 3) := by decide +kernel
theorem s_176_33 {d : Nat} {l0 l1 l2 l3 : oV} {a : Nat} {S : List oV} {σ : oSg} {Q : Option oV → (Nat → oC) → Prop} (hk : oKd a = some 11) : oE d 176 33 [l0, l1, l2, l3] (.inr (.inr (.inl a)) :: S) σ Q = oE d 176 36 [l0, l1, l2, l3] (.inl (σ.1 a 11) :: S) σ Q := pGfI f_176_33 ow_176 fl_11_162 rfl (by decide) hk
theorem f_176_36 : oFet 176 36 = some (.istore_n 3, 1) := by decide +kernel
theorem s_176_36 {d : Nat} {l0 l1 l2 l3 : oV} {x : Int} {S : List oV} {σ : oSg} {Q : Option oV → (Nat → oC) → Prop} (c3 : oCat l3 = 1) (c2 : oCat l2 = 1)  : oE d 176 36 [l0, l1, l2, l3] (.inl x :: S) σ Q = oE d 176 37 [l0, l1, l2, .inl x] S σ Q := pSt (i := 3) f_176_36 rfl rfl (show (3 : Nat) < 4 by decide) (oC1n c2) (oC1n c3) rfl
theorem f_176_37 : oFet 176 37 = some (.iload_n 2, 1) := by decide +kernel
theorem s_176_37 {d : Nat} {l0 l1 l3 : oV} {x : Int} {S : List oV} {σ : oSg} {Q : Option oV → (Nat → oC) → Prop} : oE d 176 37 [l0, l1, .inl x, l3] S σ Q = oE d 176 38 [l0, l1, .inl x, l3] (.inl x :: S) σ Q := pLdN (k := 2) f_176_37 rfl rfl rfl
theorem f_176_38 : oFet 176 38 = some (.iconst (-1), 1) := by decide +kernel
theorem s_176_38 {d : Nat} {l0 l1 l2 l3 : oV} {S : List oV} {σ : oSg} {Q : Option oV → (Nat → oC) → Prop} : oE d 176 38 [l0, l1, l2, l3] S σ Q = oE d 176 39 [l0, l1, l2, l3] (.inl (-1) :: S) σ Q := pKst f_176_38 (by decide)
theorem f_176_39 : oFet 176 39 = some (.if_icmp .ne 5, 3) := by decide +kernel
theorem s_176_39 {d : Nat} {l0 l1 l2 l3 : oV} {x y : Int} {S : List oV} {σ : oSg} {Q : Option oV → (Nat → oC) → Prop} : oE d 176 39 [l0, l1, l2, l3] (.inl y :: .inl x :: S) σ Q = if ¬ x = y then oE d 176 44 [l0, l1, l2, l3] S σ Q else oE d 176 42 [l0, l1, l2, l3] S σ Q := oCmpNe f_176_39 (by decide)
theorem f_176_42 : oFet 176 42 = some (.iload_n 3, 1) := by decide +kernel
theorem s_176_42 {d : Nat} {l0 l1 l2 : oV} {x : Int} {S : List oV} {σ : oSg} {Q : Option oV → (Nat → oC) → Prop} : oE d 176 42 [l0, l1, l2, .inl x] S σ Q = oE d 176 43 [l0, l1, l2, .inl x] (.inl x :: S) σ Q := pLdN (k := 3) f_176_42 rfl rfl rfl
theorem f_176_43 : oFet 176 43 = some (.ireturn, 1) := by decide +kernel
theorem s_176_43 {d : Nat} {l0 l1 l2 l3 : oV} {x : Int} {σ : oSg} {Q : Option oV → (Nat → oC) → Prop} : oE d 176 43 [l0, l1, l2, l3] [.inl x] σ Q = Q (some (.inl x)) (oBld σ) := oIret f_176_43 rt_176
theorem f_176_44 : oFet 176 44 = some (.iload_n 2, 1) := by decide +kernel
theorem s_176_44 {d : Nat} {l0 l1 l3 : oV} {x : Int} {S : List oV} {σ : oSg} {Q : Option oV → (Nat → oC) → Prop} : oE d 176 44 [l0, l1, .inl x, l3] S σ Q = oE d 176 45 [l0, l1, .inl x, l3] (.inl x :: S) σ Q := pLdN (k := 2) f_176_44 rfl rfl rfl
theorem f_176_45 : oFet 176 45 = some (.iconst 0, 1) := by decide +kernel
theorem s_176_45 {d : Nat} {l0 l1 l2 l3 : oV} {S : List oV} {σ : oSg} {Q : Option oV → (Nat → oC) → Prop} : oE d 176 45 [l0, l1, l2, l3] S σ Q = oE d 176 46 [l0, l1, l2, l3] (.inl (0) :: S) σ Q := pKst f_176_45 (by decide)
theorem f_176_46 : oFet 176 46 = some (.iload_n 3, 1) := by decide +kernel
theorem s_176_46 {d : Nat} {l0 l1 l2 : oV} {x : Int} {S : List oV} {σ : oSg} {Q : Option oV → (Nat → oC) → Prop} : oE d 176 46 [l0, l1, l2, .inl x] S σ Q = oE d 176 47 [l0, l1, l2, .inl x] (.inl x :: S) σ Q := pLdN (k := 3) f_176_46 rfl rfl rfl
theorem f_176_47 : oFet 176 47 = some (.iconst 1, 1) := by decide +kernel
theorem s_176_47 {d : Nat} {l0 l1 l2 l3 : oV} {S : List oV} {σ : oSg} {Q : Option oV → (Nat → oC) → Prop} : oE d 176 47 [l0, l1, l2, l3] S σ Q = oE d 176 48 [l0, l1, l2, l3] (.inl (1) :: S) σ Q := pKst f_176_47 (by decide)
theorem f_176_48 : oFet 176 48 = some (.isub, 1) := by decide +kernel
theorem s_176_48 {d : Nat} {l0 l1 l2 l3 : oV} {x y : Int} {S : List oV} {σ : oSg} {Q : Option oV → (Nat → oC) → Prop} : oE d 176 48 [l0, l1, l2, l3] (.inl y :: .inl x :: S) σ Q = oE d 176 49 [l0, l1, l2, l3] (.inl (oSub x y) :: S) σ Q := oS3 f_176_48 rfl rfl rfl
theorem f_176_49 : oFet 176 49 = some (.invokestatic 57, 3) := by decide +kernel
theorem c_176_49 {d : Nat} {l0 l1 l2 l3 : oV} {x0 x1 x2 : oV} {v : Option oV} {τ : oSg} {S : List oV} {σ : oSg} {Q : Option oV → (Nat → oC) → Prop} (hm : oMi d 146 [x0, x1, x2] σ v τ) (hs : oSmall S = true) : oE d 176 49 [l0, l1, l2, l3] (x2 :: x1 :: x0 :: S) σ Q = oE d 176 52 [l0, l1, l2, l3] (v.toList ++ S) τ Q := pCallS f_176_49 ow_176 lk_11_57 mt_146 rfl rfl rfl hs hm
theorem f_176_52 : oFet 176 52 = some (.ifCond .eq 27, 3) := by decide +kernel
theorem s_176_52 {d : Nat} {l0 l1 l2 l3 : oV} {x : Int} {S : List oV} {σ : oSg} {Q : Option oV → (Nat → oC) → Prop} : oE d 176 52 [l0, l1, l2, l3] (.inl x :: S) σ Q = if x = 0 then oE d 176 79 [l0, l1, l2, l3] S σ Q else oE d 176 55 [l0, l1, l2, l3] S σ Q := oIfEq f_176_52 (by decide)
theorem f_176_55 : oFet 176 55 = some (.aload_n 0, 1) := by decide +kernel
theorem s_176_55 {d : Nat} {l1 l2 l3 : oV} {a : Nat} {S : List oV} {σ : oSg} {Q : Option oV → (Nat → oC) → Prop} : oE d 176 55 [.inr (.inr (.inl a)), l1, l2, l3] S σ Q = oE d 176 56 [.inr (.inr (.inl a)), l1, l2, l3] (.inr (.inr (.inl a)) :: S) σ Q := pLdN (k := 0) f_176_55 rfl rfl rfl
theorem f_176_56 : oFet 176 56 = some (.getfield 27, 3) := by decide +kernel
theorem s_176_56 {d : Nat} {l0 l1 l2 l3 : oV} {a : Nat} {S : List oV} {σ : oSg} {Q : Option oV → (Nat → oC) → Prop} (hk : oKd a = some 11) : oE d 176 56 [l0, l1, l2, l3] (.inr (.inr (.inl a)) :: S) σ Q = oE d 176 59 [l0, l1, l2, l3] (.inr (.inr (.inl (oRf a 8))) :: S) σ Q := pGfR f_176_56 ow_176 fl_11_27 rfl (by decide) hk
theorem f_176_59 : oFet 176 59 = some (.iload_n 1, 1) := by decide +kernel
theorem s_176_59 {d : Nat} {l0 l2 l3 : oV} {x : Int} {S : List oV} {σ : oSg} {Q : Option oV → (Nat → oC) → Prop} : oE d 176 59 [l0, .inl x, l2, l3] S σ Q = oE d 176 60 [l0, .inl x, l2, l3] (.inl x :: S) σ Q := pLdN (k := 1) f_176_59 rfl rfl rfl
theorem f_176_60 : oFet 176 60 = some (.ifCond .ne 7, 3) := by decide +kernel
theorem s_176_60 {d : Nat} {l0 l1 l2 l3 : oV} {x : Int} {S : List oV} {σ : oSg} {Q : Option oV → (Nat → oC) → Prop} : oE d 176 60 [l0, l1, l2, l3] (.inl x :: S) σ Q = if ¬ x = 0 then oE d 176 67 [l0, l1, l2, l3] S σ Q else oE d 176 63 [l0, l1, l2, l3] S σ Q := oIfNe f_176_60 (by decide)
theorem f_176_63 : oFet 176 63 = some (.iload_n 2, 1) := by decide +kernel
theorem s_176_63 {d : Nat} {l0 l1 l3 : oV} {x : Int} {S : List oV} {σ : oSg} {Q : Option oV → (Nat → oC) → Prop} : oE d 176 63 [l0, l1, .inl x, l3] S σ Q = oE d 176 64 [l0, l1, .inl x, l3] (.inl x :: S) σ Q := pLdN (k := 2) f_176_63 rfl rfl rfl
theorem f_176_64 : oFet 176 64 = some (.goto 11, 3) := by decide +kernel
theorem s_176_64 {d : Nat} {l0 l1 l2 l3 : oV} {S : List oV} {σ : oSg} {Q : Option oV → (Nat → oC) → Prop} : oE d 176 64 [l0, l1, l2, l3] S σ Q = oE d 176 75 [l0, l1, l2, l3] S σ Q := pGoto f_176_64 (by decide)
theorem f_176_67 : oFet 176 67 = some (.aload_n 0, 1) := by decide +kernel
theorem s_176_67 {d : Nat} {l1 l2 l3 : oV} {a : Nat} {S : List oV} {σ : oSg} {Q : Option oV → (Nat → oC) → Prop} : oE d 176 67 [.inr (.inr (.inl a)), l1, l2, l3] S σ Q = oE d 176 68 [.inr (.inr (.inl a)), l1, l2, l3] (.inr (.inr (.inl a)) :: S) σ Q := pLdN (k := 0) f_176_67 rfl rfl rfl
theorem f_176_68 : oFet 176 68 = some (.getfield 159, 3) := by decide +kernel
theorem s_176_68 {d : Nat} {l0 l1 l2 l3 : oV} {a : Nat} {S : List oV} {σ : oSg} {Q : Option oV → (Nat → oC) → Prop} (hk : oKd a = some 11) : oE d 176 68 [l0, l1, l2, l3] (.inr (.inr (.inl a)) :: S) σ Q = oE d 176 71 [l0, l1, l2, l3] (.inl (σ.1 a 10) :: S) σ Q := pGfI f_176_68 ow_176 fl_11_159 rfl (by decide) hk
theorem f_176_71 : oFet 176 71 = some (.iconst 1, 1) := by decide +kernel
theorem s_176_71 {d : Nat} {l0 l1 l2 l3 : oV} {S : List oV} {σ : oSg} {Q : Option oV → (Nat → oC) → Prop} : oE d 176 71 [l0, l1, l2, l3] S σ Q = oE d 176 72 [l0, l1, l2, l3] (.inl (1) :: S) σ Q := pKst f_176_71 (by decide)
theorem f_176_72 : oFet 176 72 = some (.isub, 1) := by decide +kernel
theorem s_176_72 {d : Nat} {l0 l1 l2 l3 : oV} {x y : Int} {S : List oV} {σ : oSg} {Q : Option oV → (Nat → oC) → Prop} : oE d 176 72 [l0, l1, l2, l3] (.inl y :: .inl x :: S) σ Q = oE d 176 73 [l0, l1, l2, l3] (.inl (oSub x y) :: S) σ Q := oS3 f_176_72 rfl rfl rfl
theorem f_176_73 : oFet 176 73 = some (.iload_n 2, 1) := by decide +kernel
theorem s_176_73 {d : Nat} {l0 l1 l3 : oV} {x : Int} {S : List oV} {σ : oSg} {Q : Option oV → (Nat → oC) → Prop} : oE d 176 73 [l0, l1, .inl x, l3] S σ Q = oE d 176 74 [l0, l1, .inl x, l3] (.inl x :: S) σ Q := pLdN (k := 2) f_176_73 rfl rfl rfl
theorem f_176_74 : oFet 176 74 = some (.iadd, 1) := by decide +kernel
theorem s_176_74 {d : Nat} {l0 l1 l2 l3 : oV} {x y : Int} {S : List oV} {σ : oSg} {Q : Option oV → (Nat → oC) → Prop} : oE d 176 74 [l0, l1, l2, l3] (.inl y :: .inl x :: S) σ Q = oE d 176 75 [l0, l1, l2, l3] (.inl (oAdd x y) :: S) σ Q := oS3 f_176_74 rfl rfl rfl
theorem f_176_75 : oFet 176 75 = some (.iaload, 1) := by decide +kernel
theorem s_176_75 {d : Nat} {l0 l1 l2 l3 : oV} {a : Nat} {i : Int} {S : List oV} {σ : oSg} {Q : Option oV → (Nat → oC) → Prop} (hk : oAk a = some 0) (h0 : 0 ≤ i) (h1 : i < (oLn a : Int)) : oE d 176 75 [l0, l1, l2, l3] (.inl i :: .inr (.inr (.inl a)) :: S) σ Q = oE d 176 76 [l0, l1, l2, l3] (.inl (σ.2 a i.toNat) :: S) σ Q := oIal f_176_75 hk h0 h1
theorem f_176_76 : oFet 176 76 = some (.goto 4, 3) := by decide +kernel
theorem s_176_76 {d : Nat} {l0 l1 l2 l3 : oV} {S : List oV} {σ : oSg} {Q : Option oV → (Nat → oC) → Prop} : oE d 176 76 [l0, l1, l2, l3] S σ Q = oE d 176 80 [l0, l1, l2, l3] S σ Q := pGoto f_176_76 (by decide)
theorem f_176_79 : oFet 176 79 = some (.iconst (-1), 1) := by decide +kernel
theorem s_176_79 {d : Nat} {l0 l1 l2 l3 : oV} {S : List oV} {σ : oSg} {Q : Option oV → (Nat → oC) → Prop} : oE d 176 79 [l0, l1, l2, l3] S σ Q = oE d 176 80 [l0, l1, l2, l3] (.inl (-1) :: S) σ Q := pKst f_176_79 (by decide)
theorem f_176_80 : oFet 176 80 = some (.ireturn, 1) := by decide +kernel
theorem s_176_80 {d : Nat} {l0 l1 l2 l3 : oV} {x : Int} {σ : oSg} {Q : Option oV → (Nat → oC) → Prop} : oE d 176 80 [l0, l1, l2, l3] [.inl x] σ Q = Q (some (.inl x)) (oBld σ) := oIret f_176_80 rt_176
theorem ow_177 : (oMt 177).2.2.2.2.1 = 11 := by decide +kernel
theorem rt_177 : (oMt 177).2.2.2.1 = some .boolean := by decide +kernel
theorem nl_177 : (oMt 177).2.2.1 = 2 := by decide +kernel
theorem f_177_0 : oFet 177 0 = some (.iconst 3, 1) := by decide +kernel
theorem s_177_0 {d : Nat} {l0 l1 : oV} {S : List oV} {σ : oSg} {Q : Option oV → (Nat → oC) → Prop} : oE d 177 0 [l0, l1] S σ Q = oE d 177 1 [l0, l1] (.inl (3) :: S) σ Q := pKst f_177_0 (by decide)
theorem f_177_1 : oFet 177 1 = some (.istore_n 1, 1) := by decide +kernel
theorem s_177_1 {d : Nat} {l0 l1 : oV} {x : Int} {S : List oV} {σ : oSg} {Q : Option oV → (Nat → oC) → Prop} (c1 : oCat l1 = 1) (c0 : oCat l0 = 1)  : oE d 177 1 [l0, l1] (.inl x :: S) σ Q = oE d 177 2 [l0, .inl x] S σ Q := pSt (i := 1) f_177_1 rfl rfl (show (1 : Nat) < 2 by decide) (oC1n c0) (oC1n c1) rfl
theorem f_177_2 : oFet 177 2 = some (.iload_n 1, 1) := by decide +kernel
theorem s_177_2 {d : Nat} {l0 : oV} {x : Int} {S : List oV} {σ : oSg} {Q : Option oV → (Nat → oC) → Prop} : oE d 177 2 [l0, .inl x] S σ Q = oE d 177 3 [l0, .inl x] (.inl x :: S) σ Q := pLdN (k := 1) f_177_2 rfl rfl rfl
theorem f_177_3 : oFet 177 3 = some (.aload_n 0, 1) := by decide +kernel
theorem s_177_3 {d : Nat} {l1 : oV} {a : Nat} {S : List oV} {σ : oSg} {Q : Option oV → (Nat → oC) → Prop} : oE d 177 3 [.inr (.inr (.inl a)), l1] S σ Q = oE d 177 4 [.inr (.inr (.inl a)), l1] (.inr (.inr (.inl a)) :: S) σ Q := pLdN (k := 0) f_177_3 rfl rfl rfl
theorem f_177_4 : oFet 177 4 = some (.getfield 11, 3) := by decide +kernel
theorem s_177_4 {d : Nat} {l0 l1 : oV} {a : Nat} {S : List oV} {σ : oSg} {Q : Option oV → (Nat → oC) → Prop} (hk : oKd a = some 11) : oE d 177 4 [l0, l1] (.inr (.inr (.inl a)) :: S) σ Q = oE d 177 7 [l0, l1] (.inr (.inr (.inl (oRf a 0))) :: S) σ Q := pGfR f_177_4 ow_177 fl_11_11 rfl (by decide) hk
theorem f_177_7 : oFet 177 7 = some (.iconst 0, 1) := by decide +kernel
theorem s_177_7 {d : Nat} {l0 l1 : oV} {S : List oV} {σ : oSg} {Q : Option oV → (Nat → oC) → Prop} : oE d 177 7 [l0, l1] S σ Q = oE d 177 8 [l0, l1] (.inl (0) :: S) σ Q := pKst f_177_7 (by decide)
theorem f_177_8 : oFet 177 8 = some (.iaload, 1) := by decide +kernel
theorem s_177_8 {d : Nat} {l0 l1 : oV} {a : Nat} {i : Int} {S : List oV} {σ : oSg} {Q : Option oV → (Nat → oC) → Prop} (hk : oAk a = some 0) (h0 : 0 ≤ i) (h1 : i < (oLn a : Int)) : oE d 177 8 [l0, l1] (.inl i :: .inr (.inr (.inl a)) :: S) σ Q = oE d 177 9 [l0, l1] (.inl (σ.2 a i.toNat) :: S) σ Q := oIal f_177_8 hk h0 h1
theorem f_177_9 : oFet 177 9 = some (.if_icmp .gt 59, 3) := by decide +kernel
theorem s_177_9 {d : Nat} {l0 l1 : oV} {x y : Int} {S : List oV} {σ : oSg} {Q : Option oV → (Nat → oC) → Prop} : oE d 177 9 [l0, l1] (.inl y :: .inl x :: S) σ Q = if y < x then oE d 177 68 [l0, l1] S σ Q else oE d 177 12 [l0, l1] S σ Q := oCmpGt f_177_9 (by decide)
theorem f_177_12 : oFet 177 12 = some (.aload_n 0, 1) := by decide +kernel
theorem s_177_12 {d : Nat} {l1 : oV} {a : Nat} {S : List oV} {σ : oSg} {Q : Option oV → (Nat → oC) → Prop} : oE d 177 12 [.inr (.inr (.inl a)), l1] S σ Q = oE d 177 13 [.inr (.inr (.inl a)), l1] (.inr (.inr (.inl a)) :: S) σ Q := pLdN (k := 0) f_177_12 rfl rfl rfl
theorem f_177_13 : oFet 177 13 = some (.iconst 1, 1) := by decide +kernel
theorem s_177_13 {d : Nat} {l0 l1 : oV} {S : List oV} {σ : oSg} {Q : Option oV → (Nat → oC) → Prop} : oE d 177 13 [l0, l1] S σ Q = oE d 177 14 [l0, l1] (.inl (1) :: S) σ Q := pKst f_177_13 (by decide)
theorem f_177_14 : oFet 177 14 = some (.putfield 159, 3) := by decide +kernel
theorem s_177_14 {d : Nat} {l0 l1 : oV} {a : Nat} {v : Int} {S : List oV} {σ : oSg} {Q : Option oV → (Nat → oC) → Prop} (hk : oKd a = some 11) : oE d 177 14 [l0, l1] (.inl v :: .inr (.inr (.inl a)) :: S) σ Q = oE d 177 17 [l0, l1] S (oSF σ a 10 v) Q := pPfI f_177_14 ow_177 fl_11_159 rfl (by decide) rfl rfl hk
theorem f_177_17 : oFet 177 17 = some (.aload_n 0, 1) := by decide +kernel
theorem s_177_17 {d : Nat} {l1 : oV} {a : Nat} {S : List oV} {σ : oSg} {Q : Option oV → (Nat → oC) → Prop} : oE d 177 17 [.inr (.inr (.inl a)), l1] S σ Q = oE d 177 18 [.inr (.inr (.inl a)), l1] (.inr (.inr (.inl a)) :: S) σ Q := pLdN (k := 0) f_177_17 rfl rfl rfl
theorem f_177_18 : oFet 177 18 = some (.getfield 159, 3) := by decide +kernel
theorem s_177_18 {d : Nat} {l0 l1 : oV} {a : Nat} {S : List oV} {σ : oSg} {Q : Option oV → (Nat → oC) → Prop} (hk : oKd a = some 11) : oE d 177 18 [l0, l1] (.inr (.inr (.inl a)) :: S) σ Q = oE d 177 21 [l0, l1] (.inl (σ.1 a 10) :: S) σ Q := pGfI f_177_18 ow_177 fl_11_159 rfl (by decide) hk
theorem f_177_21 : oFet 177 21 = some (.iload_n 1, 1) := by decide +kernel
theorem s_177_21 {d : Nat} {l0 : oV} {x : Int} {S : List oV} {σ : oSg} {Q : Option oV → (Nat → oC) → Prop} : oE d 177 21 [l0, .inl x] S σ Q = oE d 177 22 [l0, .inl x] (.inl x :: S) σ Q := pLdN (k := 1) f_177_21 rfl rfl rfl
theorem f_177_22 : oFet 177 22 = some (.iconst 2, 1) := by decide +kernel
theorem s_177_22 {d : Nat} {l0 l1 : oV} {S : List oV} {σ : oSg} {Q : Option oV → (Nat → oC) → Prop} : oE d 177 22 [l0, l1] S σ Q = oE d 177 23 [l0, l1] (.inl (2) :: S) σ Q := pKst f_177_22 (by decide)
theorem f_177_23 : oFet 177 23 = some (.isub, 1) := by decide +kernel
theorem s_177_23 {d : Nat} {l0 l1 : oV} {x y : Int} {S : List oV} {σ : oSg} {Q : Option oV → (Nat → oC) → Prop} : oE d 177 23 [l0, l1] (.inl y :: .inl x :: S) σ Q = oE d 177 24 [l0, l1] (.inl (oSub x y) :: S) σ Q := oS3 f_177_23 rfl rfl rfl
theorem f_177_24 : oFet 177 24 = some (.if_icmp .gt 38, 3) := by decide +kernel
theorem s_177_24 {d : Nat} {l0 l1 : oV} {x y : Int} {S : List oV} {σ : oSg} {Q : Option oV → (Nat → oC) → Prop} : oE d 177 24 [l0, l1] (.inl y :: .inl x :: S) σ Q = if y < x then oE d 177 62 [l0, l1] S σ Q else oE d 177 27 [l0, l1] S σ Q := oCmpGt f_177_24 (by decide)
theorem f_177_27 : oFet 177 27 = some (.aload_n 0, 1) := by decide +kernel
theorem s_177_27 {d : Nat} {l1 : oV} {a : Nat} {S : List oV} {σ : oSg} {Q : Option oV → (Nat → oC) → Prop} : oE d 177 27 [.inr (.inr (.inl a)), l1] S σ Q = oE d 177 28 [.inr (.inr (.inl a)), l1] (.inr (.inr (.inl a)) :: S) σ Q := pLdN (k := 0) f_177_27 rfl rfl rfl
theorem f_177_28 : oFet 177 28 = some (.iload_n 1, 1) := by decide +kernel
theorem s_177_28 {d : Nat} {l0 : oV} {x : Int} {S : List oV} {σ : oSg} {Q : Option oV → (Nat → oC) → Prop} : oE d 177 28 [l0, .inl x] S σ Q = oE d 177 29 [l0, .inl x] (.inl x :: S) σ Q := pLdN (k := 1) f_177_28 rfl rfl rfl
theorem f_177_29 : oFet 177 29 = some (.iconst 1, 1) := by decide +kernel
theorem s_177_29 {d : Nat} {l0 l1 : oV} {S : List oV} {σ : oSg} {Q : Option oV → (Nat → oC) → Prop} : oE d 177 29 [l0, l1] S σ Q = oE d 177 30 [l0, l1] (.inl (1) :: S) σ Q := pKst f_177_29 (by decide)
theorem f_177_30 : oFet 177 30 = some (.iadd, 1) := by decide +kernel
theorem s_177_30 {d : Nat} {l0 l1 : oV} {x y : Int} {S : List oV} {σ : oSg} {Q : Option oV → (Nat → oC) → Prop} : oE d 177 30 [l0, l1] (.inl y :: .inl x :: S) σ Q = oE d 177 31 [l0, l1] (.inl (oAdd x y) :: S) σ Q := oS3 f_177_30 rfl rfl rfl
theorem f_177_31 : oFet 177 31 = some (.aload_n 0, 1) := by decide +kernel
theorem s_177_31 {d : Nat} {l1 : oV} {a : Nat} {S : List oV} {σ : oSg} {Q : Option oV → (Nat → oC) → Prop} : oE d 177 31 [.inr (.inr (.inl a)), l1] S σ Q = oE d 177 32 [.inr (.inr (.inl a)), l1] (.inr (.inr (.inl a)) :: S) σ Q := pLdN (k := 0) f_177_31 rfl rfl rfl
theorem f_177_32 : oFet 177 32 = some (.getfield 159, 3) := by decide +kernel
theorem s_177_32 {d : Nat} {l0 l1 : oV} {a : Nat} {S : List oV} {σ : oSg} {Q : Option oV → (Nat → oC) → Prop} (hk : oKd a = some 11) : oE d 177 32 [l0, l1] (.inr (.inr (.inl a)) :: S) σ Q = oE d 177 35 [l0, l1] (.inl (σ.1 a 10) :: S) σ Q := pGfI f_177_32 ow_177 fl_11_159 rfl (by decide) hk
theorem f_177_35 : oFet 177 35 = some (.isub, 1) := by decide +kernel
theorem s_177_35 {d : Nat} {l0 l1 : oV} {x y : Int} {S : List oV} {σ : oSg} {Q : Option oV → (Nat → oC) → Prop} : oE d 177 35 [l0, l1] (.inl y :: .inl x :: S) σ Q = oE d 177 36 [l0, l1] (.inl (oSub x y) :: S) σ Q := oS3 f_177_35 rfl rfl rfl
theorem f_177_36 : oFet 177 36 = some (.putfield 162, 3) := by decide +kernel
theorem s_177_36 {d : Nat} {l0 l1 : oV} {a : Nat} {v : Int} {S : List oV} {σ : oSg} {Q : Option oV → (Nat → oC) → Prop} (hk : oKd a = some 11) : oE d 177 36 [l0, l1] (.inl v :: .inr (.inr (.inl a)) :: S) σ Q = oE d 177 39 [l0, l1] S (oSF σ a 11 v) Q := pPfI f_177_36 ow_177 fl_11_162 rfl (by decide) rfl rfl hk
theorem f_177_39 : oFet 177 39 = some (.aload_n 0, 1) := by decide +kernel
theorem s_177_39 {d : Nat} {l1 : oV} {a : Nat} {S : List oV} {σ : oSg} {Q : Option oV → (Nat → oC) → Prop} : oE d 177 39 [.inr (.inr (.inl a)), l1] S σ Q = oE d 177 40 [.inr (.inr (.inl a)), l1] (.inr (.inr (.inl a)) :: S) σ Q := pLdN (k := 0) f_177_39 rfl rfl rfl
theorem f_177_40 : oFet 177 40 = some (.iconst 0, 1) := by decide +kernel
theorem s_177_40 {d : Nat} {l0 l1 : oV} {S : List oV} {σ : oSg} {Q : Option oV → (Nat → oC) → Prop} : oE d 177 40 [l0, l1] S σ Q = oE d 177 41 [l0, l1] (.inl (0) :: S) σ Q := pKst f_177_40 (by decide)
theorem f_177_41 : oFet 177 41 = some (.invokevirtual 165, 3) := by decide +kernel
theorem c_177_41 {d : Nat} {l0 l1 : oV} {x0 : oV} {a : Nat} {v : Option oV} {τ : oSg} {S : List oV} {σ : oSg} {Q : Option oV → (Nat → oC) → Prop} (hm : oMi d 178 [.inr (.inr (.inl a)), x0] σ v τ) (hk : oKd a = some 11) (hs : oSmall S = true) : oE d 177 41 [l0, l1] (x0 :: .inr (.inr (.inl a)) :: S) σ Q = oE d 177 44 [l0, l1] (v.toList ++ S) τ Q := pCallV f_177_41 ow_177 lk_11_165 mt_178 rfl rfl rfl hk hs hm
theorem f_177_44 : oFet 177 44 = some (.ifCond .eq 5, 3) := by decide +kernel
theorem s_177_44 {d : Nat} {l0 l1 : oV} {x : Int} {S : List oV} {σ : oSg} {Q : Option oV → (Nat → oC) → Prop} : oE d 177 44 [l0, l1] (.inl x :: S) σ Q = if x = 0 then oE d 177 49 [l0, l1] S σ Q else oE d 177 47 [l0, l1] S σ Q := oIfEq f_177_44 (by decide)
theorem f_177_47 : oFet 177 47 = some (.iconst 1, 1) := by decide +kernel
theorem s_177_47 {d : Nat} {l0 l1 : oV} {S : List oV} {σ : oSg} {Q : Option oV → (Nat → oC) → Prop} : oE d 177 47 [l0, l1] S σ Q = oE d 177 48 [l0, l1] (.inl (1) :: S) σ Q := pKst f_177_47 (by decide)
theorem f_177_48 : oFet 177 48 = some (.ireturn, 1) := by decide +kernel
theorem s_177_48 {d : Nat} {l0 l1 : oV} {x : Int} {σ : oSg} {Q : Option oV → (Nat → oC) → Prop} (hx : x = 0 ∨ x = 1) : oE d 177 48 [l0, l1] [.inl x] σ Q = Q (some (.inl x)) (oBld σ) := oZret f_177_48 rt_177 hx
theorem f_177_49 : oFet 177 49 = some (.aload_n 0, 1) := by decide +kernel
theorem s_177_49 {d : Nat} {l1 : oV} {a : Nat} {S : List oV} {σ : oSg} {Q : Option oV → (Nat → oC) → Prop} : oE d 177 49 [.inr (.inr (.inl a)), l1] S σ Q = oE d 177 50 [.inr (.inr (.inl a)), l1] (.inr (.inr (.inl a)) :: S) σ Q := pLdN (k := 0) f_177_49 rfl rfl rfl
theorem f_177_50 : oFet 177 50 = some (.dup, 1) := by decide +kernel
theorem s_177_50 {d : Nat} {l0 l1 : oV} {a : Nat} {S : List oV} {σ : oSg} {Q : Option oV → (Nat → oC) → Prop} : oE d 177 50 [l0, l1] (.inr (.inr (.inl a)) :: S) σ Q = oE d 177 51 [l0, l1] (.inr (.inr (.inl a)) :: .inr (.inr (.inl a)) :: S) σ Q := pDupR f_177_50
theorem s_177_50_i {d : Nat} {l0 l1 : oV} {x : Int} {S : List oV} {σ : oSg} {Q : Option oV → (Nat → oC) → Prop} : oE d 177 50 [l0, l1] (.inl x :: S) σ Q = oE d 177 51 [l0, l1] (.inl x :: .inl x :: S) σ Q := pDupI f_177_50
theorem f_177_51 : oFet 177 51 = some (.getfield 159, 3) := by decide +kernel
theorem s_177_51 {d : Nat} {l0 l1 : oV} {a : Nat} {S : List oV} {σ : oSg} {Q : Option oV → (Nat → oC) → Prop} (hk : oKd a = some 11) : oE d 177 51 [l0, l1] (.inr (.inr (.inl a)) :: S) σ Q = oE d 177 54 [l0, l1] (.inl (σ.1 a 10) :: S) σ Q := pGfI f_177_51 ow_177 fl_11_159 rfl (by decide) hk
theorem f_177_54 : oFet 177 54 = some (.iconst 2, 1) := by decide +kernel
theorem s_177_54 {d : Nat} {l0 l1 : oV} {S : List oV} {σ : oSg} {Q : Option oV → (Nat → oC) → Prop} : oE d 177 54 [l0, l1] S σ Q = oE d 177 55 [l0, l1] (.inl (2) :: S) σ Q := pKst f_177_54 (by decide)
theorem f_177_55 : oFet 177 55 = some (.iadd, 1) := by decide +kernel
theorem s_177_55 {d : Nat} {l0 l1 : oV} {x y : Int} {S : List oV} {σ : oSg} {Q : Option oV → (Nat → oC) → Prop} : oE d 177 55 [l0, l1] (.inl y :: .inl x :: S) σ Q = oE d 177 56 [l0, l1] (.inl (oAdd x y) :: S) σ Q := oS3 f_177_55 rfl rfl rfl
theorem f_177_56 : oFet 177 56 = some (.putfield 159, 3) := by decide +kernel
theorem s_177_56 {d : Nat} {l0 l1 : oV} {a : Nat} {v : Int} {S : List oV} {σ : oSg} {Q : Option oV → (Nat → oC) → Prop} (hk : oKd a = some 11) : oE d 177 56 [l0, l1] (.inl v :: .inr (.inr (.inl a)) :: S) σ Q = oE d 177 59 [l0, l1] S (oSF σ a 10 v) Q := pPfI f_177_56 ow_177 fl_11_159 rfl (by decide) rfl rfl hk
theorem f_177_59 : oFet 177 59 = some (.goto (-42), 3) := by decide +kernel
theorem s_177_59 {d : Nat} {l0 l1 : oV} {S : List oV} {σ : oSg} {Q : Option oV → (Nat → oC) → Prop} : oE d 177 59 [l0, l1] S σ Q = oE d 177 17 [l0, l1] S σ Q := pGoto f_177_59 (by decide)
theorem f_177_62 : oFet 177 62 = some (.iinc 1 2, 3) := by decide +kernel
theorem s_177_62 {d : Nat} {l0 : oV} {x : Int} {S : List oV} {σ : oSg} {Q : Option oV → (Nat → oC) → Prop} (c0 : oCat l0 = 1)  : oE d 177 62 [l0, .inl x] S σ Q = oE d 177 65 [l0, .inl (oAdd x (2))] S σ Q := pInc f_177_62 rfl (show (1 : Nat) < 2 by decide) (oC1n c0) (oC1n (v := .inl x) rfl) rfl
theorem f_177_65 : oFet 177 65 = some (.goto (-63), 3) := by decide +kernel
theorem s_177_65 {d : Nat} {l0 l1 : oV} {S : List oV} {σ : oSg} {Q : Option oV → (Nat → oC) → Prop} : oE d 177 65 [l0, l1] S σ Q = oE d 177 2 [l0, l1] S σ Q := pGoto f_177_65 (by decide)
theorem f_177_68 : oFet 177 68 = some (.iconst 0, 1) := by decide +kernel
theorem s_177_68 {d : Nat} {l0 l1 : oV} {S : List oV} {σ : oSg} {Q : Option oV → (Nat → oC) → Prop} : oE d 177 68 [l0, l1] S σ Q = oE d 177 69 [l0, l1] (.inl (0) :: S) σ Q := pKst f_177_68 (by decide)
theorem f_177_69 : oFet 177 69 = some (.ireturn, 1) := by decide +kernel
theorem s_177_69 {d : Nat} {l0 l1 : oV} {x : Int} {σ : oSg} {Q : Option oV → (Nat → oC) → Prop} (hx : x = 0 ∨ x = 1) : oE d 177 69 [l0, l1] [.inl x] σ Q = Q (some (.inl x)) (oBld σ) := oZret f_177_69 rt_177 hx
theorem ow_178 : (oMt 178).2.2.2.2.1 = 11 := by decide +kernel
theorem rt_178 : (oMt 178).2.2.2.1 = some .boolean := by decide +kernel
theorem nl_178 : (oMt 178).2.2.1 = 6 := by decide +kernel
theorem f_178_0 : oFet 178 0 = some (.iload_n 1, 1) := by decide +kernel
theorem s_178_0 {d : Nat} {l0 l2 l3 l4 l5 : oV} {x : Int} {S : List oV} {σ : oSg} {Q : Option oV → (Nat → oC) → Prop} : oE d 178 0 [l0, .inl x, l2, l3, l4, l5] S σ Q = oE d 178 1 [l0, .inl x, l2, l3, l4, l5] (.inl x :: S) σ Q := pLdN (k := 1) f_178_0 rfl rfl rfl
theorem f_178_1 : oFet 178 1 = some (.aload_n 0, 1) := by decide +kernel
theorem s_178_1 {d : Nat} {l1 l2 l3 l4 l5 : oV} {a : Nat} {S : List oV} {σ : oSg} {Q : Option oV → (Nat → oC) → Prop} : oE d 178 1 [.inr (.inr (.inl a)), l1, l2, l3, l4, l5] S σ Q = oE d 178 2 [.inr (.inr (.inl a)), l1, l2, l3, l4, l5] (.inr (.inr (.inl a)) :: S) σ Q := pLdN (k := 0) f_178_1 rfl rfl rfl
theorem f_178_2 : oFet 178 2 = some (.getfield 159, 3) := by decide +kernel
theorem s_178_2 {d : Nat} {l0 l1 l2 l3 l4 l5 : oV} {a : Nat} {S : List oV} {σ : oSg} {Q : Option oV → (Nat → oC) → Prop} (hk : oKd a = some 11) : oE d 178 2 [l0, l1, l2, l3, l4, l5] (.inr (.inr (.inl a)) :: S) σ Q = oE d 178 5 [l0, l1, l2, l3, l4, l5] (.inl (σ.1 a 10) :: S) σ Q := pGfI f_178_2 ow_178 fl_11_159 rfl (by decide) hk
theorem f_178_5 : oFet 178 5 = some (.isub, 1) := by decide +kernel
theorem s_178_5 {d : Nat} {l0 l1 l2 l3 l4 l5 : oV} {x y : Int} {S : List oV} {σ : oSg} {Q : Option oV → (Nat → oC) → Prop} : oE d 178 5 [l0, l1, l2, l3, l4, l5] (.inl y :: .inl x :: S) σ Q = oE d 178 6 [l0, l1, l2, l3, l4, l5] (.inl (oSub x y) :: S) σ Q := oS3 f_178_5 rfl rfl rfl
theorem f_178_6 : oFet 178 6 = some (.iconst 1, 1) := by decide +kernel
theorem s_178_6 {d : Nat} {l0 l1 l2 l3 l4 l5 : oV} {S : List oV} {σ : oSg} {Q : Option oV → (Nat → oC) → Prop} : oE d 178 6 [l0, l1, l2, l3, l4, l5] S σ Q = oE d 178 7 [l0, l1, l2, l3, l4, l5] (.inl (1) :: S) σ Q := pKst f_178_6 (by decide)
theorem f_178_7 : oFet 178 7 = some (.iadd, 1) := by decide +kernel
theorem s_178_7 {d : Nat} {l0 l1 l2 l3 l4 l5 : oV} {x y : Int} {S : List oV} {σ : oSg} {Q : Option oV → (Nat → oC) → Prop} : oE d 178 7 [l0, l1, l2, l3, l4, l5] (.inl y :: .inl x :: S) σ Q = oE d 178 8 [l0, l1, l2, l3, l4, l5] (.inl (oAdd x y) :: S) σ Q := oS3 f_178_7 rfl rfl rfl
theorem f_178_8 : oFet 178 8 = some (.istore_n 2, 1) := by decide +kernel
theorem s_178_8 {d : Nat} {l0 l1 l2 l3 l4 l5 : oV} {x : Int} {S : List oV} {σ : oSg} {Q : Option oV → (Nat → oC) → Prop} (c2 : oCat l2 = 1) (c1 : oCat l1 = 1)  : oE d 178 8 [l0, l1, l2, l3, l4, l5] (.inl x :: S) σ Q = oE d 178 9 [l0, l1, .inl x, l3, l4, l5] S σ Q := pSt (i := 2) f_178_8 rfl rfl (show (2 : Nat) < 6 by decide) (oC1n c1) (oC1n c2) rfl
theorem f_178_9 : oFet 178 9 = some (.iload_n 2, 1) := by decide +kernel
theorem s_178_9 {d : Nat} {l0 l1 l3 l4 l5 : oV} {x : Int} {S : List oV} {σ : oSg} {Q : Option oV → (Nat → oC) → Prop} : oE d 178 9 [l0, l1, .inl x, l3, l4, l5] S σ Q = oE d 178 10 [l0, l1, .inl x, l3, l4, l5] (.inl x :: S) σ Q := pLdN (k := 2) f_178_9 rfl rfl rfl
theorem f_178_10 : oFet 178 10 = some (.aload_n 0, 1) := by decide +kernel
theorem s_178_10 {d : Nat} {l1 l2 l3 l4 l5 : oV} {a : Nat} {S : List oV} {σ : oSg} {Q : Option oV → (Nat → oC) → Prop} : oE d 178 10 [.inr (.inr (.inl a)), l1, l2, l3, l4, l5] S σ Q = oE d 178 11 [.inr (.inr (.inl a)), l1, l2, l3, l4, l5] (.inr (.inr (.inl a)) :: S) σ Q := pLdN (k := 0) f_178_10 rfl rfl rfl
theorem f_178_11 : oFet 178 11 = some (.getfield 162, 3) := by decide +kernel
theorem s_178_11 {d : Nat} {l0 l1 l2 l3 l4 l5 : oV} {a : Nat} {S : List oV} {σ : oSg} {Q : Option oV → (Nat → oC) → Prop} (hk : oKd a = some 11) : oE d 178 11 [l0, l1, l2, l3, l4, l5] (.inr (.inr (.inl a)) :: S) σ Q = oE d 178 14 [l0, l1, l2, l3, l4, l5] (.inl (σ.1 a 11) :: S) σ Q := pGfI f_178_11 ow_178 fl_11_162 rfl (by decide) hk
theorem f_178_14 : oFet 178 14 = some (.if_icmp .ne 61, 3) := by decide +kernel
theorem s_178_14 {d : Nat} {l0 l1 l2 l3 l4 l5 : oV} {x y : Int} {S : List oV} {σ : oSg} {Q : Option oV → (Nat → oC) → Prop} : oE d 178 14 [l0, l1, l2, l3, l4, l5] (.inl y :: .inl x :: S) σ Q = if ¬ x = y then oE d 178 75 [l0, l1, l2, l3, l4, l5] S σ Q else oE d 178 17 [l0, l1, l2, l3, l4, l5] S σ Q := oCmpNe f_178_14 (by decide)
theorem f_178_17 : oFet 178 17 = some (.aload_n 0, 1) := by decide +kernel
theorem s_178_17 {d : Nat} {l1 l2 l3 l4 l5 : oV} {a : Nat} {S : List oV} {σ : oSg} {Q : Option oV → (Nat → oC) → Prop} : oE d 178 17 [.inr (.inr (.inl a)), l1, l2, l3, l4, l5] S σ Q = oE d 178 18 [.inr (.inr (.inl a)), l1, l2, l3, l4, l5] (.inr (.inr (.inl a)) :: S) σ Q := pLdN (k := 0) f_178_17 rfl rfl rfl
theorem f_178_18 : oFet 178 18 = some (.aload_n 0, 1) := by decide +kernel
theorem s_178_18 {d : Nat} {l1 l2 l3 l4 l5 : oV} {a : Nat} {S : List oV} {σ : oSg} {Q : Option oV → (Nat → oC) → Prop} : oE d 178 18 [.inr (.inr (.inl a)), l1, l2, l3, l4, l5] S σ Q = oE d 178 19 [.inr (.inr (.inl a)), l1, l2, l3, l4, l5] (.inr (.inr (.inl a)) :: S) σ Q := pLdN (k := 0) f_178_18 rfl rfl rfl
theorem f_178_19 : oFet 178 19 = some (.getfield 27, 3) := by decide +kernel
theorem s_178_19 {d : Nat} {l0 l1 l2 l3 l4 l5 : oV} {a : Nat} {S : List oV} {σ : oSg} {Q : Option oV → (Nat → oC) → Prop} (hk : oKd a = some 11) : oE d 178 19 [l0, l1, l2, l3, l4, l5] (.inr (.inr (.inl a)) :: S) σ Q = oE d 178 22 [l0, l1, l2, l3, l4, l5] (.inr (.inr (.inl (oRf a 8))) :: S) σ Q := pGfR f_178_19 ow_178 fl_11_27 rfl (by decide) hk
theorem f_178_22 : oFet 178 22 = some (.iload_n 1, 1) := by decide +kernel
theorem s_178_22 {d : Nat} {l0 l2 l3 l4 l5 : oV} {x : Int} {S : List oV} {σ : oSg} {Q : Option oV → (Nat → oC) → Prop} : oE d 178 22 [l0, .inl x, l2, l3, l4, l5] S σ Q = oE d 178 23 [l0, .inl x, l2, l3, l4, l5] (.inl x :: S) σ Q := pLdN (k := 1) f_178_22 rfl rfl rfl
theorem f_178_23 : oFet 178 23 = some (.iconst 1, 1) := by decide +kernel
theorem s_178_23 {d : Nat} {l0 l1 l2 l3 l4 l5 : oV} {S : List oV} {σ : oSg} {Q : Option oV → (Nat → oC) → Prop} : oE d 178 23 [l0, l1, l2, l3, l4, l5] S σ Q = oE d 178 24 [l0, l1, l2, l3, l4, l5] (.inl (1) :: S) σ Q := pKst f_178_23 (by decide)
theorem f_178_24 : oFet 178 24 = some (.isub, 1) := by decide +kernel
theorem s_178_24 {d : Nat} {l0 l1 l2 l3 l4 l5 : oV} {x y : Int} {S : List oV} {σ : oSg} {Q : Option oV → (Nat → oC) → Prop} : oE d 178 24 [l0, l1, l2, l3, l4, l5] (.inl y :: .inl x :: S) σ Q = oE d 178 25 [l0, l1, l2, l3, l4, l5] (.inl (oSub x y) :: S) σ Q := oS3 f_178_24 rfl rfl rfl
theorem f_178_25 : oFet 178 25 = some (.iaload, 1) := by decide +kernel
theorem s_178_25 {d : Nat} {l0 l1 l2 l3 l4 l5 : oV} {a : Nat} {i : Int} {S : List oV} {σ : oSg} {Q : Option oV → (Nat → oC) → Prop} (hk : oAk a = some 0) (h0 : 0 ≤ i) (h1 : i < (oLn a : Int)) : oE d 178 25 [l0, l1, l2, l3, l4, l5] (.inl i :: .inr (.inr (.inl a)) :: S) σ Q = oE d 178 26 [l0, l1, l2, l3, l4, l5] (.inl (σ.2 a i.toNat) :: S) σ Q := oIal f_178_25 hk h0 h1
theorem f_178_26 : oFet 178 26 = some (.aload_n 0, 1) := by decide +kernel
theorem s_178_26 {d : Nat} {l1 l2 l3 l4 l5 : oV} {a : Nat} {S : List oV} {σ : oSg} {Q : Option oV → (Nat → oC) → Prop} : oE d 178 26 [.inr (.inr (.inl a)), l1, l2, l3, l4, l5] S σ Q = oE d 178 27 [.inr (.inr (.inl a)), l1, l2, l3, l4, l5] (.inr (.inr (.inl a)) :: S) σ Q := pLdN (k := 0) f_178_26 rfl rfl rfl
theorem f_178_27 : oFet 178 27 = some (.getfield 27, 3) := by decide +kernel
theorem s_178_27 {d : Nat} {l0 l1 l2 l3 l4 l5 : oV} {a : Nat} {S : List oV} {σ : oSg} {Q : Option oV → (Nat → oC) → Prop} (hk : oKd a = some 11) : oE d 178 27 [l0, l1, l2, l3, l4, l5] (.inr (.inr (.inl a)) :: S) σ Q = oE d 178 30 [l0, l1, l2, l3, l4, l5] (.inr (.inr (.inl (oRf a 8))) :: S) σ Q := pGfR f_178_27 ow_178 fl_11_27 rfl (by decide) hk
theorem f_178_30 : oFet 178 30 = some (.aload_n 0, 1) := by decide +kernel
theorem s_178_30 {d : Nat} {l1 l2 l3 l4 l5 : oV} {a : Nat} {S : List oV} {σ : oSg} {Q : Option oV → (Nat → oC) → Prop} : oE d 178 30 [.inr (.inr (.inl a)), l1, l2, l3, l4, l5] S σ Q = oE d 178 31 [.inr (.inr (.inl a)), l1, l2, l3, l4, l5] (.inr (.inr (.inl a)) :: S) σ Q := pLdN (k := 0) f_178_30 rfl rfl rfl
theorem f_178_31 : oFet 178 31 = some (.getfield 159, 3) := by decide +kernel
theorem s_178_31 {d : Nat} {l0 l1 l2 l3 l4 l5 : oV} {a : Nat} {S : List oV} {σ : oSg} {Q : Option oV → (Nat → oC) → Prop} (hk : oKd a = some 11) : oE d 178 31 [l0, l1, l2, l3, l4, l5] (.inr (.inr (.inl a)) :: S) σ Q = oE d 178 34 [l0, l1, l2, l3, l4, l5] (.inl (σ.1 a 10) :: S) σ Q := pGfI f_178_31 ow_178 fl_11_159 rfl (by decide) hk
theorem f_178_34 : oFet 178 34 = some (.iconst 1, 1) := by decide +kernel
theorem s_178_34 {d : Nat} {l0 l1 l2 l3 l4 l5 : oV} {S : List oV} {σ : oSg} {Q : Option oV → (Nat → oC) → Prop} : oE d 178 34 [l0, l1, l2, l3, l4, l5] S σ Q = oE d 178 35 [l0, l1, l2, l3, l4, l5] (.inl (1) :: S) σ Q := pKst f_178_34 (by decide)
theorem f_178_35 : oFet 178 35 = some (.isub, 1) := by decide +kernel
theorem s_178_35 {d : Nat} {l0 l1 l2 l3 l4 l5 : oV} {x y : Int} {S : List oV} {σ : oSg} {Q : Option oV → (Nat → oC) → Prop} : oE d 178 35 [l0, l1, l2, l3, l4, l5] (.inl y :: .inl x :: S) σ Q = oE d 178 36 [l0, l1, l2, l3, l4, l5] (.inl (oSub x y) :: S) σ Q := oS3 f_178_35 rfl rfl rfl
theorem f_178_36 : oFet 178 36 = some (.iaload, 1) := by decide +kernel
theorem s_178_36 {d : Nat} {l0 l1 l2 l3 l4 l5 : oV} {a : Nat} {i : Int} {S : List oV} {σ : oSg} {Q : Option oV → (Nat → oC) → Prop} (hk : oAk a = some 0) (h0 : 0 ≤ i) (h1 : i < (oLn a : Int)) : oE d 178 36 [l0, l1, l2, l3, l4, l5] (.inl i :: .inr (.inr (.inl a)) :: S) σ Q = oE d 178 37 [l0, l1, l2, l3, l4, l5] (.inl (σ.2 a i.toNat) :: S) σ Q := oIal f_178_36 hk h0 h1
theorem f_178_37 : oFet 178 37 = some (.invokevirtual 91, 3) := by decide +kernel
theorem c_178_37 {d : Nat} {l0 l1 l2 l3 l4 l5 : oV} {x0 x1 : oV} {a : Nat} {v : Option oV} {τ : oSg} {S : List oV} {σ : oSg} {Q : Option oV → (Nat → oC) → Prop} (hm : oMi d 153 [.inr (.inr (.inl a)), x0, x1] σ v τ) (hk : oKd a = some 11) (hs : oSmall S = true) : oE d 178 37 [l0, l1, l2, l3, l4, l5] (x1 :: x0 :: .inr (.inr (.inl a)) :: S) σ Q = oE d 178 40 [l0, l1, l2, l3, l4, l5] (v.toList ++ S) τ Q := pCallV f_178_37 ow_178 lk_11_91 mt_153 rfl rfl rfl hk hs hm
theorem f_178_40 : oFet 178 40 = some (.ifCond .eq 33, 3) := by decide +kernel
theorem s_178_40 {d : Nat} {l0 l1 l2 l3 l4 l5 : oV} {x : Int} {S : List oV} {σ : oSg} {Q : Option oV → (Nat → oC) → Prop} : oE d 178 40 [l0, l1, l2, l3, l4, l5] (.inl x :: S) σ Q = if x = 0 then oE d 178 73 [l0, l1, l2, l3, l4, l5] S σ Q else oE d 178 43 [l0, l1, l2, l3, l4, l5] S σ Q := oIfEq f_178_40 (by decide)
theorem f_178_43 : oFet 178 43 = some (.aload_n 0, 1) := by decide +kernel
theorem s_178_43 {d : Nat} {l1 l2 l3 l4 l5 : oV} {a : Nat} {S : List oV} {σ : oSg} {Q : Option oV → (Nat → oC) → Prop} : oE d 178 43 [.inr (.inr (.inl a)), l1, l2, l3, l4, l5] S σ Q = oE d 178 44 [.inr (.inr (.inl a)), l1, l2, l3, l4, l5] (.inr (.inr (.inl a)) :: S) σ Q := pLdN (k := 0) f_178_43 rfl rfl rfl
theorem f_178_44 : oFet 178 44 = some (.aload_n 0, 1) := by decide +kernel
theorem s_178_44 {d : Nat} {l1 l2 l3 l4 l5 : oV} {a : Nat} {S : List oV} {σ : oSg} {Q : Option oV → (Nat → oC) → Prop} : oE d 178 44 [.inr (.inr (.inl a)), l1, l2, l3, l4, l5] S σ Q = oE d 178 45 [.inr (.inr (.inl a)), l1, l2, l3, l4, l5] (.inr (.inr (.inl a)) :: S) σ Q := pLdN (k := 0) f_178_44 rfl rfl rfl
theorem f_178_45 : oFet 178 45 = some (.getfield 27, 3) := by decide +kernel
theorem s_178_45 {d : Nat} {l0 l1 l2 l3 l4 l5 : oV} {a : Nat} {S : List oV} {σ : oSg} {Q : Option oV → (Nat → oC) → Prop} (hk : oKd a = some 11) : oE d 178 45 [l0, l1, l2, l3, l4, l5] (.inr (.inr (.inl a)) :: S) σ Q = oE d 178 48 [l0, l1, l2, l3, l4, l5] (.inr (.inr (.inl (oRf a 8))) :: S) σ Q := pGfR f_178_45 ow_178 fl_11_27 rfl (by decide) hk
theorem f_178_48 : oFet 178 48 = some (.iload_n 1, 1) := by decide +kernel
theorem s_178_48 {d : Nat} {l0 l2 l3 l4 l5 : oV} {x : Int} {S : List oV} {σ : oSg} {Q : Option oV → (Nat → oC) → Prop} : oE d 178 48 [l0, .inl x, l2, l3, l4, l5] S σ Q = oE d 178 49 [l0, .inl x, l2, l3, l4, l5] (.inl x :: S) σ Q := pLdN (k := 1) f_178_48 rfl rfl rfl
theorem f_178_49 : oFet 178 49 = some (.iconst 1, 1) := by decide +kernel
theorem s_178_49 {d : Nat} {l0 l1 l2 l3 l4 l5 : oV} {S : List oV} {σ : oSg} {Q : Option oV → (Nat → oC) → Prop} : oE d 178 49 [l0, l1, l2, l3, l4, l5] S σ Q = oE d 178 50 [l0, l1, l2, l3, l4, l5] (.inl (1) :: S) σ Q := pKst f_178_49 (by decide)
theorem f_178_50 : oFet 178 50 = some (.isub, 1) := by decide +kernel
theorem s_178_50 {d : Nat} {l0 l1 l2 l3 l4 l5 : oV} {x y : Int} {S : List oV} {σ : oSg} {Q : Option oV → (Nat → oC) → Prop} : oE d 178 50 [l0, l1, l2, l3, l4, l5] (.inl y :: .inl x :: S) σ Q = oE d 178 51 [l0, l1, l2, l3, l4, l5] (.inl (oSub x y) :: S) σ Q := oS3 f_178_50 rfl rfl rfl
theorem f_178_51 : oFet 178 51 = some (.iaload, 1) := by decide +kernel
theorem s_178_51 {d : Nat} {l0 l1 l2 l3 l4 l5 : oV} {a : Nat} {i : Int} {S : List oV} {σ : oSg} {Q : Option oV → (Nat → oC) → Prop} (hk : oAk a = some 0) (h0 : 0 ≤ i) (h1 : i < (oLn a : Int)) : oE d 178 51 [l0, l1, l2, l3, l4, l5] (.inl i :: .inr (.inr (.inl a)) :: S) σ Q = oE d 178 52 [l0, l1, l2, l3, l4, l5] (.inl (σ.2 a i.toNat) :: S) σ Q := oIal f_178_51 hk h0 h1
theorem f_178_52 : oFet 178 52 = some (.invokevirtual 75, 3) := by decide +kernel
theorem c_178_52 {d : Nat} {l0 l1 l2 l3 l4 l5 : oV} {x0 : oV} {a : Nat} {v : Option oV} {τ : oSg} {S : List oV} {σ : oSg} {Q : Option oV → (Nat → oC) → Prop} (hm : oMi d 149 [.inr (.inr (.inl a)), x0] σ v τ) (hk : oKd a = some 11) (hs : oSmall S = true) : oE d 178 52 [l0, l1, l2, l3, l4, l5] (x0 :: .inr (.inr (.inl a)) :: S) σ Q = oE d 178 55 [l0, l1, l2, l3, l4, l5] (v.toList ++ S) τ Q := pCallV f_178_52 ow_178 lk_11_75 mt_149 rfl rfl rfl hk hs hm
theorem f_178_55 : oFet 178 55 = some (.aload_n 0, 1) := by decide +kernel
theorem s_178_55 {d : Nat} {l1 l2 l3 l4 l5 : oV} {a : Nat} {S : List oV} {σ : oSg} {Q : Option oV → (Nat → oC) → Prop} : oE d 178 55 [.inr (.inr (.inl a)), l1, l2, l3, l4, l5] S σ Q = oE d 178 56 [.inr (.inr (.inl a)), l1, l2, l3, l4, l5] (.inr (.inr (.inl a)) :: S) σ Q := pLdN (k := 0) f_178_55 rfl rfl rfl
theorem f_178_56 : oFet 178 56 = some (.getfield 27, 3) := by decide +kernel
theorem s_178_56 {d : Nat} {l0 l1 l2 l3 l4 l5 : oV} {a : Nat} {S : List oV} {σ : oSg} {Q : Option oV → (Nat → oC) → Prop} (hk : oKd a = some 11) : oE d 178 56 [l0, l1, l2, l3, l4, l5] (.inr (.inr (.inl a)) :: S) σ Q = oE d 178 59 [l0, l1, l2, l3, l4, l5] (.inr (.inr (.inl (oRf a 8))) :: S) σ Q := pGfR f_178_56 ow_178 fl_11_27 rfl (by decide) hk
theorem f_178_59 : oFet 178 59 = some (.aload_n 0, 1) := by decide +kernel
theorem s_178_59 {d : Nat} {l1 l2 l3 l4 l5 : oV} {a : Nat} {S : List oV} {σ : oSg} {Q : Option oV → (Nat → oC) → Prop} : oE d 178 59 [.inr (.inr (.inl a)), l1, l2, l3, l4, l5] S σ Q = oE d 178 60 [.inr (.inr (.inl a)), l1, l2, l3, l4, l5] (.inr (.inr (.inl a)) :: S) σ Q := pLdN (k := 0) f_178_59 rfl rfl rfl
theorem f_178_60 : oFet 178 60 = some (.getfield 159, 3) := by decide +kernel
theorem s_178_60 {d : Nat} {l0 l1 l2 l3 l4 l5 : oV} {a : Nat} {S : List oV} {σ : oSg} {Q : Option oV → (Nat → oC) → Prop} (hk : oKd a = some 11) : oE d 178 60 [l0, l1, l2, l3, l4, l5] (.inr (.inr (.inl a)) :: S) σ Q = oE d 178 63 [l0, l1, l2, l3, l4, l5] (.inl (σ.1 a 10) :: S) σ Q := pGfI f_178_60 ow_178 fl_11_159 rfl (by decide) hk
theorem f_178_63 : oFet 178 63 = some (.iconst 1, 1) := by decide +kernel
theorem s_178_63 {d : Nat} {l0 l1 l2 l3 l4 l5 : oV} {S : List oV} {σ : oSg} {Q : Option oV → (Nat → oC) → Prop} : oE d 178 63 [l0, l1, l2, l3, l4, l5] S σ Q = oE d 178 64 [l0, l1, l2, l3, l4, l5] (.inl (1) :: S) σ Q := pKst f_178_63 (by decide)
theorem f_178_64 : oFet 178 64 = some (.isub, 1) := by decide +kernel
theorem s_178_64 {d : Nat} {l0 l1 l2 l3 l4 l5 : oV} {x y : Int} {S : List oV} {σ : oSg} {Q : Option oV → (Nat → oC) → Prop} : oE d 178 64 [l0, l1, l2, l3, l4, l5] (.inl y :: .inl x :: S) σ Q = oE d 178 65 [l0, l1, l2, l3, l4, l5] (.inl (oSub x y) :: S) σ Q := oS3 f_178_64 rfl rfl rfl
theorem f_178_65 : oFet 178 65 = some (.iaload, 1) := by decide +kernel
theorem s_178_65 {d : Nat} {l0 l1 l2 l3 l4 l5 : oV} {a : Nat} {i : Int} {S : List oV} {σ : oSg} {Q : Option oV → (Nat → oC) → Prop} (hk : oAk a = some 0) (h0 : 0 ≤ i) (h1 : i < (oLn a : Int)) : oE d 178 65 [l0, l1, l2, l3, l4, l5] (.inl i :: .inr (.inr (.inl a)) :: S) σ Q = oE d 178 66 [l0, l1, l2, l3, l4, l5] (.inl (σ.2 a i.toNat) :: S) σ Q := oIal f_178_65 hk h0 h1
theorem f_178_66 : oFet 178 66 = some (.if_icmp .eq 7, 3) := by decide +kernel
theorem s_178_66 {d : Nat} {l0 l1 l2 l3 l4 l5 : oV} {x y : Int} {S : List oV} {σ : oSg} {Q : Option oV → (Nat → oC) → Prop} : oE d 178 66 [l0, l1, l2, l3, l4, l5] (.inl y :: .inl x :: S) σ Q = if x = y then oE d 178 73 [l0, l1, l2, l3, l4, l5] S σ Q else oE d 178 69 [l0, l1, l2, l3, l4, l5] S σ Q := oCmpEq f_178_66 (by decide)
theorem f_178_69 : oFet 178 69 = some (.iconst 1, 1) := by decide +kernel
theorem s_178_69 {d : Nat} {l0 l1 l2 l3 l4 l5 : oV} {S : List oV} {σ : oSg} {Q : Option oV → (Nat → oC) → Prop} : oE d 178 69 [l0, l1, l2, l3, l4, l5] S σ Q = oE d 178 70 [l0, l1, l2, l3, l4, l5] (.inl (1) :: S) σ Q := pKst f_178_69 (by decide)
theorem f_178_70 : oFet 178 70 = some (.goto 4, 3) := by decide +kernel
theorem s_178_70 {d : Nat} {l0 l1 l2 l3 l4 l5 : oV} {S : List oV} {σ : oSg} {Q : Option oV → (Nat → oC) → Prop} : oE d 178 70 [l0, l1, l2, l3, l4, l5] S σ Q = oE d 178 74 [l0, l1, l2, l3, l4, l5] S σ Q := pGoto f_178_70 (by decide)
theorem f_178_73 : oFet 178 73 = some (.iconst 0, 1) := by decide +kernel
theorem s_178_73 {d : Nat} {l0 l1 l2 l3 l4 l5 : oV} {S : List oV} {σ : oSg} {Q : Option oV → (Nat → oC) → Prop} : oE d 178 73 [l0, l1, l2, l3, l4, l5] S σ Q = oE d 178 74 [l0, l1, l2, l3, l4, l5] (.inl (0) :: S) σ Q := pKst f_178_73 (by decide)
theorem f_178_74 : oFet 178 74 = some (.ireturn, 1) := by decide +kernel
theorem s_178_74 {d : Nat} {l0 l1 l2 l3 l4 l5 : oV} {x : Int} {σ : oSg} {Q : Option oV → (Nat → oC) → Prop} (hx : x = 0 ∨ x = 1) : oE d 178 74 [l0, l1, l2, l3, l4, l5] [.inl x] σ Q = Q (some (.inl x)) (oBld σ) := oZret f_178_74 rt_178 hx
theorem f_178_75 : oFet 178 75 = some (.iconst 0, 1) := by decide +kernel
theorem s_178_75 {d : Nat} {l0 l1 l2 l3 l4 l5 : oV} {S : List oV} {σ : oSg} {Q : Option oV → (Nat → oC) → Prop} : oE d 178 75 [l0, l1, l2, l3, l4, l5] S σ Q = oE d 178 76 [l0, l1, l2, l3, l4, l5] (.inl (0) :: S) σ Q := pKst f_178_75 (by decide)
theorem f_178_76 : oFet 178 76 = some (.istore_n 3, 1) := by decide +kernel
theorem s_178_76 {d : Nat} {l0 l1 l2 l3 l4 l5 : oV} {x : Int} {S : List oV} {σ : oSg} {Q : Option oV → (Nat → oC) → Prop} (c3 : oCat l3 = 1) (c2 : oCat l2 = 1)  : oE d 178 76 [l0, l1, l2, l3, l4, l5] (.inl x :: S) σ Q = oE d 178 77 [l0, l1, l2, .inl x, l4, l5] S σ Q := pSt (i := 3) f_178_76 rfl rfl (show (3 : Nat) < 6 by decide) (oC1n c2) (oC1n c3) rfl
theorem f_178_77 : oFet 178 77 = some (.iload_n 3, 1) := by decide +kernel
theorem s_178_77 {d : Nat} {l0 l1 l2 l4 l5 : oV} {x : Int} {S : List oV} {σ : oSg} {Q : Option oV → (Nat → oC) → Prop} : oE d 178 77 [l0, l1, l2, .inl x, l4, l5] S σ Q = oE d 178 78 [l0, l1, l2, .inl x, l4, l5] (.inl x :: S) σ Q := pLdN (k := 3) f_178_77 rfl rfl rfl
theorem f_178_78 : oFet 178 78 = some (.aload_n 0, 1) := by decide +kernel
theorem s_178_78 {d : Nat} {l1 l2 l3 l4 l5 : oV} {a : Nat} {S : List oV} {σ : oSg} {Q : Option oV → (Nat → oC) → Prop} : oE d 178 78 [.inr (.inr (.inl a)), l1, l2, l3, l4, l5] S σ Q = oE d 178 79 [.inr (.inr (.inl a)), l1, l2, l3, l4, l5] (.inr (.inr (.inl a)) :: S) σ Q := pLdN (k := 0) f_178_78 rfl rfl rfl
theorem f_178_79 : oFet 178 79 = some (.getfield 11, 3) := by decide +kernel
theorem s_178_79 {d : Nat} {l0 l1 l2 l3 l4 l5 : oV} {a : Nat} {S : List oV} {σ : oSg} {Q : Option oV → (Nat → oC) → Prop} (hk : oKd a = some 11) : oE d 178 79 [l0, l1, l2, l3, l4, l5] (.inr (.inr (.inl a)) :: S) σ Q = oE d 178 82 [l0, l1, l2, l3, l4, l5] (.inr (.inr (.inl (oRf a 0))) :: S) σ Q := pGfR f_178_79 ow_178 fl_11_11 rfl (by decide) hk
theorem f_178_82 : oFet 178 82 = some (.iconst 0, 1) := by decide +kernel
theorem s_178_82 {d : Nat} {l0 l1 l2 l3 l4 l5 : oV} {S : List oV} {σ : oSg} {Q : Option oV → (Nat → oC) → Prop} : oE d 178 82 [l0, l1, l2, l3, l4, l5] S σ Q = oE d 178 83 [l0, l1, l2, l3, l4, l5] (.inl (0) :: S) σ Q := pKst f_178_82 (by decide)
theorem f_178_83 : oFet 178 83 = some (.iaload, 1) := by decide +kernel
theorem s_178_83 {d : Nat} {l0 l1 l2 l3 l4 l5 : oV} {a : Nat} {i : Int} {S : List oV} {σ : oSg} {Q : Option oV → (Nat → oC) → Prop} (hk : oAk a = some 0) (h0 : 0 ≤ i) (h1 : i < (oLn a : Int)) : oE d 178 83 [l0, l1, l2, l3, l4, l5] (.inl i :: .inr (.inr (.inl a)) :: S) σ Q = oE d 178 84 [l0, l1, l2, l3, l4, l5] (.inl (σ.2 a i.toNat) :: S) σ Q := oIal f_178_83 hk h0 h1
theorem f_178_84 : oFet 178 84 = some (.if_icmp .ge 174, 3) := by decide +kernel
theorem s_178_84 {d : Nat} {l0 l1 l2 l3 l4 l5 : oV} {x y : Int} {S : List oV} {σ : oSg} {Q : Option oV → (Nat → oC) → Prop} : oE d 178 84 [l0, l1, l2, l3, l4, l5] (.inl y :: .inl x :: S) σ Q = if y ≤ x then oE d 178 258 [l0, l1, l2, l3, l4, l5] S σ Q else oE d 178 87 [l0, l1, l2, l3, l4, l5] S σ Q := oCmpGe f_178_84 (by decide)
theorem f_178_87 : oFet 178 87 = some (.aload_n 0, 1) := by decide +kernel
theorem s_178_87 {d : Nat} {l1 l2 l3 l4 l5 : oV} {a : Nat} {S : List oV} {σ : oSg} {Q : Option oV → (Nat → oC) → Prop} : oE d 178 87 [.inr (.inr (.inl a)), l1, l2, l3, l4, l5] S σ Q = oE d 178 88 [.inr (.inr (.inl a)), l1, l2, l3, l4, l5] (.inr (.inr (.inl a)) :: S) σ Q := pLdN (k := 0) f_178_87 rfl rfl rfl
theorem f_178_88 : oFet 178 88 = some (.iload_n 3, 1) := by decide +kernel
theorem s_178_88 {d : Nat} {l0 l1 l2 l4 l5 : oV} {x : Int} {S : List oV} {σ : oSg} {Q : Option oV → (Nat → oC) → Prop} : oE d 178 88 [l0, l1, l2, .inl x, l4, l5] S σ Q = oE d 178 89 [l0, l1, l2, .inl x, l4, l5] (.inl x :: S) σ Q := pLdN (k := 3) f_178_88 rfl rfl rfl
theorem f_178_89 : oFet 178 89 = some (.iload_n 1, 1) := by decide +kernel
theorem s_178_89 {d : Nat} {l0 l2 l3 l4 l5 : oV} {x : Int} {S : List oV} {σ : oSg} {Q : Option oV → (Nat → oC) → Prop} : oE d 178 89 [l0, .inl x, l2, l3, l4, l5] S σ Q = oE d 178 90 [l0, .inl x, l2, l3, l4, l5] (.inl x :: S) σ Q := pLdN (k := 1) f_178_89 rfl rfl rfl
theorem f_178_90 : oFet 178 90 = some (.invokevirtual 153, 3) := by decide +kernel
theorem c_178_90 {d : Nat} {l0 l1 l2 l3 l4 l5 : oV} {x0 x1 : oV} {a : Nat} {v : Option oV} {τ : oSg} {S : List oV} {σ : oSg} {Q : Option oV → (Nat → oC) → Prop} (hm : oMi d 164 [.inr (.inr (.inl a)), x0, x1] σ v τ) (hk : oKd a = some 11) (hs : oSmall S = true) : oE d 178 90 [l0, l1, l2, l3, l4, l5] (x1 :: x0 :: .inr (.inr (.inl a)) :: S) σ Q = oE d 178 93 [l0, l1, l2, l3, l4, l5] (v.toList ++ S) τ Q := pCallV f_178_90 ow_178 lk_11_153 mt_164 rfl rfl rfl hk hs hm
theorem f_178_93 : oFet 178 93 = some (.ifCond .eq 6, 3) := by decide +kernel
theorem s_178_93 {d : Nat} {l0 l1 l2 l3 l4 l5 : oV} {x : Int} {S : List oV} {σ : oSg} {Q : Option oV → (Nat → oC) → Prop} : oE d 178 93 [l0, l1, l2, l3, l4, l5] (.inl x :: S) σ Q = if x = 0 then oE d 178 99 [l0, l1, l2, l3, l4, l5] S σ Q else oE d 178 96 [l0, l1, l2, l3, l4, l5] S σ Q := oIfEq f_178_93 (by decide)
theorem f_178_96 : oFet 178 96 = some (.goto 156, 3) := by decide +kernel
theorem s_178_96 {d : Nat} {l0 l1 l2 l3 l4 l5 : oV} {S : List oV} {σ : oSg} {Q : Option oV → (Nat → oC) → Prop} : oE d 178 96 [l0, l1, l2, l3, l4, l5] S σ Q = oE d 178 252 [l0, l1, l2, l3, l4, l5] S σ Q := pGoto f_178_96 (by decide)
theorem f_178_99 : oFet 178 99 = some (.iload_n 1, 1) := by decide +kernel
theorem s_178_99 {d : Nat} {l0 l2 l3 l4 l5 : oV} {x : Int} {S : List oV} {σ : oSg} {Q : Option oV → (Nat → oC) → Prop} : oE d 178 99 [l0, .inl x, l2, l3, l4, l5] S σ Q = oE d 178 100 [l0, .inl x, l2, l3, l4, l5] (.inl x :: S) σ Q := pLdN (k := 1) f_178_99 rfl rfl rfl
theorem f_178_100 : oFet 178 100 = some (.ifCond .ne 22, 3) := by decide +kernel
theorem s_178_100 {d : Nat} {l0 l1 l2 l3 l4 l5 : oV} {x : Int} {S : List oV} {σ : oSg} {Q : Option oV → (Nat → oC) → Prop} : oE d 178 100 [l0, l1, l2, l3, l4, l5] (.inl x :: S) σ Q = if ¬ x = 0 then oE d 178 122 [l0, l1, l2, l3, l4, l5] S σ Q else oE d 178 103 [l0, l1, l2, l3, l4, l5] S σ Q := oIfNe f_178_100 (by decide)
theorem f_178_103 : oFet 178 103 = some (.aload_n 0, 1) := by decide +kernel
theorem s_178_103 {d : Nat} {l1 l2 l3 l4 l5 : oV} {a : Nat} {S : List oV} {σ : oSg} {Q : Option oV → (Nat → oC) → Prop} : oE d 178 103 [.inr (.inr (.inl a)), l1, l2, l3, l4, l5] S σ Q = oE d 178 104 [.inr (.inr (.inl a)), l1, l2, l3, l4, l5] (.inr (.inr (.inl a)) :: S) σ Q := pLdN (k := 0) f_178_103 rfl rfl rfl
theorem f_178_104 : oFet 178 104 = some (.iload_n 3, 1) := by decide +kernel
theorem s_178_104 {d : Nat} {l0 l1 l2 l4 l5 : oV} {x : Int} {S : List oV} {σ : oSg} {Q : Option oV → (Nat → oC) → Prop} : oE d 178 104 [l0, l1, l2, .inl x, l4, l5] S σ Q = oE d 178 105 [l0, l1, l2, .inl x, l4, l5] (.inl x :: S) σ Q := pLdN (k := 3) f_178_104 rfl rfl rfl
theorem f_178_105 : oFet 178 105 = some (.invokevirtual 75, 3) := by decide +kernel
theorem c_178_105 {d : Nat} {l0 l1 l2 l3 l4 l5 : oV} {x0 : oV} {a : Nat} {v : Option oV} {τ : oSg} {S : List oV} {σ : oSg} {Q : Option oV → (Nat → oC) → Prop} (hm : oMi d 149 [.inr (.inr (.inl a)), x0] σ v τ) (hk : oKd a = some 11) (hs : oSmall S = true) : oE d 178 105 [l0, l1, l2, l3, l4, l5] (x0 :: .inr (.inr (.inl a)) :: S) σ Q = oE d 178 108 [l0, l1, l2, l3, l4, l5] (v.toList ++ S) τ Q := pCallV f_178_105 ow_178 lk_11_75 mt_149 rfl rfl rfl hk hs hm
theorem f_178_108 : oFet 178 108 = some (.iconst (-1), 1) := by decide +kernel
theorem s_178_108 {d : Nat} {l0 l1 l2 l3 l4 l5 : oV} {S : List oV} {σ : oSg} {Q : Option oV → (Nat → oC) → Prop} : oE d 178 108 [l0, l1, l2, l3, l4, l5] S σ Q = oE d 178 109 [l0, l1, l2, l3, l4, l5] (.inl (-1) :: S) σ Q := pKst f_178_108 (by decide)
theorem f_178_109 : oFet 178 109 = some (.if_icmp .ne 7, 3) := by decide +kernel
theorem s_178_109 {d : Nat} {l0 l1 l2 l3 l4 l5 : oV} {x y : Int} {S : List oV} {σ : oSg} {Q : Option oV → (Nat → oC) → Prop} : oE d 178 109 [l0, l1, l2, l3, l4, l5] (.inl y :: .inl x :: S) σ Q = if ¬ x = y then oE d 178 116 [l0, l1, l2, l3, l4, l5] S σ Q else oE d 178 112 [l0, l1, l2, l3, l4, l5] S σ Q := oCmpNe f_178_109 (by decide)
theorem f_178_112 : oFet 178 112 = some (.iconst 1, 1) := by decide +kernel
theorem s_178_112 {d : Nat} {l0 l1 l2 l3 l4 l5 : oV} {S : List oV} {σ : oSg} {Q : Option oV → (Nat → oC) → Prop} : oE d 178 112 [l0, l1, l2, l3, l4, l5] S σ Q = oE d 178 113 [l0, l1, l2, l3, l4, l5] (.inl (1) :: S) σ Q := pKst f_178_112 (by decide)
theorem f_178_113 : oFet 178 113 = some (.goto 4, 3) := by decide +kernel
theorem s_178_113 {d : Nat} {l0 l1 l2 l3 l4 l5 : oV} {S : List oV} {σ : oSg} {Q : Option oV → (Nat → oC) → Prop} : oE d 178 113 [l0, l1, l2, l3, l4, l5] S σ Q = oE d 178 117 [l0, l1, l2, l3, l4, l5] S σ Q := pGoto f_178_113 (by decide)
theorem f_178_116 : oFet 178 116 = some (.iconst 0, 1) := by decide +kernel
theorem s_178_116 {d : Nat} {l0 l1 l2 l3 l4 l5 : oV} {S : List oV} {σ : oSg} {Q : Option oV → (Nat → oC) → Prop} : oE d 178 116 [l0, l1, l2, l3, l4, l5] S σ Q = oE d 178 117 [l0, l1, l2, l3, l4, l5] (.inl (0) :: S) σ Q := pKst f_178_116 (by decide)
theorem f_178_117 : oFet 178 117 = some (.istore 4, 2) := by decide +kernel
theorem s_178_117 {d : Nat} {l0 l1 l2 l3 l4 l5 : oV} {x : Int} {S : List oV} {σ : oSg} {Q : Option oV → (Nat → oC) → Prop} (c4 : oCat l4 = 1) (c3 : oCat l3 = 1)  : oE d 178 117 [l0, l1, l2, l3, l4, l5] (.inl x :: S) σ Q = oE d 178 119 [l0, l1, l2, l3, .inl x, l5] S σ Q := pSt (i := 4) f_178_117 rfl rfl (show (4 : Nat) < 6 by decide) (oC1n c3) (oC1n c4) rfl
theorem f_178_119 : oFet 178 119 = some (.goto 106, 3) := by decide +kernel
theorem s_178_119 {d : Nat} {l0 l1 l2 l3 l4 l5 : oV} {S : List oV} {σ : oSg} {Q : Option oV → (Nat → oC) → Prop} : oE d 178 119 [l0, l1, l2, l3, l4, l5] S σ Q = oE d 178 225 [l0, l1, l2, l3, l4, l5] S σ Q := pGoto f_178_119 (by decide)
theorem f_178_122 : oFet 178 122 = some (.iload_n 1, 1) := by decide +kernel
theorem s_178_122 {d : Nat} {l0 l2 l3 l4 l5 : oV} {x : Int} {S : List oV} {σ : oSg} {Q : Option oV → (Nat → oC) → Prop} : oE d 178 122 [l0, .inl x, l2, l3, l4, l5] S σ Q = oE d 178 123 [l0, .inl x, l2, l3, l4, l5] (.inl x :: S) σ Q := pLdN (k := 1) f_178_122 rfl rfl rfl
theorem f_178_123 : oFet 178 123 = some (.aload_n 0, 1) := by decide +kernel
theorem s_178_123 {d : Nat} {l1 l2 l3 l4 l5 : oV} {a : Nat} {S : List oV} {σ : oSg} {Q : Option oV → (Nat → oC) → Prop} : oE d 178 123 [.inr (.inr (.inl a)), l1, l2, l3, l4, l5] S σ Q = oE d 178 124 [.inr (.inr (.inl a)), l1, l2, l3, l4, l5] (.inr (.inr (.inl a)) :: S) σ Q := pLdN (k := 0) f_178_123 rfl rfl rfl
theorem f_178_124 : oFet 178 124 = some (.getfield 159, 3) := by decide +kernel
theorem s_178_124 {d : Nat} {l0 l1 l2 l3 l4 l5 : oV} {a : Nat} {S : List oV} {σ : oSg} {Q : Option oV → (Nat → oC) → Prop} (hk : oKd a = some 11) : oE d 178 124 [l0, l1, l2, l3, l4, l5] (.inr (.inr (.inl a)) :: S) σ Q = oE d 178 127 [l0, l1, l2, l3, l4, l5] (.inl (σ.1 a 10) :: S) σ Q := pGfI f_178_124 ow_178 fl_11_159 rfl (by decide) hk
theorem f_178_127 : oFet 178 127 = some (.if_icmp .ge 17, 3) := by decide +kernel
theorem s_178_127 {d : Nat} {l0 l1 l2 l3 l4 l5 : oV} {x y : Int} {S : List oV} {σ : oSg} {Q : Option oV → (Nat → oC) → Prop} : oE d 178 127 [l0, l1, l2, l3, l4, l5] (.inl y :: .inl x :: S) σ Q = if y ≤ x then oE d 178 144 [l0, l1, l2, l3, l4, l5] S σ Q else oE d 178 130 [l0, l1, l2, l3, l4, l5] S σ Q := oCmpGe f_178_127 (by decide)
theorem f_178_130 : oFet 178 130 = some (.iload_n 1, 1) := by decide +kernel
theorem s_178_130 {d : Nat} {l0 l2 l3 l4 l5 : oV} {x : Int} {S : List oV} {σ : oSg} {Q : Option oV → (Nat → oC) → Prop} : oE d 178 130 [l0, .inl x, l2, l3, l4, l5] S σ Q = oE d 178 131 [l0, .inl x, l2, l3, l4, l5] (.inl x :: S) σ Q := pLdN (k := 1) f_178_130 rfl rfl rfl
theorem f_178_131 : oFet 178 131 = some (.iconst 2, 1) := by decide +kernel
theorem s_178_131 {d : Nat} {l0 l1 l2 l3 l4 l5 : oV} {S : List oV} {σ : oSg} {Q : Option oV → (Nat → oC) → Prop} : oE d 178 131 [l0, l1, l2, l3, l4, l5] S σ Q = oE d 178 132 [l0, l1, l2, l3, l4, l5] (.inl (2) :: S) σ Q := pKst f_178_131 (by decide)
theorem f_178_132 : oFet 178 132 = some (.irem, 1) := by decide +kernel
theorem s_178_132 {d : Nat} {l0 l1 l2 l3 l4 l5 : oV} {x y : Int} {S : List oV} {σ : oSg} {Q : Option oV → (Nat → oC) → Prop} (hy : y ≠ 0) : oE d 178 132 [l0, l1, l2, l3, l4, l5] (.inl y :: .inl x :: S) σ Q = oE d 178 133 [l0, l1, l2, l3, l4, l5] (.inl (oRem x y) :: S) σ Q := pRem f_178_132 hy
theorem f_178_133 : oFet 178 133 = some (.ifCond .ne 7, 3) := by decide +kernel
theorem s_178_133 {d : Nat} {l0 l1 l2 l3 l4 l5 : oV} {x : Int} {S : List oV} {σ : oSg} {Q : Option oV → (Nat → oC) → Prop} : oE d 178 133 [l0, l1, l2, l3, l4, l5] (.inl x :: S) σ Q = if ¬ x = 0 then oE d 178 140 [l0, l1, l2, l3, l4, l5] S σ Q else oE d 178 136 [l0, l1, l2, l3, l4, l5] S σ Q := oIfNe f_178_133 (by decide)
theorem f_178_136 : oFet 178 136 = some (.iconst 1, 1) := by decide +kernel
theorem s_178_136 {d : Nat} {l0 l1 l2 l3 l4 l5 : oV} {S : List oV} {σ : oSg} {Q : Option oV → (Nat → oC) → Prop} : oE d 178 136 [l0, l1, l2, l3, l4, l5] S σ Q = oE d 178 137 [l0, l1, l2, l3, l4, l5] (.inl (1) :: S) σ Q := pKst f_178_136 (by decide)
theorem f_178_137 : oFet 178 137 = some (.goto 18, 3) := by decide +kernel
theorem s_178_137 {d : Nat} {l0 l1 l2 l3 l4 l5 : oV} {S : List oV} {σ : oSg} {Q : Option oV → (Nat → oC) → Prop} : oE d 178 137 [l0, l1, l2, l3, l4, l5] S σ Q = oE d 178 155 [l0, l1, l2, l3, l4, l5] S σ Q := pGoto f_178_137 (by decide)
theorem f_178_140 : oFet 178 140 = some (.iconst 0, 1) := by decide +kernel
theorem s_178_140 {d : Nat} {l0 l1 l2 l3 l4 l5 : oV} {S : List oV} {σ : oSg} {Q : Option oV → (Nat → oC) → Prop} : oE d 178 140 [l0, l1, l2, l3, l4, l5] S σ Q = oE d 178 141 [l0, l1, l2, l3, l4, l5] (.inl (0) :: S) σ Q := pKst f_178_140 (by decide)
theorem f_178_141 : oFet 178 141 = some (.goto 14, 3) := by decide +kernel
theorem s_178_141 {d : Nat} {l0 l1 l2 l3 l4 l5 : oV} {S : List oV} {σ : oSg} {Q : Option oV → (Nat → oC) → Prop} : oE d 178 141 [l0, l1, l2, l3, l4, l5] S σ Q = oE d 178 155 [l0, l1, l2, l3, l4, l5] S σ Q := pGoto f_178_141 (by decide)
theorem f_178_144 : oFet 178 144 = some (.iload_n 2, 1) := by decide +kernel
theorem s_178_144 {d : Nat} {l0 l1 l3 l4 l5 : oV} {x : Int} {S : List oV} {σ : oSg} {Q : Option oV → (Nat → oC) → Prop} : oE d 178 144 [l0, l1, .inl x, l3, l4, l5] S σ Q = oE d 178 145 [l0, l1, .inl x, l3, l4, l5] (.inl x :: S) σ Q := pLdN (k := 2) f_178_144 rfl rfl rfl
theorem f_178_145 : oFet 178 145 = some (.iconst 2, 1) := by decide +kernel
theorem s_178_145 {d : Nat} {l0 l1 l2 l3 l4 l5 : oV} {S : List oV} {σ : oSg} {Q : Option oV → (Nat → oC) → Prop} : oE d 178 145 [l0, l1, l2, l3, l4, l5] S σ Q = oE d 178 146 [l0, l1, l2, l3, l4, l5] (.inl (2) :: S) σ Q := pKst f_178_145 (by decide)
theorem f_178_146 : oFet 178 146 = some (.irem, 1) := by decide +kernel
theorem s_178_146 {d : Nat} {l0 l1 l2 l3 l4 l5 : oV} {x y : Int} {S : List oV} {σ : oSg} {Q : Option oV → (Nat → oC) → Prop} (hy : y ≠ 0) : oE d 178 146 [l0, l1, l2, l3, l4, l5] (.inl y :: .inl x :: S) σ Q = oE d 178 147 [l0, l1, l2, l3, l4, l5] (.inl (oRem x y) :: S) σ Q := pRem f_178_146 hy
theorem f_178_147 : oFet 178 147 = some (.ifCond .ne 7, 3) := by decide +kernel
theorem s_178_147 {d : Nat} {l0 l1 l2 l3 l4 l5 : oV} {x : Int} {S : List oV} {σ : oSg} {Q : Option oV → (Nat → oC) → Prop} : oE d 178 147 [l0, l1, l2, l3, l4, l5] (.inl x :: S) σ Q = if ¬ x = 0 then oE d 178 154 [l0, l1, l2, l3, l4, l5] S σ Q else oE d 178 150 [l0, l1, l2, l3, l4, l5] S σ Q := oIfNe f_178_147 (by decide)
theorem f_178_150 : oFet 178 150 = some (.iconst 1, 1) := by decide +kernel
theorem s_178_150 {d : Nat} {l0 l1 l2 l3 l4 l5 : oV} {S : List oV} {σ : oSg} {Q : Option oV → (Nat → oC) → Prop} : oE d 178 150 [l0, l1, l2, l3, l4, l5] S σ Q = oE d 178 151 [l0, l1, l2, l3, l4, l5] (.inl (1) :: S) σ Q := pKst f_178_150 (by decide)
theorem f_178_151 : oFet 178 151 = some (.goto 4, 3) := by decide +kernel
theorem s_178_151 {d : Nat} {l0 l1 l2 l3 l4 l5 : oV} {S : List oV} {σ : oSg} {Q : Option oV → (Nat → oC) → Prop} : oE d 178 151 [l0, l1, l2, l3, l4, l5] S σ Q = oE d 178 155 [l0, l1, l2, l3, l4, l5] S σ Q := pGoto f_178_151 (by decide)
theorem f_178_154 : oFet 178 154 = some (.iconst 0, 1) := by decide +kernel
theorem s_178_154 {d : Nat} {l0 l1 l2 l3 l4 l5 : oV} {S : List oV} {σ : oSg} {Q : Option oV → (Nat → oC) → Prop} : oE d 178 154 [l0, l1, l2, l3, l4, l5] S σ Q = oE d 178 155 [l0, l1, l2, l3, l4, l5] (.inl (0) :: S) σ Q := pKst f_178_154 (by decide)
theorem f_178_155 : oFet 178 155 = some (.istore 5, 2) := by decide +kernel
theorem s_178_155 {d : Nat} {l0 l1 l2 l3 l4 l5 : oV} {x : Int} {S : List oV} {σ : oSg} {Q : Option oV → (Nat → oC) → Prop} (c5 : oCat l5 = 1) (c4 : oCat l4 = 1)  : oE d 178 155 [l0, l1, l2, l3, l4, l5] (.inl x :: S) σ Q = oE d 178 157 [l0, l1, l2, l3, l4, .inl x] S σ Q := pSt (i := 5) f_178_155 rfl rfl (show (5 : Nat) < 6 by decide) (oC1n c4) (oC1n c5) rfl
theorem f_178_157 : oFet 178 157 = some (.iload 5, 2) := by decide +kernel
theorem s_178_157 {d : Nat} {l0 l1 l2 l3 l4 : oV} {x : Int} {S : List oV} {σ : oSg} {Q : Option oV → (Nat → oC) → Prop} : oE d 178 157 [l0, l1, l2, l3, l4, .inl x] S σ Q = oE d 178 159 [l0, l1, l2, l3, l4, .inl x] (.inl x :: S) σ Q := pLd (i := 5) f_178_157 rfl rfl rfl
theorem f_178_159 : oFet 178 159 = some (.ifCond .eq 27, 3) := by decide +kernel
theorem s_178_159 {d : Nat} {l0 l1 l2 l3 l4 l5 : oV} {x : Int} {S : List oV} {σ : oSg} {Q : Option oV → (Nat → oC) → Prop} : oE d 178 159 [l0, l1, l2, l3, l4, l5] (.inl x :: S) σ Q = if x = 0 then oE d 178 186 [l0, l1, l2, l3, l4, l5] S σ Q else oE d 178 162 [l0, l1, l2, l3, l4, l5] S σ Q := oIfEq f_178_159 (by decide)
theorem f_178_162 : oFet 178 162 = some (.aload_n 0, 1) := by decide +kernel
theorem s_178_162 {d : Nat} {l1 l2 l3 l4 l5 : oV} {a : Nat} {S : List oV} {σ : oSg} {Q : Option oV → (Nat → oC) → Prop} : oE d 178 162 [.inr (.inr (.inl a)), l1, l2, l3, l4, l5] S σ Q = oE d 178 163 [.inr (.inr (.inl a)), l1, l2, l3, l4, l5] (.inr (.inr (.inl a)) :: S) σ Q := pLdN (k := 0) f_178_162 rfl rfl rfl
theorem f_178_163 : oFet 178 163 = some (.aload_n 0, 1) := by decide +kernel
theorem s_178_163 {d : Nat} {l1 l2 l3 l4 l5 : oV} {a : Nat} {S : List oV} {σ : oSg} {Q : Option oV → (Nat → oC) → Prop} : oE d 178 163 [.inr (.inr (.inl a)), l1, l2, l3, l4, l5] S σ Q = oE d 178 164 [.inr (.inr (.inl a)), l1, l2, l3, l4, l5] (.inr (.inr (.inl a)) :: S) σ Q := pLdN (k := 0) f_178_163 rfl rfl rfl
theorem f_178_164 : oFet 178 164 = some (.getfield 27, 3) := by decide +kernel
theorem s_178_164 {d : Nat} {l0 l1 l2 l3 l4 l5 : oV} {a : Nat} {S : List oV} {σ : oSg} {Q : Option oV → (Nat → oC) → Prop} (hk : oKd a = some 11) : oE d 178 164 [l0, l1, l2, l3, l4, l5] (.inr (.inr (.inl a)) :: S) σ Q = oE d 178 167 [l0, l1, l2, l3, l4, l5] (.inr (.inr (.inl (oRf a 8))) :: S) σ Q := pGfR f_178_164 ow_178 fl_11_27 rfl (by decide) hk
theorem f_178_167 : oFet 178 167 = some (.iload_n 1, 1) := by decide +kernel
theorem s_178_167 {d : Nat} {l0 l2 l3 l4 l5 : oV} {x : Int} {S : List oV} {σ : oSg} {Q : Option oV → (Nat → oC) → Prop} : oE d 178 167 [l0, .inl x, l2, l3, l4, l5] S σ Q = oE d 178 168 [l0, .inl x, l2, l3, l4, l5] (.inl x :: S) σ Q := pLdN (k := 1) f_178_167 rfl rfl rfl
theorem f_178_168 : oFet 178 168 = some (.iconst 1, 1) := by decide +kernel
theorem s_178_168 {d : Nat} {l0 l1 l2 l3 l4 l5 : oV} {S : List oV} {σ : oSg} {Q : Option oV → (Nat → oC) → Prop} : oE d 178 168 [l0, l1, l2, l3, l4, l5] S σ Q = oE d 178 169 [l0, l1, l2, l3, l4, l5] (.inl (1) :: S) σ Q := pKst f_178_168 (by decide)
theorem f_178_169 : oFet 178 169 = some (.isub, 1) := by decide +kernel
theorem s_178_169 {d : Nat} {l0 l1 l2 l3 l4 l5 : oV} {x y : Int} {S : List oV} {σ : oSg} {Q : Option oV → (Nat → oC) → Prop} : oE d 178 169 [l0, l1, l2, l3, l4, l5] (.inl y :: .inl x :: S) σ Q = oE d 178 170 [l0, l1, l2, l3, l4, l5] (.inl (oSub x y) :: S) σ Q := oS3 f_178_169 rfl rfl rfl
theorem f_178_170 : oFet 178 170 = some (.iaload, 1) := by decide +kernel
theorem s_178_170 {d : Nat} {l0 l1 l2 l3 l4 l5 : oV} {a : Nat} {i : Int} {S : List oV} {σ : oSg} {Q : Option oV → (Nat → oC) → Prop} (hk : oAk a = some 0) (h0 : 0 ≤ i) (h1 : i < (oLn a : Int)) : oE d 178 170 [l0, l1, l2, l3, l4, l5] (.inl i :: .inr (.inr (.inl a)) :: S) σ Q = oE d 178 171 [l0, l1, l2, l3, l4, l5] (.inl (σ.2 a i.toNat) :: S) σ Q := oIal f_178_170 hk h0 h1
theorem f_178_171 : oFet 178 171 = some (.invokevirtual 75, 3) := by decide +kernel
theorem c_178_171 {d : Nat} {l0 l1 l2 l3 l4 l5 : oV} {x0 : oV} {a : Nat} {v : Option oV} {τ : oSg} {S : List oV} {σ : oSg} {Q : Option oV → (Nat → oC) → Prop} (hm : oMi d 149 [.inr (.inr (.inl a)), x0] σ v τ) (hk : oKd a = some 11) (hs : oSmall S = true) : oE d 178 171 [l0, l1, l2, l3, l4, l5] (x0 :: .inr (.inr (.inl a)) :: S) σ Q = oE d 178 174 [l0, l1, l2, l3, l4, l5] (v.toList ++ S) τ Q := pCallV f_178_171 ow_178 lk_11_75 mt_149 rfl rfl rfl hk hs hm
theorem f_178_174 : oFet 178 174 = some (.iload_n 3, 1) := by decide +kernel
theorem s_178_174 {d : Nat} {l0 l1 l2 l4 l5 : oV} {x : Int} {S : List oV} {σ : oSg} {Q : Option oV → (Nat → oC) → Prop} : oE d 178 174 [l0, l1, l2, .inl x, l4, l5] S σ Q = oE d 178 175 [l0, l1, l2, .inl x, l4, l5] (.inl x :: S) σ Q := pLdN (k := 3) f_178_174 rfl rfl rfl
theorem f_178_175 : oFet 178 175 = some (.if_icmp .ne 7, 3) := by decide +kernel
theorem s_178_175 {d : Nat} {l0 l1 l2 l3 l4 l5 : oV} {x y : Int} {S : List oV} {σ : oSg} {Q : Option oV → (Nat → oC) → Prop} : oE d 178 175 [l0, l1, l2, l3, l4, l5] (.inl y :: .inl x :: S) σ Q = if ¬ x = y then oE d 178 182 [l0, l1, l2, l3, l4, l5] S σ Q else oE d 178 178 [l0, l1, l2, l3, l4, l5] S σ Q := oCmpNe f_178_175 (by decide)
theorem f_178_178 : oFet 178 178 = some (.iconst 1, 1) := by decide +kernel
theorem s_178_178 {d : Nat} {l0 l1 l2 l3 l4 l5 : oV} {S : List oV} {σ : oSg} {Q : Option oV → (Nat → oC) → Prop} : oE d 178 178 [l0, l1, l2, l3, l4, l5] S σ Q = oE d 178 179 [l0, l1, l2, l3, l4, l5] (.inl (1) :: S) σ Q := pKst f_178_178 (by decide)
theorem f_178_179 : oFet 178 179 = some (.goto 44, 3) := by decide +kernel
theorem s_178_179 {d : Nat} {l0 l1 l2 l3 l4 l5 : oV} {S : List oV} {σ : oSg} {Q : Option oV → (Nat → oC) → Prop} : oE d 178 179 [l0, l1, l2, l3, l4, l5] S σ Q = oE d 178 223 [l0, l1, l2, l3, l4, l5] S σ Q := pGoto f_178_179 (by decide)
theorem f_178_182 : oFet 178 182 = some (.iconst 0, 1) := by decide +kernel
theorem s_178_182 {d : Nat} {l0 l1 l2 l3 l4 l5 : oV} {S : List oV} {σ : oSg} {Q : Option oV → (Nat → oC) → Prop} : oE d 178 182 [l0, l1, l2, l3, l4, l5] S σ Q = oE d 178 183 [l0, l1, l2, l3, l4, l5] (.inl (0) :: S) σ Q := pKst f_178_182 (by decide)
theorem f_178_183 : oFet 178 183 = some (.goto 40, 3) := by decide +kernel
theorem s_178_183 {d : Nat} {l0 l1 l2 l3 l4 l5 : oV} {S : List oV} {σ : oSg} {Q : Option oV → (Nat → oC) → Prop} : oE d 178 183 [l0, l1, l2, l3, l4, l5] S σ Q = oE d 178 223 [l0, l1, l2, l3, l4, l5] S σ Q := pGoto f_178_183 (by decide)
theorem f_178_186 : oFet 178 186 = some (.aload_n 0, 1) := by decide +kernel
theorem s_178_186 {d : Nat} {l1 l2 l3 l4 l5 : oV} {a : Nat} {S : List oV} {σ : oSg} {Q : Option oV → (Nat → oC) → Prop} : oE d 178 186 [.inr (.inr (.inl a)), l1, l2, l3, l4, l5] S σ Q = oE d 178 187 [.inr (.inr (.inl a)), l1, l2, l3, l4, l5] (.inr (.inr (.inl a)) :: S) σ Q := pLdN (k := 0) f_178_186 rfl rfl rfl
theorem f_178_187 : oFet 178 187 = some (.aload_n 0, 1) := by decide +kernel
theorem s_178_187 {d : Nat} {l1 l2 l3 l4 l5 : oV} {a : Nat} {S : List oV} {σ : oSg} {Q : Option oV → (Nat → oC) → Prop} : oE d 178 187 [.inr (.inr (.inl a)), l1, l2, l3, l4, l5] S σ Q = oE d 178 188 [.inr (.inr (.inl a)), l1, l2, l3, l4, l5] (.inr (.inr (.inl a)) :: S) σ Q := pLdN (k := 0) f_178_187 rfl rfl rfl
theorem f_178_188 : oFet 178 188 = some (.getfield 27, 3) := by decide +kernel
theorem s_178_188 {d : Nat} {l0 l1 l2 l3 l4 l5 : oV} {a : Nat} {S : List oV} {σ : oSg} {Q : Option oV → (Nat → oC) → Prop} (hk : oKd a = some 11) : oE d 178 188 [l0, l1, l2, l3, l4, l5] (.inr (.inr (.inl a)) :: S) σ Q = oE d 178 191 [l0, l1, l2, l3, l4, l5] (.inr (.inr (.inl (oRf a 8))) :: S) σ Q := pGfR f_178_188 ow_178 fl_11_27 rfl (by decide) hk
theorem f_178_191 : oFet 178 191 = some (.iload_n 1, 1) := by decide +kernel
theorem s_178_191 {d : Nat} {l0 l2 l3 l4 l5 : oV} {x : Int} {S : List oV} {σ : oSg} {Q : Option oV → (Nat → oC) → Prop} : oE d 178 191 [l0, .inl x, l2, l3, l4, l5] S σ Q = oE d 178 192 [l0, .inl x, l2, l3, l4, l5] (.inl x :: S) σ Q := pLdN (k := 1) f_178_191 rfl rfl rfl
theorem f_178_192 : oFet 178 192 = some (.iconst 1, 1) := by decide +kernel
theorem s_178_192 {d : Nat} {l0 l1 l2 l3 l4 l5 : oV} {S : List oV} {σ : oSg} {Q : Option oV → (Nat → oC) → Prop} : oE d 178 192 [l0, l1, l2, l3, l4, l5] S σ Q = oE d 178 193 [l0, l1, l2, l3, l4, l5] (.inl (1) :: S) σ Q := pKst f_178_192 (by decide)
theorem f_178_193 : oFet 178 193 = some (.isub, 1) := by decide +kernel
theorem s_178_193 {d : Nat} {l0 l1 l2 l3 l4 l5 : oV} {x y : Int} {S : List oV} {σ : oSg} {Q : Option oV → (Nat → oC) → Prop} : oE d 178 193 [l0, l1, l2, l3, l4, l5] (.inl y :: .inl x :: S) σ Q = oE d 178 194 [l0, l1, l2, l3, l4, l5] (.inl (oSub x y) :: S) σ Q := oS3 f_178_193 rfl rfl rfl
theorem f_178_194 : oFet 178 194 = some (.iaload, 1) := by decide +kernel
theorem s_178_194 {d : Nat} {l0 l1 l2 l3 l4 l5 : oV} {a : Nat} {i : Int} {S : List oV} {σ : oSg} {Q : Option oV → (Nat → oC) → Prop} (hk : oAk a = some 0) (h0 : 0 ≤ i) (h1 : i < (oLn a : Int)) : oE d 178 194 [l0, l1, l2, l3, l4, l5] (.inl i :: .inr (.inr (.inl a)) :: S) σ Q = oE d 178 195 [l0, l1, l2, l3, l4, l5] (.inl (σ.2 a i.toNat) :: S) σ Q := oIal f_178_194 hk h0 h1
theorem f_178_195 : oFet 178 195 = some (.iload_n 3, 1) := by decide +kernel
theorem s_178_195 {d : Nat} {l0 l1 l2 l4 l5 : oV} {x : Int} {S : List oV} {σ : oSg} {Q : Option oV → (Nat → oC) → Prop} : oE d 178 195 [l0, l1, l2, .inl x, l4, l5] S σ Q = oE d 178 196 [l0, l1, l2, .inl x, l4, l5] (.inl x :: S) σ Q := pLdN (k := 3) f_178_195 rfl rfl rfl
theorem f_178_196 : oFet 178 196 = some (.invokevirtual 91, 3) := by decide +kernel
theorem c_178_196 {d : Nat} {l0 l1 l2 l3 l4 l5 : oV} {x0 x1 : oV} {a : Nat} {v : Option oV} {τ : oSg} {S : List oV} {σ : oSg} {Q : Option oV → (Nat → oC) → Prop} (hm : oMi d 153 [.inr (.inr (.inl a)), x0, x1] σ v τ) (hk : oKd a = some 11) (hs : oSmall S = true) : oE d 178 196 [l0, l1, l2, l3, l4, l5] (x1 :: x0 :: .inr (.inr (.inl a)) :: S) σ Q = oE d 178 199 [l0, l1, l2, l3, l4, l5] (v.toList ++ S) τ Q := pCallV f_178_196 ow_178 lk_11_91 mt_153 rfl rfl rfl hk hs hm
theorem f_178_199 : oFet 178 199 = some (.ifCond .eq 23, 3) := by decide +kernel
theorem s_178_199 {d : Nat} {l0 l1 l2 l3 l4 l5 : oV} {x : Int} {S : List oV} {σ : oSg} {Q : Option oV → (Nat → oC) → Prop} : oE d 178 199 [l0, l1, l2, l3, l4, l5] (.inl x :: S) σ Q = if x = 0 then oE d 178 222 [l0, l1, l2, l3, l4, l5] S σ Q else oE d 178 202 [l0, l1, l2, l3, l4, l5] S σ Q := oIfEq f_178_199 (by decide)
theorem f_178_202 : oFet 178 202 = some (.aload_n 0, 1) := by decide +kernel
theorem s_178_202 {d : Nat} {l1 l2 l3 l4 l5 : oV} {a : Nat} {S : List oV} {σ : oSg} {Q : Option oV → (Nat → oC) → Prop} : oE d 178 202 [.inr (.inr (.inl a)), l1, l2, l3, l4, l5] S σ Q = oE d 178 203 [.inr (.inr (.inl a)), l1, l2, l3, l4, l5] (.inr (.inr (.inl a)) :: S) σ Q := pLdN (k := 0) f_178_202 rfl rfl rfl
theorem f_178_203 : oFet 178 203 = some (.aload_n 0, 1) := by decide +kernel
theorem s_178_203 {d : Nat} {l1 l2 l3 l4 l5 : oV} {a : Nat} {S : List oV} {σ : oSg} {Q : Option oV → (Nat → oC) → Prop} : oE d 178 203 [.inr (.inr (.inl a)), l1, l2, l3, l4, l5] S σ Q = oE d 178 204 [.inr (.inr (.inl a)), l1, l2, l3, l4, l5] (.inr (.inr (.inl a)) :: S) σ Q := pLdN (k := 0) f_178_203 rfl rfl rfl
theorem f_178_204 : oFet 178 204 = some (.getfield 27, 3) := by decide +kernel
theorem s_178_204 {d : Nat} {l0 l1 l2 l3 l4 l5 : oV} {a : Nat} {S : List oV} {σ : oSg} {Q : Option oV → (Nat → oC) → Prop} (hk : oKd a = some 11) : oE d 178 204 [l0, l1, l2, l3, l4, l5] (.inr (.inr (.inl a)) :: S) σ Q = oE d 178 207 [l0, l1, l2, l3, l4, l5] (.inr (.inr (.inl (oRf a 8))) :: S) σ Q := pGfR f_178_204 ow_178 fl_11_27 rfl (by decide) hk
theorem f_178_207 : oFet 178 207 = some (.iload_n 1, 1) := by decide +kernel
theorem s_178_207 {d : Nat} {l0 l2 l3 l4 l5 : oV} {x : Int} {S : List oV} {σ : oSg} {Q : Option oV → (Nat → oC) → Prop} : oE d 178 207 [l0, .inl x, l2, l3, l4, l5] S σ Q = oE d 178 208 [l0, .inl x, l2, l3, l4, l5] (.inl x :: S) σ Q := pLdN (k := 1) f_178_207 rfl rfl rfl
theorem f_178_208 : oFet 178 208 = some (.iconst 1, 1) := by decide +kernel
theorem s_178_208 {d : Nat} {l0 l1 l2 l3 l4 l5 : oV} {S : List oV} {σ : oSg} {Q : Option oV → (Nat → oC) → Prop} : oE d 178 208 [l0, l1, l2, l3, l4, l5] S σ Q = oE d 178 209 [l0, l1, l2, l3, l4, l5] (.inl (1) :: S) σ Q := pKst f_178_208 (by decide)
theorem f_178_209 : oFet 178 209 = some (.isub, 1) := by decide +kernel
theorem s_178_209 {d : Nat} {l0 l1 l2 l3 l4 l5 : oV} {x y : Int} {S : List oV} {σ : oSg} {Q : Option oV → (Nat → oC) → Prop} : oE d 178 209 [l0, l1, l2, l3, l4, l5] (.inl y :: .inl x :: S) σ Q = oE d 178 210 [l0, l1, l2, l3, l4, l5] (.inl (oSub x y) :: S) σ Q := oS3 f_178_209 rfl rfl rfl
theorem f_178_210 : oFet 178 210 = some (.iaload, 1) := by decide +kernel
theorem s_178_210 {d : Nat} {l0 l1 l2 l3 l4 l5 : oV} {a : Nat} {i : Int} {S : List oV} {σ : oSg} {Q : Option oV → (Nat → oC) → Prop} (hk : oAk a = some 0) (h0 : 0 ≤ i) (h1 : i < (oLn a : Int)) : oE d 178 210 [l0, l1, l2, l3, l4, l5] (.inl i :: .inr (.inr (.inl a)) :: S) σ Q = oE d 178 211 [l0, l1, l2, l3, l4, l5] (.inl (σ.2 a i.toNat) :: S) σ Q := oIal f_178_210 hk h0 h1
theorem f_178_211 : oFet 178 211 = some (.invokevirtual 75, 3) := by decide +kernel
theorem c_178_211 {d : Nat} {l0 l1 l2 l3 l4 l5 : oV} {x0 : oV} {a : Nat} {v : Option oV} {τ : oSg} {S : List oV} {σ : oSg} {Q : Option oV → (Nat → oC) → Prop} (hm : oMi d 149 [.inr (.inr (.inl a)), x0] σ v τ) (hk : oKd a = some 11) (hs : oSmall S = true) : oE d 178 211 [l0, l1, l2, l3, l4, l5] (x0 :: .inr (.inr (.inl a)) :: S) σ Q = oE d 178 214 [l0, l1, l2, l3, l4, l5] (v.toList ++ S) τ Q := pCallV f_178_211 ow_178 lk_11_75 mt_149 rfl rfl rfl hk hs hm
theorem f_178_214 : oFet 178 214 = some (.iload_n 3, 1) := by decide +kernel
theorem s_178_214 {d : Nat} {l0 l1 l2 l4 l5 : oV} {x : Int} {S : List oV} {σ : oSg} {Q : Option oV → (Nat → oC) → Prop} : oE d 178 214 [l0, l1, l2, .inl x, l4, l5] S σ Q = oE d 178 215 [l0, l1, l2, .inl x, l4, l5] (.inl x :: S) σ Q := pLdN (k := 3) f_178_214 rfl rfl rfl
theorem f_178_215 : oFet 178 215 = some (.if_icmp .eq 7, 3) := by decide +kernel
theorem s_178_215 {d : Nat} {l0 l1 l2 l3 l4 l5 : oV} {x y : Int} {S : List oV} {σ : oSg} {Q : Option oV → (Nat → oC) → Prop} : oE d 178 215 [l0, l1, l2, l3, l4, l5] (.inl y :: .inl x :: S) σ Q = if x = y then oE d 178 222 [l0, l1, l2, l3, l4, l5] S σ Q else oE d 178 218 [l0, l1, l2, l3, l4, l5] S σ Q := oCmpEq f_178_215 (by decide)
theorem f_178_218 : oFet 178 218 = some (.iconst 1, 1) := by decide +kernel
theorem s_178_218 {d : Nat} {l0 l1 l2 l3 l4 l5 : oV} {S : List oV} {σ : oSg} {Q : Option oV → (Nat → oC) → Prop} : oE d 178 218 [l0, l1, l2, l3, l4, l5] S σ Q = oE d 178 219 [l0, l1, l2, l3, l4, l5] (.inl (1) :: S) σ Q := pKst f_178_218 (by decide)
theorem f_178_219 : oFet 178 219 = some (.goto 4, 3) := by decide +kernel
theorem s_178_219 {d : Nat} {l0 l1 l2 l3 l4 l5 : oV} {S : List oV} {σ : oSg} {Q : Option oV → (Nat → oC) → Prop} : oE d 178 219 [l0, l1, l2, l3, l4, l5] S σ Q = oE d 178 223 [l0, l1, l2, l3, l4, l5] S σ Q := pGoto f_178_219 (by decide)
theorem f_178_222 : oFet 178 222 = some (.iconst 0, 1) := by decide +kernel
theorem s_178_222 {d : Nat} {l0 l1 l2 l3 l4 l5 : oV} {S : List oV} {σ : oSg} {Q : Option oV → (Nat → oC) → Prop} : oE d 178 222 [l0, l1, l2, l3, l4, l5] S σ Q = oE d 178 223 [l0, l1, l2, l3, l4, l5] (.inl (0) :: S) σ Q := pKst f_178_222 (by decide)
theorem f_178_223 : oFet 178 223 = some (.istore 4, 2) := by decide +kernel
theorem s_178_223 {d : Nat} {l0 l1 l2 l3 l4 l5 : oV} {x : Int} {S : List oV} {σ : oSg} {Q : Option oV → (Nat → oC) → Prop} (c4 : oCat l4 = 1) (c3 : oCat l3 = 1)  : oE d 178 223 [l0, l1, l2, l3, l4, l5] (.inl x :: S) σ Q = oE d 178 225 [l0, l1, l2, l3, .inl x, l5] S σ Q := pSt (i := 4) f_178_223 rfl rfl (show (4 : Nat) < 6 by decide) (oC1n c3) (oC1n c4) rfl
theorem f_178_225 : oFet 178 225 = some (.iload 4, 2) := by decide +kernel
theorem s_178_225 {d : Nat} {l0 l1 l2 l3 l5 : oV} {x : Int} {S : List oV} {σ : oSg} {Q : Option oV → (Nat → oC) → Prop} : oE d 178 225 [l0, l1, l2, l3, .inl x, l5] S σ Q = oE d 178 227 [l0, l1, l2, l3, .inl x, l5] (.inl x :: S) σ Q := pLd (i := 4) f_178_225 rfl rfl rfl
theorem f_178_227 : oFet 178 227 = some (.ifCond .ne 6, 3) := by decide +kernel
theorem s_178_227 {d : Nat} {l0 l1 l2 l3 l4 l5 : oV} {x : Int} {S : List oV} {σ : oSg} {Q : Option oV → (Nat → oC) → Prop} : oE d 178 227 [l0, l1, l2, l3, l4, l5] (.inl x :: S) σ Q = if ¬ x = 0 then oE d 178 233 [l0, l1, l2, l3, l4, l5] S σ Q else oE d 178 230 [l0, l1, l2, l3, l4, l5] S σ Q := oIfNe f_178_227 (by decide)
theorem f_178_230 : oFet 178 230 = some (.goto 22, 3) := by decide +kernel
theorem s_178_230 {d : Nat} {l0 l1 l2 l3 l4 l5 : oV} {S : List oV} {σ : oSg} {Q : Option oV → (Nat → oC) → Prop} : oE d 178 230 [l0, l1, l2, l3, l4, l5] S σ Q = oE d 178 252 [l0, l1, l2, l3, l4, l5] S σ Q := pGoto f_178_230 (by decide)
theorem f_178_233 : oFet 178 233 = some (.aload_n 0, 1) := by decide +kernel
theorem s_178_233 {d : Nat} {l1 l2 l3 l4 l5 : oV} {a : Nat} {S : List oV} {σ : oSg} {Q : Option oV → (Nat → oC) → Prop} : oE d 178 233 [.inr (.inr (.inl a)), l1, l2, l3, l4, l5] S σ Q = oE d 178 234 [.inr (.inr (.inl a)), l1, l2, l3, l4, l5] (.inr (.inr (.inl a)) :: S) σ Q := pLdN (k := 0) f_178_233 rfl rfl rfl
theorem f_178_234 : oFet 178 234 = some (.getfield 27, 3) := by decide +kernel
theorem s_178_234 {d : Nat} {l0 l1 l2 l3 l4 l5 : oV} {a : Nat} {S : List oV} {σ : oSg} {Q : Option oV → (Nat → oC) → Prop} (hk : oKd a = some 11) : oE d 178 234 [l0, l1, l2, l3, l4, l5] (.inr (.inr (.inl a)) :: S) σ Q = oE d 178 237 [l0, l1, l2, l3, l4, l5] (.inr (.inr (.inl (oRf a 8))) :: S) σ Q := pGfR f_178_234 ow_178 fl_11_27 rfl (by decide) hk
theorem f_178_237 : oFet 178 237 = some (.iload_n 1, 1) := by decide +kernel
theorem s_178_237 {d : Nat} {l0 l2 l3 l4 l5 : oV} {x : Int} {S : List oV} {σ : oSg} {Q : Option oV → (Nat → oC) → Prop} : oE d 178 237 [l0, .inl x, l2, l3, l4, l5] S σ Q = oE d 178 238 [l0, .inl x, l2, l3, l4, l5] (.inl x :: S) σ Q := pLdN (k := 1) f_178_237 rfl rfl rfl
theorem f_178_238 : oFet 178 238 = some (.iload_n 3, 1) := by decide +kernel
theorem s_178_238 {d : Nat} {l0 l1 l2 l4 l5 : oV} {x : Int} {S : List oV} {σ : oSg} {Q : Option oV → (Nat → oC) → Prop} : oE d 178 238 [l0, l1, l2, .inl x, l4, l5] S σ Q = oE d 178 239 [l0, l1, l2, .inl x, l4, l5] (.inl x :: S) σ Q := pLdN (k := 3) f_178_238 rfl rfl rfl
theorem f_178_239 : oFet 178 239 = some (.iastore, 1) := by decide +kernel
theorem s_178_239 {d : Nat} {l0 l1 l2 l3 l4 l5 : oV} {a : Nat} {i v : Int} {S : List oV} {σ : oSg} {Q : Option oV → (Nat → oC) → Prop} (hk : oAk a = some 0) (h0 : 0 ≤ i) (h1 : i < (oLn a : Int)) : oE d 178 239 [l0, l1, l2, l3, l4, l5] (.inl v :: .inl i :: .inr (.inr (.inl a)) :: S) σ Q = oE d 178 240 [l0, l1, l2, l3, l4, l5] S (oSA σ a i.toNat v) Q := oIas f_178_239 hk h0 h1
theorem f_178_240 : oFet 178 240 = some (.aload_n 0, 1) := by decide +kernel
theorem s_178_240 {d : Nat} {l1 l2 l3 l4 l5 : oV} {a : Nat} {S : List oV} {σ : oSg} {Q : Option oV → (Nat → oC) → Prop} : oE d 178 240 [.inr (.inr (.inl a)), l1, l2, l3, l4, l5] S σ Q = oE d 178 241 [.inr (.inr (.inl a)), l1, l2, l3, l4, l5] (.inr (.inr (.inl a)) :: S) σ Q := pLdN (k := 0) f_178_240 rfl rfl rfl
theorem f_178_241 : oFet 178 241 = some (.iload_n 1, 1) := by decide +kernel
theorem s_178_241 {d : Nat} {l0 l2 l3 l4 l5 : oV} {x : Int} {S : List oV} {σ : oSg} {Q : Option oV → (Nat → oC) → Prop} : oE d 178 241 [l0, .inl x, l2, l3, l4, l5] S σ Q = oE d 178 242 [l0, .inl x, l2, l3, l4, l5] (.inl x :: S) σ Q := pLdN (k := 1) f_178_241 rfl rfl rfl
theorem f_178_242 : oFet 178 242 = some (.iconst 1, 1) := by decide +kernel
theorem s_178_242 {d : Nat} {l0 l1 l2 l3 l4 l5 : oV} {S : List oV} {σ : oSg} {Q : Option oV → (Nat → oC) → Prop} : oE d 178 242 [l0, l1, l2, l3, l4, l5] S σ Q = oE d 178 243 [l0, l1, l2, l3, l4, l5] (.inl (1) :: S) σ Q := pKst f_178_242 (by decide)
theorem f_178_243 : oFet 178 243 = some (.iadd, 1) := by decide +kernel
theorem s_178_243 {d : Nat} {l0 l1 l2 l3 l4 l5 : oV} {x y : Int} {S : List oV} {σ : oSg} {Q : Option oV → (Nat → oC) → Prop} : oE d 178 243 [l0, l1, l2, l3, l4, l5] (.inl y :: .inl x :: S) σ Q = oE d 178 244 [l0, l1, l2, l3, l4, l5] (.inl (oAdd x y) :: S) σ Q := oS3 f_178_243 rfl rfl rfl
theorem f_178_244 : oFet 178 244 = some (.invokevirtual 165, 3) := by decide +kernel
theorem c_178_244 {d : Nat} {l0 l1 l2 l3 l4 l5 : oV} {x0 : oV} {a : Nat} {v : Option oV} {τ : oSg} {S : List oV} {σ : oSg} {Q : Option oV → (Nat → oC) → Prop} (hm : oMi d 178 [.inr (.inr (.inl a)), x0] σ v τ) (hk : oKd a = some 11) (hs : oSmall S = true) : oE d 178 244 [l0, l1, l2, l3, l4, l5] (x0 :: .inr (.inr (.inl a)) :: S) σ Q = oE d 178 247 [l0, l1, l2, l3, l4, l5] (v.toList ++ S) τ Q := pCallV f_178_244 ow_178 lk_11_165 mt_178 rfl rfl rfl hk hs hm
theorem f_178_247 : oFet 178 247 = some (.ifCond .eq 5, 3) := by decide +kernel
theorem s_178_247 {d : Nat} {l0 l1 l2 l3 l4 l5 : oV} {x : Int} {S : List oV} {σ : oSg} {Q : Option oV → (Nat → oC) → Prop} : oE d 178 247 [l0, l1, l2, l3, l4, l5] (.inl x :: S) σ Q = if x = 0 then oE d 178 252 [l0, l1, l2, l3, l4, l5] S σ Q else oE d 178 250 [l0, l1, l2, l3, l4, l5] S σ Q := oIfEq f_178_247 (by decide)
theorem f_178_250 : oFet 178 250 = some (.iconst 1, 1) := by decide +kernel
theorem s_178_250 {d : Nat} {l0 l1 l2 l3 l4 l5 : oV} {S : List oV} {σ : oSg} {Q : Option oV → (Nat → oC) → Prop} : oE d 178 250 [l0, l1, l2, l3, l4, l5] S σ Q = oE d 178 251 [l0, l1, l2, l3, l4, l5] (.inl (1) :: S) σ Q := pKst f_178_250 (by decide)
theorem f_178_251 : oFet 178 251 = some (.ireturn, 1) := by decide +kernel
theorem s_178_251 {d : Nat} {l0 l1 l2 l3 l4 l5 : oV} {x : Int} {σ : oSg} {Q : Option oV → (Nat → oC) → Prop} (hx : x = 0 ∨ x = 1) : oE d 178 251 [l0, l1, l2, l3, l4, l5] [.inl x] σ Q = Q (some (.inl x)) (oBld σ) := oZret f_178_251 rt_178 hx
theorem f_178_252 : oFet 178 252 = some (.iinc 3 1, 3) := by decide +kernel
theorem s_178_252 {d : Nat} {l0 l1 l2 l4 l5 : oV} {x : Int} {S : List oV} {σ : oSg} {Q : Option oV → (Nat → oC) → Prop} (c2 : oCat l2 = 1)  : oE d 178 252 [l0, l1, l2, .inl x, l4, l5] S σ Q = oE d 178 255 [l0, l1, l2, .inl (oAdd x (1)), l4, l5] S σ Q := pInc f_178_252 rfl (show (3 : Nat) < 6 by decide) (oC1n c2) (oC1n (v := .inl x) rfl) rfl
theorem f_178_255 : oFet 178 255 = some (.goto (-178), 3) := by decide +kernel
theorem s_178_255 {d : Nat} {l0 l1 l2 l3 l4 l5 : oV} {S : List oV} {σ : oSg} {Q : Option oV → (Nat → oC) → Prop} : oE d 178 255 [l0, l1, l2, l3, l4, l5] S σ Q = oE d 178 77 [l0, l1, l2, l3, l4, l5] S σ Q := pGoto f_178_255 (by decide)
theorem f_178_258 : oFet 178 258 = some (.iconst 0, 1) := by decide +kernel
theorem s_178_258 {d : Nat} {l0 l1 l2 l3 l4 l5 : oV} {S : List oV} {σ : oSg} {Q : Option oV → (Nat → oC) → Prop} : oE d 178 258 [l0, l1, l2, l3, l4, l5] S σ Q = oE d 178 259 [l0, l1, l2, l3, l4, l5] (.inl (0) :: S) σ Q := pKst f_178_258 (by decide)
theorem f_178_259 : oFet 178 259 = some (.ireturn, 1) := by decide +kernel
theorem s_178_259 {d : Nat} {l0 l1 l2 l3 l4 l5 : oV} {x : Int} {σ : oSg} {Q : Option oV → (Nat → oC) → Prop} (hx : x = 0 ∨ x = 1) : oE d 178 259 [l0, l1, l2, l3, l4, l5] [.inl x] σ Q = Q (some (.inl x)) (oBld σ) := oZret f_178_259 rt_178 hx
theorem ow_179 : (oMt 179).2.2.2.2.1 = 11 := by decide +kernel
theorem rt_179 : (oMt 179).2.2.2.1 = some .int := by decide +kernel
theorem nl_179 : (oMt 179).2.2.1 = 3 := by decide +kernel
theorem f_179_0 : oFet 179 0 = some (.iload_n 1, 1) := by decide +kernel
theorem s_179_0 {d : Nat} {l0 l2 : oV} {x : Int} {S : List oV} {σ : oSg} {Q : Option oV → (Nat → oC) → Prop} : oE d 179 0 [l0, .inl x, l2] S σ Q = oE d 179 1 [l0, .inl x, l2] (.inl x :: S) σ Q := pLdN (k := 1) f_179_0 rfl rfl rfl
theorem f_179_1 : oFet 179 1 = some (.iconst 0, 1) := by decide +kernel
theorem s_179_1 {d : Nat} {l0 l1 l2 : oV} {S : List oV} {σ : oSg} {Q : Option oV → (Nat → oC) → Prop} : oE d 179 1 [l0, l1, l2] S σ Q = oE d 179 2 [l0, l1, l2] (.inl (0) :: S) σ Q := pKst f_179_1 (by decide)
theorem f_179_2 : oFet 179 2 = some (.iconst 1, 1) := by decide +kernel
theorem s_179_2 {d : Nat} {l0 l1 l2 : oV} {S : List oV} {σ : oSg} {Q : Option oV → (Nat → oC) → Prop} : oE d 179 2 [l0, l1, l2] S σ Q = oE d 179 3 [l0, l1, l2] (.inl (1) :: S) σ Q := pKst f_179_2 (by decide)
theorem f_179_3 : oFet 179 3 = some (.invokestatic 57, 3) := by decide +kernel
theorem c_179_3 {d : Nat} {l0 l1 l2 : oV} {x0 x1 x2 : oV} {v : Option oV} {τ : oSg} {S : List oV} {σ : oSg} {Q : Option oV → (Nat → oC) → Prop} (hm : oMi d 146 [x0, x1, x2] σ v τ) (hs : oSmall S = true) : oE d 179 3 [l0, l1, l2] (x2 :: x1 :: x0 :: S) σ Q = oE d 179 6 [l0, l1, l2] (v.toList ++ S) τ Q := pCallS f_179_3 ow_179 lk_11_57 mt_146 rfl rfl rfl hs hm
theorem f_179_6 : oFet 179 6 = some (.ifCond .ne 6, 3) := by decide +kernel
theorem s_179_6 {d : Nat} {l0 l1 l2 : oV} {x : Int} {S : List oV} {σ : oSg} {Q : Option oV → (Nat → oC) → Prop} : oE d 179 6 [l0, l1, l2] (.inl x :: S) σ Q = if ¬ x = 0 then oE d 179 12 [l0, l1, l2] S σ Q else oE d 179 9 [l0, l1, l2] S σ Q := oIfNe f_179_6 (by decide)
theorem f_179_9 : oFet 179 9 = some (.bipush (-2), 2) := by decide +kernel
theorem s_179_9 {d : Nat} {l0 l1 l2 : oV} {S : List oV} {σ : oSg} {Q : Option oV → (Nat → oC) → Prop} : oE d 179 9 [l0, l1, l2] S σ Q = oE d 179 11 [l0, l1, l2] (.inl (-2) :: S) σ Q := pBip f_179_9 (by decide)
theorem f_179_11 : oFet 179 11 = some (.ireturn, 1) := by decide +kernel
theorem s_179_11 {d : Nat} {l0 l1 l2 : oV} {x : Int} {σ : oSg} {Q : Option oV → (Nat → oC) → Prop} : oE d 179 11 [l0, l1, l2] [.inl x] σ Q = Q (some (.inl x)) (oBld σ) := oIret f_179_11 rt_179
theorem f_179_12 : oFet 179 12 = some (.aload_n 0, 1) := by decide +kernel
theorem s_179_12 {d : Nat} {l1 l2 : oV} {a : Nat} {S : List oV} {σ : oSg} {Q : Option oV → (Nat → oC) → Prop} : oE d 179 12 [.inr (.inr (.inl a)), l1, l2] S σ Q = oE d 179 13 [.inr (.inr (.inl a)), l1, l2] (.inr (.inr (.inl a)) :: S) σ Q := pLdN (k := 0) f_179_12 rfl rfl rfl
theorem f_179_13 : oFet 179 13 = some (.iload_n 2, 1) := by decide +kernel
theorem s_179_13 {d : Nat} {l0 l1 : oV} {x : Int} {S : List oV} {σ : oSg} {Q : Option oV → (Nat → oC) → Prop} : oE d 179 13 [l0, l1, .inl x] S σ Q = oE d 179 14 [l0, l1, .inl x] (.inl x :: S) σ Q := pLdN (k := 2) f_179_13 rfl rfl rfl
theorem f_179_14 : oFet 179 14 = some (.invokevirtual 61, 3) := by decide +kernel
theorem c_179_14 {d : Nat} {l0 l1 l2 : oV} {x0 : oV} {a : Nat} {v : Option oV} {τ : oSg} {S : List oV} {σ : oSg} {Q : Option oV → (Nat → oC) → Prop} (hm : oMi d 145 [.inr (.inr (.inl a)), x0] σ v τ) (hk : oKd a = some 11) (hs : oSmall S = true) : oE d 179 14 [l0, l1, l2] (x0 :: .inr (.inr (.inl a)) :: S) σ Q = oE d 179 17 [l0, l1, l2] (v.toList ++ S) τ Q := pCallV f_179_14 ow_179 lk_11_61 mt_145 rfl rfl rfl hk hs hm
theorem f_179_17 : oFet 179 17 = some (.ifCond .ne 5, 3) := by decide +kernel
theorem s_179_17 {d : Nat} {l0 l1 l2 : oV} {x : Int} {S : List oV} {σ : oSg} {Q : Option oV → (Nat → oC) → Prop} : oE d 179 17 [l0, l1, l2] (.inl x :: S) σ Q = if ¬ x = 0 then oE d 179 22 [l0, l1, l2] S σ Q else oE d 179 20 [l0, l1, l2] S σ Q := oIfNe f_179_17 (by decide)
theorem f_179_20 : oFet 179 20 = some (.iconst (-1), 1) := by decide +kernel
theorem s_179_20 {d : Nat} {l0 l1 l2 : oV} {S : List oV} {σ : oSg} {Q : Option oV → (Nat → oC) → Prop} : oE d 179 20 [l0, l1, l2] S σ Q = oE d 179 21 [l0, l1, l2] (.inl (-1) :: S) σ Q := pKst f_179_20 (by decide)
theorem f_179_21 : oFet 179 21 = some (.ireturn, 1) := by decide +kernel
theorem s_179_21 {d : Nat} {l0 l1 l2 : oV} {x : Int} {σ : oSg} {Q : Option oV → (Nat → oC) → Prop} : oE d 179 21 [l0, l1, l2] [.inl x] σ Q = Q (some (.inl x)) (oBld σ) := oIret f_179_21 rt_179
theorem f_179_22 : oFet 179 22 = some (.aload_n 0, 1) := by decide +kernel
theorem s_179_22 {d : Nat} {l1 l2 : oV} {a : Nat} {S : List oV} {σ : oSg} {Q : Option oV → (Nat → oC) → Prop} : oE d 179 22 [.inr (.inr (.inl a)), l1, l2] S σ Q = oE d 179 23 [.inr (.inr (.inl a)), l1, l2] (.inr (.inr (.inl a)) :: S) σ Q := pLdN (k := 0) f_179_22 rfl rfl rfl
theorem f_179_23 : oFet 179 23 = some (.iload_n 1, 1) := by decide +kernel
theorem s_179_23 {d : Nat} {l0 l2 : oV} {x : Int} {S : List oV} {σ : oSg} {Q : Option oV → (Nat → oC) → Prop} : oE d 179 23 [l0, .inl x, l2] S σ Q = oE d 179 24 [l0, .inl x, l2] (.inl x :: S) σ Q := pLdN (k := 1) f_179_23 rfl rfl rfl
theorem f_179_24 : oFet 179 24 = some (.iconst (-1), 1) := by decide +kernel
theorem s_179_24 {d : Nat} {l0 l1 l2 : oV} {S : List oV} {σ : oSg} {Q : Option oV → (Nat → oC) → Prop} : oE d 179 24 [l0, l1, l2] S σ Q = oE d 179 25 [l0, l1, l2] (.inl (-1) :: S) σ Q := pKst f_179_24 (by decide)
theorem f_179_25 : oFet 179 25 = some (.invokevirtual 105, 3) := by decide +kernel
theorem c_179_25 {d : Nat} {l0 l1 l2 : oV} {x0 x1 : oV} {a : Nat} {v : Option oV} {τ : oSg} {S : List oV} {σ : oSg} {Q : Option oV → (Nat → oC) → Prop} (hm : oMi d 159 [.inr (.inr (.inl a)), x0, x1] σ v τ) (hk : oKd a = some 11) (hs : oSmall S = true) : oE d 179 25 [l0, l1, l2] (x1 :: x0 :: .inr (.inr (.inl a)) :: S) σ Q = oE d 179 28 [l0, l1, l2] (v.toList ++ S) τ Q := pCallV f_179_25 ow_179 lk_11_105 mt_159 rfl rfl rfl hk hs hm
theorem f_179_28 : oFet 179 28 = some (.aload_n 0, 1) := by decide +kernel
theorem s_179_28 {d : Nat} {l1 l2 : oV} {a : Nat} {S : List oV} {σ : oSg} {Q : Option oV → (Nat → oC) → Prop} : oE d 179 28 [.inr (.inr (.inl a)), l1, l2] S σ Q = oE d 179 29 [.inr (.inr (.inl a)), l1, l2] (.inr (.inr (.inl a)) :: S) σ Q := pLdN (k := 0) f_179_28 rfl rfl rfl
theorem f_179_29 : oFet 179 29 = some (.getfield 33, 3) := by decide +kernel
theorem s_179_29 {d : Nat} {l0 l1 l2 : oV} {a : Nat} {S : List oV} {σ : oSg} {Q : Option oV → (Nat → oC) → Prop} (hk : oKd a = some 11) : oE d 179 29 [l0, l1, l2] (.inr (.inr (.inl a)) :: S) σ Q = oE d 179 32 [l0, l1, l2] (.inr (.inr (.inl (oRf a 13))) :: S) σ Q := pGfR f_179_29 ow_179 fl_11_33 rfl (by decide) hk
theorem f_179_32 : oFet 179 32 = some (.iload_n 2, 1) := by decide +kernel
theorem s_179_32 {d : Nat} {l0 l1 : oV} {x : Int} {S : List oV} {σ : oSg} {Q : Option oV → (Nat → oC) → Prop} : oE d 179 32 [l0, l1, .inl x] S σ Q = oE d 179 33 [l0, l1, .inl x] (.inl x :: S) σ Q := pLdN (k := 2) f_179_32 rfl rfl rfl
theorem f_179_33 : oFet 179 33 = some (.iaload, 1) := by decide +kernel
theorem s_179_33 {d : Nat} {l0 l1 l2 : oV} {a : Nat} {i : Int} {S : List oV} {σ : oSg} {Q : Option oV → (Nat → oC) → Prop} (hk : oAk a = some 0) (h0 : 0 ≤ i) (h1 : i < (oLn a : Int)) : oE d 179 33 [l0, l1, l2] (.inl i :: .inr (.inr (.inl a)) :: S) σ Q = oE d 179 34 [l0, l1, l2] (.inl (σ.2 a i.toNat) :: S) σ Q := oIal f_179_33 hk h0 h1
theorem f_179_34 : oFet 179 34 = some (.bipush (-5), 2) := by decide +kernel
theorem s_179_34 {d : Nat} {l0 l1 l2 : oV} {S : List oV} {σ : oSg} {Q : Option oV → (Nat → oC) → Prop} : oE d 179 34 [l0, l1, l2] S σ Q = oE d 179 36 [l0, l1, l2] (.inl (-5) :: S) σ Q := pBip f_179_34 (by decide)
theorem f_179_36 : oFet 179 36 = some (.invokestatic 102, 3) := by decide +kernel
theorem c_179_36 {d : Nat} {l0 l1 l2 : oV} {x0 x1 : oV} {v : Option oV} {τ : oSg} {S : List oV} {σ : oSg} {Q : Option oV → (Nat → oC) → Prop} (hm : oMi d 157 [x0, x1] σ v τ) (hs : oSmall S = true) : oE d 179 36 [l0, l1, l2] (x1 :: x0 :: S) σ Q = oE d 179 39 [l0, l1, l2] (v.toList ++ S) τ Q := pCallS f_179_36 ow_179 lk_11_102 mt_157 rfl rfl rfl hs hm
theorem f_179_39 : oFet 179 39 = some (.ireturn, 1) := by decide +kernel
theorem s_179_39 {d : Nat} {l0 l1 l2 : oV} {x : Int} {σ : oSg} {Q : Option oV → (Nat → oC) → Prop} : oE d 179 39 [l0, l1, l2] [.inl x] σ Q = Q (some (.inl x)) (oBld σ) := oIret f_179_39 rt_179
theorem ow_180 : (oMt 180).2.2.2.2.1 = 11 := by decide +kernel
theorem rt_180 : (oMt 180).2.2.2.1 = some .int := by decide +kernel
theorem nl_180 : (oMt 180).2.2.1 = 5 := by decide +kernel
theorem f_180_0 : oFet 180 0 = some (.aload_n 0, 1) := by decide +kernel
theorem s_180_0 {d : Nat} {l1 l2 l3 l4 : oV} {a : Nat} {S : List oV} {σ : oSg} {Q : Option oV → (Nat → oC) → Prop} : oE d 180 0 [.inr (.inr (.inl a)), l1, l2, l3, l4] S σ Q = oE d 180 1 [.inr (.inr (.inl a)), l1, l2, l3, l4] (.inr (.inr (.inl a)) :: S) σ Q := pLdN (k := 0) f_180_0 rfl rfl rfl
theorem f_180_1 : oFet 180 1 = some (.invokevirtual 168, 3) := by decide +kernel
theorem c_180_1 {d : Nat} {l0 l1 l2 l3 l4 : oV} {a : Nat} {v : Option oV} {τ : oSg} {S : List oV} {σ : oSg} {Q : Option oV → (Nat → oC) → Prop} (hm : oMi d 177 [.inr (.inr (.inl a))] σ v τ) (hk : oKd a = some 11) (hs : oSmall S = true) : oE d 180 1 [l0, l1, l2, l3, l4] (.inr (.inr (.inl a)) :: S) σ Q = oE d 180 4 [l0, l1, l2, l3, l4] (v.toList ++ S) τ Q := pCallV f_180_1 ow_180 lk_11_168 mt_177 rfl rfl rfl hk hs hm
theorem f_180_4 : oFet 180 4 = some (.ifCond .ne 6, 3) := by decide +kernel
theorem s_180_4 {d : Nat} {l0 l1 l2 l3 l4 : oV} {x : Int} {S : List oV} {σ : oSg} {Q : Option oV → (Nat → oC) → Prop} : oE d 180 4 [l0, l1, l2, l3, l4] (.inl x :: S) σ Q = if ¬ x = 0 then oE d 180 10 [l0, l1, l2, l3, l4] S σ Q else oE d 180 7 [l0, l1, l2, l3, l4] S σ Q := oIfNe f_180_4 (by decide)
theorem f_180_7 : oFet 180 7 = some (.bipush (-5), 2) := by decide +kernel
theorem s_180_7 {d : Nat} {l0 l1 l2 l3 l4 : oV} {S : List oV} {σ : oSg} {Q : Option oV → (Nat → oC) → Prop} : oE d 180 7 [l0, l1, l2, l3, l4] S σ Q = oE d 180 9 [l0, l1, l2, l3, l4] (.inl (-5) :: S) σ Q := pBip f_180_7 (by decide)
theorem f_180_9 : oFet 180 9 = some (.ireturn, 1) := by decide +kernel
theorem s_180_9 {d : Nat} {l0 l1 l2 l3 l4 : oV} {x : Int} {σ : oSg} {Q : Option oV → (Nat → oC) → Prop} : oE d 180 9 [l0, l1, l2, l3, l4] [.inl x] σ Q = Q (some (.inl x)) (oBld σ) := oIret f_180_9 rt_180
theorem f_180_10 : oFet 180 10 = some (.aload_n 0, 1) := by decide +kernel
theorem s_180_10 {d : Nat} {l1 l2 l3 l4 : oV} {a : Nat} {S : List oV} {σ : oSg} {Q : Option oV → (Nat → oC) → Prop} : oE d 180 10 [.inr (.inr (.inl a)), l1, l2, l3, l4] S σ Q = oE d 180 11 [.inr (.inr (.inl a)), l1, l2, l3, l4] (.inr (.inr (.inl a)) :: S) σ Q := pLdN (k := 0) f_180_10 rfl rfl rfl
theorem f_180_11 : oFet 180 11 = some (.getfield 27, 3) := by decide +kernel
theorem s_180_11 {d : Nat} {l0 l1 l2 l3 l4 : oV} {a : Nat} {S : List oV} {σ : oSg} {Q : Option oV → (Nat → oC) → Prop} (hk : oKd a = some 11) : oE d 180 11 [l0, l1, l2, l3, l4] (.inr (.inr (.inl a)) :: S) σ Q = oE d 180 14 [l0, l1, l2, l3, l4] (.inr (.inr (.inl (oRf a 8))) :: S) σ Q := pGfR f_180_11 ow_180 fl_11_27 rfl (by decide) hk
theorem f_180_14 : oFet 180 14 = some (.aload_n 0, 1) := by decide +kernel
theorem s_180_14 {d : Nat} {l1 l2 l3 l4 : oV} {a : Nat} {S : List oV} {σ : oSg} {Q : Option oV → (Nat → oC) → Prop} : oE d 180 14 [.inr (.inr (.inl a)), l1, l2, l3, l4] S σ Q = oE d 180 15 [.inr (.inr (.inl a)), l1, l2, l3, l4] (.inr (.inr (.inl a)) :: S) σ Q := pLdN (k := 0) f_180_14 rfl rfl rfl
theorem f_180_15 : oFet 180 15 = some (.getfield 159, 3) := by decide +kernel
theorem s_180_15 {d : Nat} {l0 l1 l2 l3 l4 : oV} {a : Nat} {S : List oV} {σ : oSg} {Q : Option oV → (Nat → oC) → Prop} (hk : oKd a = some 11) : oE d 180 15 [l0, l1, l2, l3, l4] (.inr (.inr (.inl a)) :: S) σ Q = oE d 180 18 [l0, l1, l2, l3, l4] (.inl (σ.1 a 10) :: S) σ Q := pGfI f_180_15 ow_180 fl_11_159 rfl (by decide) hk
theorem f_180_18 : oFet 180 18 = some (.iconst 1, 1) := by decide +kernel
theorem s_180_18 {d : Nat} {l0 l1 l2 l3 l4 : oV} {S : List oV} {σ : oSg} {Q : Option oV → (Nat → oC) → Prop} : oE d 180 18 [l0, l1, l2, l3, l4] S σ Q = oE d 180 19 [l0, l1, l2, l3, l4] (.inl (1) :: S) σ Q := pKst f_180_18 (by decide)
theorem f_180_19 : oFet 180 19 = some (.isub, 1) := by decide +kernel
theorem s_180_19 {d : Nat} {l0 l1 l2 l3 l4 : oV} {x y : Int} {S : List oV} {σ : oSg} {Q : Option oV → (Nat → oC) → Prop} : oE d 180 19 [l0, l1, l2, l3, l4] (.inl y :: .inl x :: S) σ Q = oE d 180 20 [l0, l1, l2, l3, l4] (.inl (oSub x y) :: S) σ Q := oS3 f_180_19 rfl rfl rfl
theorem f_180_20 : oFet 180 20 = some (.iaload, 1) := by decide +kernel
theorem s_180_20 {d : Nat} {l0 l1 l2 l3 l4 : oV} {a : Nat} {i : Int} {S : List oV} {σ : oSg} {Q : Option oV → (Nat → oC) → Prop} (hk : oAk a = some 0) (h0 : 0 ≤ i) (h1 : i < (oLn a : Int)) : oE d 180 20 [l0, l1, l2, l3, l4] (.inl i :: .inr (.inr (.inl a)) :: S) σ Q = oE d 180 21 [l0, l1, l2, l3, l4] (.inl (σ.2 a i.toNat) :: S) σ Q := oIal f_180_20 hk h0 h1
theorem f_180_21 : oFet 180 21 = some (.istore_n 1, 1) := by decide +kernel
theorem s_180_21 {d : Nat} {l0 l1 l2 l3 l4 : oV} {x : Int} {S : List oV} {σ : oSg} {Q : Option oV → (Nat → oC) → Prop} (c1 : oCat l1 = 1) (c0 : oCat l0 = 1)  : oE d 180 21 [l0, l1, l2, l3, l4] (.inl x :: S) σ Q = oE d 180 22 [l0, .inl x, l2, l3, l4] S σ Q := pSt (i := 1) f_180_21 rfl rfl (show (1 : Nat) < 5 by decide) (oC1n c0) (oC1n c1) rfl
theorem f_180_22 : oFet 180 22 = some (.iconst 0, 1) := by decide +kernel
theorem s_180_22 {d : Nat} {l0 l1 l2 l3 l4 : oV} {S : List oV} {σ : oSg} {Q : Option oV → (Nat → oC) → Prop} : oE d 180 22 [l0, l1, l2, l3, l4] S σ Q = oE d 180 23 [l0, l1, l2, l3, l4] (.inl (0) :: S) σ Q := pKst f_180_22 (by decide)
theorem f_180_23 : oFet 180 23 = some (.istore_n 2, 1) := by decide +kernel
theorem s_180_23 {d : Nat} {l0 l1 l2 l3 l4 : oV} {x : Int} {S : List oV} {σ : oSg} {Q : Option oV → (Nat → oC) → Prop} (c2 : oCat l2 = 1) (c1 : oCat l1 = 1)  : oE d 180 23 [l0, l1, l2, l3, l4] (.inl x :: S) σ Q = oE d 180 24 [l0, l1, .inl x, l3, l4] S σ Q := pSt (i := 2) f_180_23 rfl rfl (show (2 : Nat) < 5 by decide) (oC1n c1) (oC1n c2) rfl
theorem f_180_24 : oFet 180 24 = some (.iconst 0, 1) := by decide +kernel
theorem s_180_24 {d : Nat} {l0 l1 l2 l3 l4 : oV} {S : List oV} {σ : oSg} {Q : Option oV → (Nat → oC) → Prop} : oE d 180 24 [l0, l1, l2, l3, l4] S σ Q = oE d 180 25 [l0, l1, l2, l3, l4] (.inl (0) :: S) σ Q := pKst f_180_24 (by decide)
theorem f_180_25 : oFet 180 25 = some (.istore_n 3, 1) := by decide +kernel
theorem s_180_25 {d : Nat} {l0 l1 l2 l3 l4 : oV} {x : Int} {S : List oV} {σ : oSg} {Q : Option oV → (Nat → oC) → Prop} (c3 : oCat l3 = 1) (c2 : oCat l2 = 1)  : oE d 180 25 [l0, l1, l2, l3, l4] (.inl x :: S) σ Q = oE d 180 26 [l0, l1, l2, .inl x, l4] S σ Q := pSt (i := 3) f_180_25 rfl rfl (show (3 : Nat) < 5 by decide) (oC1n c2) (oC1n c3) rfl
theorem f_180_26 : oFet 180 26 = some (.iload_n 3, 1) := by decide +kernel
theorem s_180_26 {d : Nat} {l0 l1 l2 l4 : oV} {x : Int} {S : List oV} {σ : oSg} {Q : Option oV → (Nat → oC) → Prop} : oE d 180 26 [l0, l1, l2, .inl x, l4] S σ Q = oE d 180 27 [l0, l1, l2, .inl x, l4] (.inl x :: S) σ Q := pLdN (k := 3) f_180_26 rfl rfl rfl
theorem f_180_27 : oFet 180 27 = some (.aload_n 0, 1) := by decide +kernel
theorem s_180_27 {d : Nat} {l1 l2 l3 l4 : oV} {a : Nat} {S : List oV} {σ : oSg} {Q : Option oV → (Nat → oC) → Prop} : oE d 180 27 [.inr (.inr (.inl a)), l1, l2, l3, l4] S σ Q = oE d 180 28 [.inr (.inr (.inl a)), l1, l2, l3, l4] (.inr (.inr (.inl a)) :: S) σ Q := pLdN (k := 0) f_180_27 rfl rfl rfl
theorem f_180_28 : oFet 180 28 = some (.getfield 162, 3) := by decide +kernel
theorem s_180_28 {d : Nat} {l0 l1 l2 l3 l4 : oV} {a : Nat} {S : List oV} {σ : oSg} {Q : Option oV → (Nat → oC) → Prop} (hk : oKd a = some 11) : oE d 180 28 [l0, l1, l2, l3, l4] (.inr (.inr (.inl a)) :: S) σ Q = oE d 180 31 [l0, l1, l2, l3, l4] (.inl (σ.1 a 11) :: S) σ Q := pGfI f_180_28 ow_180 fl_11_162 rfl (by decide) hk
theorem f_180_31 : oFet 180 31 = some (.if_icmp .ge 27, 3) := by decide +kernel
theorem s_180_31 {d : Nat} {l0 l1 l2 l3 l4 : oV} {x y : Int} {S : List oV} {σ : oSg} {Q : Option oV → (Nat → oC) → Prop} : oE d 180 31 [l0, l1, l2, l3, l4] (.inl y :: .inl x :: S) σ Q = if y ≤ x then oE d 180 58 [l0, l1, l2, l3, l4] S σ Q else oE d 180 34 [l0, l1, l2, l3, l4] S σ Q := oCmpGe f_180_31 (by decide)
theorem f_180_34 : oFet 180 34 = some (.iload_n 2, 1) := by decide +kernel
theorem s_180_34 {d : Nat} {l0 l1 l3 l4 : oV} {x : Int} {S : List oV} {σ : oSg} {Q : Option oV → (Nat → oC) → Prop} : oE d 180 34 [l0, l1, .inl x, l3, l4] S σ Q = oE d 180 35 [l0, l1, .inl x, l3, l4] (.inl x :: S) σ Q := pLdN (k := 2) f_180_34 rfl rfl rfl
theorem f_180_35 : oFet 180 35 = some (.iconst 1, 1) := by decide +kernel
theorem s_180_35 {d : Nat} {l0 l1 l2 l3 l4 : oV} {S : List oV} {σ : oSg} {Q : Option oV → (Nat → oC) → Prop} : oE d 180 35 [l0, l1, l2, l3, l4] S σ Q = oE d 180 36 [l0, l1, l2, l3, l4] (.inl (1) :: S) σ Q := pKst f_180_35 (by decide)
theorem f_180_36 : oFet 180 36 = some (.aload_n 0, 1) := by decide +kernel
theorem s_180_36 {d : Nat} {l1 l2 l3 l4 : oV} {a : Nat} {S : List oV} {σ : oSg} {Q : Option oV → (Nat → oC) → Prop} : oE d 180 36 [.inr (.inr (.inl a)), l1, l2, l3, l4] S σ Q = oE d 180 37 [.inr (.inr (.inl a)), l1, l2, l3, l4] (.inr (.inr (.inl a)) :: S) σ Q := pLdN (k := 0) f_180_36 rfl rfl rfl
theorem f_180_37 : oFet 180 37 = some (.getfield 27, 3) := by decide +kernel
theorem s_180_37 {d : Nat} {l0 l1 l2 l3 l4 : oV} {a : Nat} {S : List oV} {σ : oSg} {Q : Option oV → (Nat → oC) → Prop} (hk : oKd a = some 11) : oE d 180 37 [l0, l1, l2, l3, l4] (.inr (.inr (.inl a)) :: S) σ Q = oE d 180 40 [l0, l1, l2, l3, l4] (.inr (.inr (.inl (oRf a 8))) :: S) σ Q := pGfR f_180_37 ow_180 fl_11_27 rfl (by decide) hk
theorem f_180_40 : oFet 180 40 = some (.aload_n 0, 1) := by decide +kernel
theorem s_180_40 {d : Nat} {l1 l2 l3 l4 : oV} {a : Nat} {S : List oV} {σ : oSg} {Q : Option oV → (Nat → oC) → Prop} : oE d 180 40 [.inr (.inr (.inl a)), l1, l2, l3, l4] S σ Q = oE d 180 41 [.inr (.inr (.inl a)), l1, l2, l3, l4] (.inr (.inr (.inl a)) :: S) σ Q := pLdN (k := 0) f_180_40 rfl rfl rfl
theorem f_180_41 : oFet 180 41 = some (.getfield 159, 3) := by decide +kernel
theorem s_180_41 {d : Nat} {l0 l1 l2 l3 l4 : oV} {a : Nat} {S : List oV} {σ : oSg} {Q : Option oV → (Nat → oC) → Prop} (hk : oKd a = some 11) : oE d 180 41 [l0, l1, l2, l3, l4] (.inr (.inr (.inl a)) :: S) σ Q = oE d 180 44 [l0, l1, l2, l3, l4] (.inl (σ.1 a 10) :: S) σ Q := pGfI f_180_41 ow_180 fl_11_159 rfl (by decide) hk
theorem f_180_44 : oFet 180 44 = some (.iconst 1, 1) := by decide +kernel
theorem s_180_44 {d : Nat} {l0 l1 l2 l3 l4 : oV} {S : List oV} {σ : oSg} {Q : Option oV → (Nat → oC) → Prop} : oE d 180 44 [l0, l1, l2, l3, l4] S σ Q = oE d 180 45 [l0, l1, l2, l3, l4] (.inl (1) :: S) σ Q := pKst f_180_44 (by decide)
theorem f_180_45 : oFet 180 45 = some (.isub, 1) := by decide +kernel
theorem s_180_45 {d : Nat} {l0 l1 l2 l3 l4 : oV} {x y : Int} {S : List oV} {σ : oSg} {Q : Option oV → (Nat → oC) → Prop} : oE d 180 45 [l0, l1, l2, l3, l4] (.inl y :: .inl x :: S) σ Q = oE d 180 46 [l0, l1, l2, l3, l4] (.inl (oSub x y) :: S) σ Q := oS3 f_180_45 rfl rfl rfl
theorem f_180_46 : oFet 180 46 = some (.iload_n 3, 1) := by decide +kernel
theorem s_180_46 {d : Nat} {l0 l1 l2 l4 : oV} {x : Int} {S : List oV} {σ : oSg} {Q : Option oV → (Nat → oC) → Prop} : oE d 180 46 [l0, l1, l2, .inl x, l4] S σ Q = oE d 180 47 [l0, l1, l2, .inl x, l4] (.inl x :: S) σ Q := pLdN (k := 3) f_180_46 rfl rfl rfl
theorem f_180_47 : oFet 180 47 = some (.iadd, 1) := by decide +kernel
theorem s_180_47 {d : Nat} {l0 l1 l2 l3 l4 : oV} {x y : Int} {S : List oV} {σ : oSg} {Q : Option oV → (Nat → oC) → Prop} : oE d 180 47 [l0, l1, l2, l3, l4] (.inl y :: .inl x :: S) σ Q = oE d 180 48 [l0, l1, l2, l3, l4] (.inl (oAdd x y) :: S) σ Q := oS3 f_180_47 rfl rfl rfl
theorem f_180_48 : oFet 180 48 = some (.iaload, 1) := by decide +kernel
theorem s_180_48 {d : Nat} {l0 l1 l2 l3 l4 : oV} {a : Nat} {i : Int} {S : List oV} {σ : oSg} {Q : Option oV → (Nat → oC) → Prop} (hk : oAk a = some 0) (h0 : 0 ≤ i) (h1 : i < (oLn a : Int)) : oE d 180 48 [l0, l1, l2, l3, l4] (.inl i :: .inr (.inr (.inl a)) :: S) σ Q = oE d 180 49 [l0, l1, l2, l3, l4] (.inl (σ.2 a i.toNat) :: S) σ Q := oIal f_180_48 hk h0 h1
theorem f_180_49 : oFet 180 49 = some (.ishl, 1) := by decide +kernel
theorem s_180_49 {d : Nat} {l0 l1 l2 l3 l4 : oV} {x y : Int} {S : List oV} {σ : oSg} {Q : Option oV → (Nat → oC) → Prop} : oE d 180 49 [l0, l1, l2, l3, l4] (.inl y :: .inl x :: S) σ Q = oE d 180 50 [l0, l1, l2, l3, l4] (.inl (oShl x y) :: S) σ Q := oS3 f_180_49 rfl rfl rfl
theorem f_180_50 : oFet 180 50 = some (.ior, 1) := by decide +kernel
theorem s_180_50 {d : Nat} {l0 l1 l2 l3 l4 : oV} {x y : Int} {S : List oV} {σ : oSg} {Q : Option oV → (Nat → oC) → Prop} : oE d 180 50 [l0, l1, l2, l3, l4] (.inl y :: .inl x :: S) σ Q = oE d 180 51 [l0, l1, l2, l3, l4] (.inl (oOr x y) :: S) σ Q := oS3 f_180_50 rfl rfl rfl
theorem f_180_51 : oFet 180 51 = some (.istore_n 2, 1) := by decide +kernel
theorem s_180_51 {d : Nat} {l0 l1 l2 l3 l4 : oV} {x : Int} {S : List oV} {σ : oSg} {Q : Option oV → (Nat → oC) → Prop} (c2 : oCat l2 = 1) (c1 : oCat l1 = 1)  : oE d 180 51 [l0, l1, l2, l3, l4] (.inl x :: S) σ Q = oE d 180 52 [l0, l1, .inl x, l3, l4] S σ Q := pSt (i := 2) f_180_51 rfl rfl (show (2 : Nat) < 5 by decide) (oC1n c1) (oC1n c2) rfl
theorem f_180_52 : oFet 180 52 = some (.iinc 3 1, 3) := by decide +kernel
theorem s_180_52 {d : Nat} {l0 l1 l2 l4 : oV} {x : Int} {S : List oV} {σ : oSg} {Q : Option oV → (Nat → oC) → Prop} (c2 : oCat l2 = 1)  : oE d 180 52 [l0, l1, l2, .inl x, l4] S σ Q = oE d 180 55 [l0, l1, l2, .inl (oAdd x (1)), l4] S σ Q := pInc f_180_52 rfl (show (3 : Nat) < 5 by decide) (oC1n c2) (oC1n (v := .inl x) rfl) rfl
theorem f_180_55 : oFet 180 55 = some (.goto (-29), 3) := by decide +kernel
theorem s_180_55 {d : Nat} {l0 l1 l2 l3 l4 : oV} {S : List oV} {σ : oSg} {Q : Option oV → (Nat → oC) → Prop} : oE d 180 55 [l0, l1, l2, l3, l4] S σ Q = oE d 180 26 [l0, l1, l2, l3, l4] S σ Q := pGoto f_180_55 (by decide)
theorem f_180_58 : oFet 180 58 = some (.aload_n 0, 1) := by decide +kernel
theorem s_180_58 {d : Nat} {l1 l2 l3 l4 : oV} {a : Nat} {S : List oV} {σ : oSg} {Q : Option oV → (Nat → oC) → Prop} : oE d 180 58 [.inr (.inr (.inl a)), l1, l2, l3, l4] S σ Q = oE d 180 59 [.inr (.inr (.inl a)), l1, l2, l3, l4] (.inr (.inr (.inl a)) :: S) σ Q := pLdN (k := 0) f_180_58 rfl rfl rfl
theorem f_180_59 : oFet 180 59 = some (.invokevirtual 195, 3) := by decide +kernel
theorem c_180_59 {d : Nat} {l0 l1 l2 l3 l4 : oV} {a : Nat} {v : Option oV} {τ : oSg} {S : List oV} {σ : oSg} {Q : Option oV → (Nat → oC) → Prop} (hm : oMi d 181 [.inr (.inr (.inl a))] σ v τ) (hk : oKd a = some 11) (hs : oSmall S = true) : oE d 180 59 [l0, l1, l2, l3, l4] (.inr (.inr (.inl a)) :: S) σ Q = oE d 180 62 [l0, l1, l2, l3, l4] (v.toList ++ S) τ Q := pCallV f_180_59 ow_180 lk_11_195 mt_181 rfl rfl rfl hk hs hm
theorem f_180_62 : oFet 180 62 = some (.iconst 0, 1) := by decide +kernel
theorem s_180_62 {d : Nat} {l0 l1 l2 l3 l4 : oV} {S : List oV} {σ : oSg} {Q : Option oV → (Nat → oC) → Prop} : oE d 180 62 [l0, l1, l2, l3, l4] S σ Q = oE d 180 63 [l0, l1, l2, l3, l4] (.inl (0) :: S) σ Q := pKst f_180_62 (by decide)
theorem f_180_63 : oFet 180 63 = some (.istore_n 3, 1) := by decide +kernel
theorem s_180_63 {d : Nat} {l0 l1 l2 l3 l4 : oV} {x : Int} {S : List oV} {σ : oSg} {Q : Option oV → (Nat → oC) → Prop} (c3 : oCat l3 = 1) (c2 : oCat l2 = 1)  : oE d 180 63 [l0, l1, l2, l3, l4] (.inl x :: S) σ Q = oE d 180 64 [l0, l1, l2, .inl x, l4] S σ Q := pSt (i := 3) f_180_63 rfl rfl (show (3 : Nat) < 5 by decide) (oC1n c2) (oC1n c3) rfl
theorem f_180_64 : oFet 180 64 = some (.iconst 0, 1) := by decide +kernel
theorem s_180_64 {d : Nat} {l0 l1 l2 l3 l4 : oV} {S : List oV} {σ : oSg} {Q : Option oV → (Nat → oC) → Prop} : oE d 180 64 [l0, l1, l2, l3, l4] S σ Q = oE d 180 65 [l0, l1, l2, l3, l4] (.inl (0) :: S) σ Q := pKst f_180_64 (by decide)
theorem f_180_65 : oFet 180 65 = some (.istore 4, 2) := by decide +kernel
theorem s_180_65 {d : Nat} {l0 l1 l2 l3 l4 : oV} {x : Int} {S : List oV} {σ : oSg} {Q : Option oV → (Nat → oC) → Prop} (c4 : oCat l4 = 1) (c3 : oCat l3 = 1)  : oE d 180 65 [l0, l1, l2, l3, l4] (.inl x :: S) σ Q = oE d 180 67 [l0, l1, l2, l3, .inl x] S σ Q := pSt (i := 4) f_180_65 rfl rfl (show (4 : Nat) < 5 by decide) (oC1n c3) (oC1n c4) rfl
theorem f_180_67 : oFet 180 67 = some (.iload 4, 2) := by decide +kernel
theorem s_180_67 {d : Nat} {l0 l1 l2 l3 : oV} {x : Int} {S : List oV} {σ : oSg} {Q : Option oV → (Nat → oC) → Prop} : oE d 180 67 [l0, l1, l2, l3, .inl x] S σ Q = oE d 180 69 [l0, l1, l2, l3, .inl x] (.inl x :: S) σ Q := pLd (i := 4) f_180_67 rfl rfl rfl
theorem f_180_69 : oFet 180 69 = some (.bipush 7, 2) := by decide +kernel
theorem s_180_69 {d : Nat} {l0 l1 l2 l3 l4 : oV} {S : List oV} {σ : oSg} {Q : Option oV → (Nat → oC) → Prop} : oE d 180 69 [l0, l1, l2, l3, l4] S σ Q = oE d 180 71 [l0, l1, l2, l3, l4] (.inl (7) :: S) σ Q := pBip f_180_69 (by decide)
theorem f_180_71 : oFet 180 71 = some (.if_icmp .ge 29, 3) := by decide +kernel
theorem s_180_71 {d : Nat} {l0 l1 l2 l3 l4 : oV} {x y : Int} {S : List oV} {σ : oSg} {Q : Option oV → (Nat → oC) → Prop} : oE d 180 71 [l0, l1, l2, l3, l4] (.inl y :: .inl x :: S) σ Q = if y ≤ x then oE d 180 100 [l0, l1, l2, l3, l4] S σ Q else oE d 180 74 [l0, l1, l2, l3, l4] S σ Q := oCmpGe f_180_71 (by decide)
theorem f_180_74 : oFet 180 74 = some (.iload_n 2, 1) := by decide +kernel
theorem s_180_74 {d : Nat} {l0 l1 l3 l4 : oV} {x : Int} {S : List oV} {σ : oSg} {Q : Option oV → (Nat → oC) → Prop} : oE d 180 74 [l0, l1, .inl x, l3, l4] S σ Q = oE d 180 75 [l0, l1, .inl x, l3, l4] (.inl x :: S) σ Q := pLdN (k := 2) f_180_74 rfl rfl rfl
theorem f_180_75 : oFet 180 75 = some (.iload 4, 2) := by decide +kernel
theorem s_180_75 {d : Nat} {l0 l1 l2 l3 : oV} {x : Int} {S : List oV} {σ : oSg} {Q : Option oV → (Nat → oC) → Prop} : oE d 180 75 [l0, l1, l2, l3, .inl x] S σ Q = oE d 180 77 [l0, l1, l2, l3, .inl x] (.inl x :: S) σ Q := pLd (i := 4) f_180_75 rfl rfl rfl
theorem f_180_77 : oFet 180 77 = some (.ishr, 1) := by decide +kernel
theorem s_180_77 {d : Nat} {l0 l1 l2 l3 l4 : oV} {x y : Int} {S : List oV} {σ : oSg} {Q : Option oV → (Nat → oC) → Prop} : oE d 180 77 [l0, l1, l2, l3, l4] (.inl y :: .inl x :: S) σ Q = oE d 180 78 [l0, l1, l2, l3, l4] (.inl (oShr x y) :: S) σ Q := oS3 f_180_77 rfl rfl rfl
theorem f_180_78 : oFet 180 78 = some (.iconst 1, 1) := by decide +kernel
theorem s_180_78 {d : Nat} {l0 l1 l2 l3 l4 : oV} {S : List oV} {σ : oSg} {Q : Option oV → (Nat → oC) → Prop} : oE d 180 78 [l0, l1, l2, l3, l4] S σ Q = oE d 180 79 [l0, l1, l2, l3, l4] (.inl (1) :: S) σ Q := pKst f_180_78 (by decide)
theorem f_180_79 : oFet 180 79 = some (.iand, 1) := by decide +kernel
theorem s_180_79 {d : Nat} {l0 l1 l2 l3 l4 : oV} {x y : Int} {S : List oV} {σ : oSg} {Q : Option oV → (Nat → oC) → Prop} : oE d 180 79 [l0, l1, l2, l3, l4] (.inl y :: .inl x :: S) σ Q = oE d 180 80 [l0, l1, l2, l3, l4] (.inl (oAnd x y) :: S) σ Q := oS3 f_180_79 rfl rfl rfl
theorem f_180_80 : oFet 180 80 = some (.iconst 1, 1) := by decide +kernel
theorem s_180_80 {d : Nat} {l0 l1 l2 l3 l4 : oV} {S : List oV} {σ : oSg} {Q : Option oV → (Nat → oC) → Prop} : oE d 180 80 [l0, l1, l2, l3, l4] S σ Q = oE d 180 81 [l0, l1, l2, l3, l4] (.inl (1) :: S) σ Q := pKst f_180_80 (by decide)
theorem f_180_81 : oFet 180 81 = some (.if_icmp .ne 13, 3) := by decide +kernel
theorem s_180_81 {d : Nat} {l0 l1 l2 l3 l4 : oV} {x y : Int} {S : List oV} {σ : oSg} {Q : Option oV → (Nat → oC) → Prop} : oE d 180 81 [l0, l1, l2, l3, l4] (.inl y :: .inl x :: S) σ Q = if ¬ x = y then oE d 180 94 [l0, l1, l2, l3, l4] S σ Q else oE d 180 84 [l0, l1, l2, l3, l4] S σ Q := oCmpNe f_180_81 (by decide)
theorem f_180_84 : oFet 180 84 = some (.iload_n 3, 1) := by decide +kernel
theorem s_180_84 {d : Nat} {l0 l1 l2 l4 : oV} {x : Int} {S : List oV} {σ : oSg} {Q : Option oV → (Nat → oC) → Prop} : oE d 180 84 [l0, l1, l2, .inl x, l4] S σ Q = oE d 180 85 [l0, l1, l2, .inl x, l4] (.inl x :: S) σ Q := pLdN (k := 3) f_180_84 rfl rfl rfl
theorem f_180_85 : oFet 180 85 = some (.aload_n 0, 1) := by decide +kernel
theorem s_180_85 {d : Nat} {l1 l2 l3 l4 : oV} {a : Nat} {S : List oV} {σ : oSg} {Q : Option oV → (Nat → oC) → Prop} : oE d 180 85 [.inr (.inr (.inl a)), l1, l2, l3, l4] S σ Q = oE d 180 86 [.inr (.inr (.inl a)), l1, l2, l3, l4] (.inr (.inr (.inl a)) :: S) σ Q := pLdN (k := 0) f_180_85 rfl rfl rfl
theorem f_180_86 : oFet 180 86 = some (.getfield 36, 3) := by decide +kernel
theorem s_180_86 {d : Nat} {l0 l1 l2 l3 l4 : oV} {a : Nat} {S : List oV} {σ : oSg} {Q : Option oV → (Nat → oC) → Prop} (hk : oKd a = some 11) : oE d 180 86 [l0, l1, l2, l3, l4] (.inr (.inr (.inl a)) :: S) σ Q = oE d 180 89 [l0, l1, l2, l3, l4] (.inr (.inr (.inl (oRf a 18))) :: S) σ Q := pGfR f_180_86 ow_180 fl_11_36 rfl (by decide) hk
theorem f_180_89 : oFet 180 89 = some (.iload 4, 2) := by decide +kernel
theorem s_180_89 {d : Nat} {l0 l1 l2 l3 : oV} {x : Int} {S : List oV} {σ : oSg} {Q : Option oV → (Nat → oC) → Prop} : oE d 180 89 [l0, l1, l2, l3, .inl x] S σ Q = oE d 180 91 [l0, l1, l2, l3, .inl x] (.inl x :: S) σ Q := pLd (i := 4) f_180_89 rfl rfl rfl
theorem f_180_91 : oFet 180 91 = some (.iaload, 1) := by decide +kernel
theorem s_180_91 {d : Nat} {l0 l1 l2 l3 l4 : oV} {a : Nat} {i : Int} {S : List oV} {σ : oSg} {Q : Option oV → (Nat → oC) → Prop} (hk : oAk a = some 0) (h0 : 0 ≤ i) (h1 : i < (oLn a : Int)) : oE d 180 91 [l0, l1, l2, l3, l4] (.inl i :: .inr (.inr (.inl a)) :: S) σ Q = oE d 180 92 [l0, l1, l2, l3, l4] (.inl (σ.2 a i.toNat) :: S) σ Q := oIal f_180_91 hk h0 h1
theorem f_180_92 : oFet 180 92 = some (.ior, 1) := by decide +kernel
theorem s_180_92 {d : Nat} {l0 l1 l2 l3 l4 : oV} {x y : Int} {S : List oV} {σ : oSg} {Q : Option oV → (Nat → oC) → Prop} : oE d 180 92 [l0, l1, l2, l3, l4] (.inl y :: .inl x :: S) σ Q = oE d 180 93 [l0, l1, l2, l3, l4] (.inl (oOr x y) :: S) σ Q := oS3 f_180_92 rfl rfl rfl
theorem f_180_93 : oFet 180 93 = some (.istore_n 3, 1) := by decide +kernel
theorem s_180_93 {d : Nat} {l0 l1 l2 l3 l4 : oV} {x : Int} {S : List oV} {σ : oSg} {Q : Option oV → (Nat → oC) → Prop} (c3 : oCat l3 = 1) (c2 : oCat l2 = 1)  : oE d 180 93 [l0, l1, l2, l3, l4] (.inl x :: S) σ Q = oE d 180 94 [l0, l1, l2, .inl x, l4] S σ Q := pSt (i := 3) f_180_93 rfl rfl (show (3 : Nat) < 5 by decide) (oC1n c2) (oC1n c3) rfl
theorem f_180_94 : oFet 180 94 = some (.iinc 4 1, 3) := by decide +kernel
theorem s_180_94 {d : Nat} {l0 l1 l2 l3 : oV} {x : Int} {S : List oV} {σ : oSg} {Q : Option oV → (Nat → oC) → Prop} (c3 : oCat l3 = 1)  : oE d 180 94 [l0, l1, l2, l3, .inl x] S σ Q = oE d 180 97 [l0, l1, l2, l3, .inl (oAdd x (1))] S σ Q := pInc f_180_94 rfl (show (4 : Nat) < 5 by decide) (oC1n c3) (oC1n (v := .inl x) rfl) rfl
theorem f_180_97 : oFet 180 97 = some (.goto (-30), 3) := by decide +kernel
theorem s_180_97 {d : Nat} {l0 l1 l2 l3 l4 : oV} {S : List oV} {σ : oSg} {Q : Option oV → (Nat → oC) → Prop} : oE d 180 97 [l0, l1, l2, l3, l4] S σ Q = oE d 180 67 [l0, l1, l2, l3, l4] S σ Q := pGoto f_180_97 (by decide)
theorem f_180_100 : oFet 180 100 = some (.iconst 0, 1) := by decide +kernel
theorem s_180_100 {d : Nat} {l0 l1 l2 l3 l4 : oV} {S : List oV} {σ : oSg} {Q : Option oV → (Nat → oC) → Prop} : oE d 180 100 [l0, l1, l2, l3, l4] S σ Q = oE d 180 101 [l0, l1, l2, l3, l4] (.inl (0) :: S) σ Q := pKst f_180_100 (by decide)
theorem f_180_101 : oFet 180 101 = some (.istore 4, 2) := by decide +kernel
theorem s_180_101 {d : Nat} {l0 l1 l2 l3 l4 : oV} {x : Int} {S : List oV} {σ : oSg} {Q : Option oV → (Nat → oC) → Prop} (c4 : oCat l4 = 1) (c3 : oCat l3 = 1)  : oE d 180 101 [l0, l1, l2, l3, l4] (.inl x :: S) σ Q = oE d 180 103 [l0, l1, l2, l3, .inl x] S σ Q := pSt (i := 4) f_180_101 rfl rfl (show (4 : Nat) < 5 by decide) (oC1n c3) (oC1n c4) rfl
theorem f_180_103 : oFet 180 103 = some (.iload 4, 2) := by decide +kernel
theorem s_180_103 {d : Nat} {l0 l1 l2 l3 : oV} {x : Int} {S : List oV} {σ : oSg} {Q : Option oV → (Nat → oC) → Prop} : oE d 180 103 [l0, l1, l2, l3, .inl x] S σ Q = oE d 180 105 [l0, l1, l2, l3, .inl x] (.inl x :: S) σ Q := pLd (i := 4) f_180_103 rfl rfl rfl
theorem f_180_105 : oFet 180 105 = some (.bipush 7, 2) := by decide +kernel
theorem s_180_105 {d : Nat} {l0 l1 l2 l3 l4 : oV} {S : List oV} {σ : oSg} {Q : Option oV → (Nat → oC) → Prop} : oE d 180 105 [l0, l1, l2, l3, l4] S σ Q = oE d 180 107 [l0, l1, l2, l3, l4] (.inl (7) :: S) σ Q := pBip f_180_105 (by decide)
theorem f_180_107 : oFet 180 107 = some (.if_icmp .ge 47, 3) := by decide +kernel
theorem s_180_107 {d : Nat} {l0 l1 l2 l3 l4 : oV} {x y : Int} {S : List oV} {σ : oSg} {Q : Option oV → (Nat → oC) → Prop} : oE d 180 107 [l0, l1, l2, l3, l4] (.inl y :: .inl x :: S) σ Q = if y ≤ x then oE d 180 154 [l0, l1, l2, l3, l4] S σ Q else oE d 180 110 [l0, l1, l2, l3, l4] S σ Q := oCmpGe f_180_107 (by decide)
theorem f_180_110 : oFet 180 110 = some (.aload_n 0, 1) := by decide +kernel
theorem s_180_110 {d : Nat} {l1 l2 l3 l4 : oV} {a : Nat} {S : List oV} {σ : oSg} {Q : Option oV → (Nat → oC) → Prop} : oE d 180 110 [.inr (.inr (.inl a)), l1, l2, l3, l4] S σ Q = oE d 180 111 [.inr (.inr (.inl a)), l1, l2, l3, l4] (.inr (.inr (.inl a)) :: S) σ Q := pLdN (k := 0) f_180_110 rfl rfl rfl
theorem f_180_111 : oFet 180 111 = some (.getfield 36, 3) := by decide +kernel
theorem s_180_111 {d : Nat} {l0 l1 l2 l3 l4 : oV} {a : Nat} {S : List oV} {σ : oSg} {Q : Option oV → (Nat → oC) → Prop} (hk : oKd a = some 11) : oE d 180 111 [l0, l1, l2, l3, l4] (.inr (.inr (.inl a)) :: S) σ Q = oE d 180 114 [l0, l1, l2, l3, l4] (.inr (.inr (.inl (oRf a 18))) :: S) σ Q := pGfR f_180_111 ow_180 fl_11_36 rfl (by decide) hk
theorem f_180_114 : oFet 180 114 = some (.iload 4, 2) := by decide +kernel
theorem s_180_114 {d : Nat} {l0 l1 l2 l3 : oV} {x : Int} {S : List oV} {σ : oSg} {Q : Option oV → (Nat → oC) → Prop} : oE d 180 114 [l0, l1, l2, l3, .inl x] S σ Q = oE d 180 116 [l0, l1, l2, l3, .inl x] (.inl x :: S) σ Q := pLd (i := 4) f_180_114 rfl rfl rfl
theorem f_180_116 : oFet 180 116 = some (.aload_n 0, 1) := by decide +kernel
theorem s_180_116 {d : Nat} {l1 l2 l3 l4 : oV} {a : Nat} {S : List oV} {σ : oSg} {Q : Option oV → (Nat → oC) → Prop} : oE d 180 116 [.inr (.inr (.inl a)), l1, l2, l3, l4] S σ Q = oE d 180 117 [.inr (.inr (.inl a)), l1, l2, l3, l4] (.inr (.inr (.inl a)) :: S) σ Q := pLdN (k := 0) f_180_116 rfl rfl rfl
theorem f_180_117 : oFet 180 117 = some (.getfield 36, 3) := by decide +kernel
theorem s_180_117 {d : Nat} {l0 l1 l2 l3 l4 : oV} {a : Nat} {S : List oV} {σ : oSg} {Q : Option oV → (Nat → oC) → Prop} (hk : oKd a = some 11) : oE d 180 117 [l0, l1, l2, l3, l4] (.inr (.inr (.inl a)) :: S) σ Q = oE d 180 120 [l0, l1, l2, l3, l4] (.inr (.inr (.inl (oRf a 18))) :: S) σ Q := pGfR f_180_117 ow_180 fl_11_36 rfl (by decide) hk
theorem f_180_120 : oFet 180 120 = some (.iload 4, 2) := by decide +kernel
theorem s_180_120 {d : Nat} {l0 l1 l2 l3 : oV} {x : Int} {S : List oV} {σ : oSg} {Q : Option oV → (Nat → oC) → Prop} : oE d 180 120 [l0, l1, l2, l3, .inl x] S σ Q = oE d 180 122 [l0, l1, l2, l3, .inl x] (.inl x :: S) σ Q := pLd (i := 4) f_180_120 rfl rfl rfl
theorem f_180_122 : oFet 180 122 = some (.iaload, 1) := by decide +kernel
theorem s_180_122 {d : Nat} {l0 l1 l2 l3 l4 : oV} {a : Nat} {i : Int} {S : List oV} {σ : oSg} {Q : Option oV → (Nat → oC) → Prop} (hk : oAk a = some 0) (h0 : 0 ≤ i) (h1 : i < (oLn a : Int)) : oE d 180 122 [l0, l1, l2, l3, l4] (.inl i :: .inr (.inr (.inl a)) :: S) σ Q = oE d 180 123 [l0, l1, l2, l3, l4] (.inl (σ.2 a i.toNat) :: S) σ Q := oIal f_180_122 hk h0 h1
theorem f_180_123 : oFet 180 123 = some (.iload_n 2, 1) := by decide +kernel
theorem s_180_123 {d : Nat} {l0 l1 l3 l4 : oV} {x : Int} {S : List oV} {σ : oSg} {Q : Option oV → (Nat → oC) → Prop} : oE d 180 123 [l0, l1, .inl x, l3, l4] S σ Q = oE d 180 124 [l0, l1, .inl x, l3, l4] (.inl x :: S) σ Q := pLdN (k := 2) f_180_123 rfl rfl rfl
theorem f_180_124 : oFet 180 124 = some (.iconst (-1), 1) := by decide +kernel
theorem s_180_124 {d : Nat} {l0 l1 l2 l3 l4 : oV} {S : List oV} {σ : oSg} {Q : Option oV → (Nat → oC) → Prop} : oE d 180 124 [l0, l1, l2, l3, l4] S σ Q = oE d 180 125 [l0, l1, l2, l3, l4] (.inl (-1) :: S) σ Q := pKst f_180_124 (by decide)
theorem f_180_125 : oFet 180 125 = some (.ixor, 1) := by decide +kernel
theorem s_180_125 {d : Nat} {l0 l1 l2 l3 l4 : oV} {x y : Int} {S : List oV} {σ : oSg} {Q : Option oV → (Nat → oC) → Prop} : oE d 180 125 [l0, l1, l2, l3, l4] (.inl y :: .inl x :: S) σ Q = oE d 180 126 [l0, l1, l2, l3, l4] (.inl (oXor x y) :: S) σ Q := oS3 f_180_125 rfl rfl rfl
theorem f_180_126 : oFet 180 126 = some (.iand, 1) := by decide +kernel
theorem s_180_126 {d : Nat} {l0 l1 l2 l3 l4 : oV} {x y : Int} {S : List oV} {σ : oSg} {Q : Option oV → (Nat → oC) → Prop} : oE d 180 126 [l0, l1, l2, l3, l4] (.inl y :: .inl x :: S) σ Q = oE d 180 127 [l0, l1, l2, l3, l4] (.inl (oAnd x y) :: S) σ Q := oS3 f_180_126 rfl rfl rfl
theorem f_180_127 : oFet 180 127 = some (.aload_n 0, 1) := by decide +kernel
theorem s_180_127 {d : Nat} {l1 l2 l3 l4 : oV} {a : Nat} {S : List oV} {σ : oSg} {Q : Option oV → (Nat → oC) → Prop} : oE d 180 127 [.inr (.inr (.inl a)), l1, l2, l3, l4] S σ Q = oE d 180 128 [.inr (.inr (.inl a)), l1, l2, l3, l4] (.inr (.inr (.inl a)) :: S) σ Q := pLdN (k := 0) f_180_127 rfl rfl rfl
theorem f_180_128 : oFet 180 128 = some (.getfield 36, 3) := by decide +kernel
theorem s_180_128 {d : Nat} {l0 l1 l2 l3 l4 : oV} {a : Nat} {S : List oV} {σ : oSg} {Q : Option oV → (Nat → oC) → Prop} (hk : oKd a = some 11) : oE d 180 128 [l0, l1, l2, l3, l4] (.inr (.inr (.inl a)) :: S) σ Q = oE d 180 131 [l0, l1, l2, l3, l4] (.inr (.inr (.inl (oRf a 18))) :: S) σ Q := pGfR f_180_128 ow_180 fl_11_36 rfl (by decide) hk
theorem f_180_131 : oFet 180 131 = some (.iload 4, 2) := by decide +kernel
theorem s_180_131 {d : Nat} {l0 l1 l2 l3 : oV} {x : Int} {S : List oV} {σ : oSg} {Q : Option oV → (Nat → oC) → Prop} : oE d 180 131 [l0, l1, l2, l3, .inl x] S σ Q = oE d 180 133 [l0, l1, l2, l3, .inl x] (.inl x :: S) σ Q := pLd (i := 4) f_180_131 rfl rfl rfl
theorem f_180_133 : oFet 180 133 = some (.iaload, 1) := by decide +kernel
theorem s_180_133 {d : Nat} {l0 l1 l2 l3 l4 : oV} {a : Nat} {i : Int} {S : List oV} {σ : oSg} {Q : Option oV → (Nat → oC) → Prop} (hk : oAk a = some 0) (h0 : 0 ≤ i) (h1 : i < (oLn a : Int)) : oE d 180 133 [l0, l1, l2, l3, l4] (.inl i :: .inr (.inr (.inl a)) :: S) σ Q = oE d 180 134 [l0, l1, l2, l3, l4] (.inl (σ.2 a i.toNat) :: S) σ Q := oIal f_180_133 hk h0 h1
theorem f_180_134 : oFet 180 134 = some (.iload_n 2, 1) := by decide +kernel
theorem s_180_134 {d : Nat} {l0 l1 l3 l4 : oV} {x : Int} {S : List oV} {σ : oSg} {Q : Option oV → (Nat → oC) → Prop} : oE d 180 134 [l0, l1, .inl x, l3, l4] S σ Q = oE d 180 135 [l0, l1, .inl x, l3, l4] (.inl x :: S) σ Q := pLdN (k := 2) f_180_134 rfl rfl rfl
theorem f_180_135 : oFet 180 135 = some (.iand, 1) := by decide +kernel
theorem s_180_135 {d : Nat} {l0 l1 l2 l3 l4 : oV} {x y : Int} {S : List oV} {σ : oSg} {Q : Option oV → (Nat → oC) → Prop} : oE d 180 135 [l0, l1, l2, l3, l4] (.inl y :: .inl x :: S) σ Q = oE d 180 136 [l0, l1, l2, l3, l4] (.inl (oAnd x y) :: S) σ Q := oS3 f_180_135 rfl rfl rfl
theorem f_180_136 : oFet 180 136 = some (.ifCond .eq 9, 3) := by decide +kernel
theorem s_180_136 {d : Nat} {l0 l1 l2 l3 l4 : oV} {x : Int} {S : List oV} {σ : oSg} {Q : Option oV → (Nat → oC) → Prop} : oE d 180 136 [l0, l1, l2, l3, l4] (.inl x :: S) σ Q = if x = 0 then oE d 180 145 [l0, l1, l2, l3, l4] S σ Q else oE d 180 139 [l0, l1, l2, l3, l4] S σ Q := oIfEq f_180_136 (by decide)
theorem f_180_139 : oFet 180 139 = some (.iconst 1, 1) := by decide +kernel
theorem s_180_139 {d : Nat} {l0 l1 l2 l3 l4 : oV} {S : List oV} {σ : oSg} {Q : Option oV → (Nat → oC) → Prop} : oE d 180 139 [l0, l1, l2, l3, l4] S σ Q = oE d 180 140 [l0, l1, l2, l3, l4] (.inl (1) :: S) σ Q := pKst f_180_139 (by decide)
theorem f_180_140 : oFet 180 140 = some (.iload_n 1, 1) := by decide +kernel
theorem s_180_140 {d : Nat} {l0 l2 l3 l4 : oV} {x : Int} {S : List oV} {σ : oSg} {Q : Option oV → (Nat → oC) → Prop} : oE d 180 140 [l0, .inl x, l2, l3, l4] S σ Q = oE d 180 141 [l0, .inl x, l2, l3, l4] (.inl x :: S) σ Q := pLdN (k := 1) f_180_140 rfl rfl rfl
theorem f_180_141 : oFet 180 141 = some (.ishl, 1) := by decide +kernel
theorem s_180_141 {d : Nat} {l0 l1 l2 l3 l4 : oV} {x y : Int} {S : List oV} {σ : oSg} {Q : Option oV → (Nat → oC) → Prop} : oE d 180 141 [l0, l1, l2, l3, l4] (.inl y :: .inl x :: S) σ Q = oE d 180 142 [l0, l1, l2, l3, l4] (.inl (oShl x y) :: S) σ Q := oS3 f_180_141 rfl rfl rfl
theorem f_180_142 : oFet 180 142 = some (.goto 4, 3) := by decide +kernel
theorem s_180_142 {d : Nat} {l0 l1 l2 l3 l4 : oV} {S : List oV} {σ : oSg} {Q : Option oV → (Nat → oC) → Prop} : oE d 180 142 [l0, l1, l2, l3, l4] S σ Q = oE d 180 146 [l0, l1, l2, l3, l4] S σ Q := pGoto f_180_142 (by decide)
theorem f_180_145 : oFet 180 145 = some (.iconst 0, 1) := by decide +kernel
theorem s_180_145 {d : Nat} {l0 l1 l2 l3 l4 : oV} {S : List oV} {σ : oSg} {Q : Option oV → (Nat → oC) → Prop} : oE d 180 145 [l0, l1, l2, l3, l4] S σ Q = oE d 180 146 [l0, l1, l2, l3, l4] (.inl (0) :: S) σ Q := pKst f_180_145 (by decide)
theorem f_180_146 : oFet 180 146 = some (.ior, 1) := by decide +kernel
theorem s_180_146 {d : Nat} {l0 l1 l2 l3 l4 : oV} {x y : Int} {S : List oV} {σ : oSg} {Q : Option oV → (Nat → oC) → Prop} : oE d 180 146 [l0, l1, l2, l3, l4] (.inl y :: .inl x :: S) σ Q = oE d 180 147 [l0, l1, l2, l3, l4] (.inl (oOr x y) :: S) σ Q := oS3 f_180_146 rfl rfl rfl
theorem f_180_147 : oFet 180 147 = some (.iastore, 1) := by decide +kernel
theorem s_180_147 {d : Nat} {l0 l1 l2 l3 l4 : oV} {a : Nat} {i v : Int} {S : List oV} {σ : oSg} {Q : Option oV → (Nat → oC) → Prop} (hk : oAk a = some 0) (h0 : 0 ≤ i) (h1 : i < (oLn a : Int)) : oE d 180 147 [l0, l1, l2, l3, l4] (.inl v :: .inl i :: .inr (.inr (.inl a)) :: S) σ Q = oE d 180 148 [l0, l1, l2, l3, l4] S (oSA σ a i.toNat v) Q := oIas f_180_147 hk h0 h1
theorem f_180_148 : oFet 180 148 = some (.iinc 4 1, 3) := by decide +kernel
theorem s_180_148 {d : Nat} {l0 l1 l2 l3 : oV} {x : Int} {S : List oV} {σ : oSg} {Q : Option oV → (Nat → oC) → Prop} (c3 : oCat l3 = 1)  : oE d 180 148 [l0, l1, l2, l3, .inl x] S σ Q = oE d 180 151 [l0, l1, l2, l3, .inl (oAdd x (1))] S σ Q := pInc f_180_148 rfl (show (4 : Nat) < 5 by decide) (oC1n c3) (oC1n (v := .inl x) rfl) rfl
theorem f_180_151 : oFet 180 151 = some (.goto (-48), 3) := by decide +kernel
theorem s_180_151 {d : Nat} {l0 l1 l2 l3 l4 : oV} {S : List oV} {σ : oSg} {Q : Option oV → (Nat → oC) → Prop} : oE d 180 151 [l0, l1, l2, l3, l4] S σ Q = oE d 180 103 [l0, l1, l2, l3, l4] S σ Q := pGoto f_180_151 (by decide)
theorem f_180_154 : oFet 180 154 = some (.aload_n 0, 1) := by decide +kernel
theorem s_180_154 {d : Nat} {l1 l2 l3 l4 : oV} {a : Nat} {S : List oV} {σ : oSg} {Q : Option oV → (Nat → oC) → Prop} : oE d 180 154 [.inr (.inr (.inl a)), l1, l2, l3, l4] S σ Q = oE d 180 155 [.inr (.inr (.inl a)), l1, l2, l3, l4] (.inr (.inr (.inl a)) :: S) σ Q := pLdN (k := 0) f_180_154 rfl rfl rfl
theorem f_180_155 : oFet 180 155 = some (.getfield 36, 3) := by decide +kernel
theorem s_180_155 {d : Nat} {l0 l1 l2 l3 l4 : oV} {a : Nat} {S : List oV} {σ : oSg} {Q : Option oV → (Nat → oC) → Prop} (hk : oKd a = some 11) : oE d 180 155 [l0, l1, l2, l3, l4] (.inr (.inr (.inl a)) :: S) σ Q = oE d 180 158 [l0, l1, l2, l3, l4] (.inr (.inr (.inl (oRf a 18))) :: S) σ Q := pGfR f_180_155 ow_180 fl_11_36 rfl (by decide) hk
theorem f_180_158 : oFet 180 158 = some (.iload_n 1, 1) := by decide +kernel
theorem s_180_158 {d : Nat} {l0 l2 l3 l4 : oV} {x : Int} {S : List oV} {σ : oSg} {Q : Option oV → (Nat → oC) → Prop} : oE d 180 158 [l0, .inl x, l2, l3, l4] S σ Q = oE d 180 159 [l0, .inl x, l2, l3, l4] (.inl x :: S) σ Q := pLdN (k := 1) f_180_158 rfl rfl rfl
theorem f_180_159 : oFet 180 159 = some (.iload_n 3, 1) := by decide +kernel
theorem s_180_159 {d : Nat} {l0 l1 l2 l4 : oV} {x : Int} {S : List oV} {σ : oSg} {Q : Option oV → (Nat → oC) → Prop} : oE d 180 159 [l0, l1, l2, .inl x, l4] S σ Q = oE d 180 160 [l0, l1, l2, .inl x, l4] (.inl x :: S) σ Q := pLdN (k := 3) f_180_159 rfl rfl rfl
theorem f_180_160 : oFet 180 160 = some (.iload_n 2, 1) := by decide +kernel
theorem s_180_160 {d : Nat} {l0 l1 l3 l4 : oV} {x : Int} {S : List oV} {σ : oSg} {Q : Option oV → (Nat → oC) → Prop} : oE d 180 160 [l0, l1, .inl x, l3, l4] S σ Q = oE d 180 161 [l0, l1, .inl x, l3, l4] (.inl x :: S) σ Q := pLdN (k := 2) f_180_160 rfl rfl rfl
theorem f_180_161 : oFet 180 161 = some (.iconst (-1), 1) := by decide +kernel
theorem s_180_161 {d : Nat} {l0 l1 l2 l3 l4 : oV} {S : List oV} {σ : oSg} {Q : Option oV → (Nat → oC) → Prop} : oE d 180 161 [l0, l1, l2, l3, l4] S σ Q = oE d 180 162 [l0, l1, l2, l3, l4] (.inl (-1) :: S) σ Q := pKst f_180_161 (by decide)
theorem f_180_162 : oFet 180 162 = some (.ixor, 1) := by decide +kernel
theorem s_180_162 {d : Nat} {l0 l1 l2 l3 l4 : oV} {x y : Int} {S : List oV} {σ : oSg} {Q : Option oV → (Nat → oC) → Prop} : oE d 180 162 [l0, l1, l2, l3, l4] (.inl y :: .inl x :: S) σ Q = oE d 180 163 [l0, l1, l2, l3, l4] (.inl (oXor x y) :: S) σ Q := oS3 f_180_162 rfl rfl rfl
theorem f_180_163 : oFet 180 163 = some (.iand, 1) := by decide +kernel
theorem s_180_163 {d : Nat} {l0 l1 l2 l3 l4 : oV} {x y : Int} {S : List oV} {σ : oSg} {Q : Option oV → (Nat → oC) → Prop} : oE d 180 163 [l0, l1, l2, l3, l4] (.inl y :: .inl x :: S) σ Q = oE d 180 164 [l0, l1, l2, l3, l4] (.inl (oAnd x y) :: S) σ Q := oS3 f_180_163 rfl rfl rfl
theorem f_180_164 : oFet 180 164 = some (.iastore, 1) := by decide +kernel
theorem s_180_164 {d : Nat} {l0 l1 l2 l3 l4 : oV} {a : Nat} {i v : Int} {S : List oV} {σ : oSg} {Q : Option oV → (Nat → oC) → Prop} (hk : oAk a = some 0) (h0 : 0 ≤ i) (h1 : i < (oLn a : Int)) : oE d 180 164 [l0, l1, l2, l3, l4] (.inl v :: .inl i :: .inr (.inr (.inl a)) :: S) σ Q = oE d 180 165 [l0, l1, l2, l3, l4] S (oSA σ a i.toNat v) Q := oIas f_180_164 hk h0 h1
theorem f_180_165 : oFet 180 165 = some (.aload_n 0, 1) := by decide +kernel
theorem s_180_165 {d : Nat} {l1 l2 l3 l4 : oV} {a : Nat} {S : List oV} {σ : oSg} {Q : Option oV → (Nat → oC) → Prop} : oE d 180 165 [.inr (.inr (.inl a)), l1, l2, l3, l4] S σ Q = oE d 180 166 [.inr (.inr (.inl a)), l1, l2, l3, l4] (.inr (.inr (.inl a)) :: S) σ Q := pLdN (k := 0) f_180_165 rfl rfl rfl
theorem f_180_166 : oFet 180 166 = some (.getfield 36, 3) := by decide +kernel
theorem s_180_166 {d : Nat} {l0 l1 l2 l3 l4 : oV} {a : Nat} {S : List oV} {σ : oSg} {Q : Option oV → (Nat → oC) → Prop} (hk : oKd a = some 11) : oE d 180 166 [l0, l1, l2, l3, l4] (.inr (.inr (.inl a)) :: S) σ Q = oE d 180 169 [l0, l1, l2, l3, l4] (.inr (.inr (.inl (oRf a 18))) :: S) σ Q := pGfR f_180_166 ow_180 fl_11_36 rfl (by decide) hk
theorem f_180_169 : oFet 180 169 = some (.iconst 1, 1) := by decide +kernel
theorem s_180_169 {d : Nat} {l0 l1 l2 l3 l4 : oV} {S : List oV} {σ : oSg} {Q : Option oV → (Nat → oC) → Prop} : oE d 180 169 [l0, l1, l2, l3, l4] S σ Q = oE d 180 170 [l0, l1, l2, l3, l4] (.inl (1) :: S) σ Q := pKst f_180_169 (by decide)
theorem f_180_170 : oFet 180 170 = some (.aload_n 0, 1) := by decide +kernel
theorem s_180_170 {d : Nat} {l1 l2 l3 l4 : oV} {a : Nat} {S : List oV} {σ : oSg} {Q : Option oV → (Nat → oC) → Prop} : oE d 180 170 [.inr (.inr (.inl a)), l1, l2, l3, l4] S σ Q = oE d 180 171 [.inr (.inr (.inl a)), l1, l2, l3, l4] (.inr (.inr (.inl a)) :: S) σ Q := pLdN (k := 0) f_180_170 rfl rfl rfl
theorem f_180_171 : oFet 180 171 = some (.getfield 11, 3) := by decide +kernel
theorem s_180_171 {d : Nat} {l0 l1 l2 l3 l4 : oV} {a : Nat} {S : List oV} {σ : oSg} {Q : Option oV → (Nat → oC) → Prop} (hk : oKd a = some 11) : oE d 180 171 [l0, l1, l2, l3, l4] (.inr (.inr (.inl a)) :: S) σ Q = oE d 180 174 [l0, l1, l2, l3, l4] (.inr (.inr (.inl (oRf a 0))) :: S) σ Q := pGfR f_180_171 ow_180 fl_11_11 rfl (by decide) hk
theorem f_180_174 : oFet 180 174 = some (.iconst 0, 1) := by decide +kernel
theorem s_180_174 {d : Nat} {l0 l1 l2 l3 l4 : oV} {S : List oV} {σ : oSg} {Q : Option oV → (Nat → oC) → Prop} : oE d 180 174 [l0, l1, l2, l3, l4] S σ Q = oE d 180 175 [l0, l1, l2, l3, l4] (.inl (0) :: S) σ Q := pKst f_180_174 (by decide)
theorem f_180_175 : oFet 180 175 = some (.iaload, 1) := by decide +kernel
theorem s_180_175 {d : Nat} {l0 l1 l2 l3 l4 : oV} {a : Nat} {i : Int} {S : List oV} {σ : oSg} {Q : Option oV → (Nat → oC) → Prop} (hk : oAk a = some 0) (h0 : 0 ≤ i) (h1 : i < (oLn a : Int)) : oE d 180 175 [l0, l1, l2, l3, l4] (.inl i :: .inr (.inr (.inl a)) :: S) σ Q = oE d 180 176 [l0, l1, l2, l3, l4] (.inl (σ.2 a i.toNat) :: S) σ Q := oIal f_180_175 hk h0 h1
theorem f_180_176 : oFet 180 176 = some (.ishl, 1) := by decide +kernel
theorem s_180_176 {d : Nat} {l0 l1 l2 l3 l4 : oV} {x y : Int} {S : List oV} {σ : oSg} {Q : Option oV → (Nat → oC) → Prop} : oE d 180 176 [l0, l1, l2, l3, l4] (.inl y :: .inl x :: S) σ Q = oE d 180 177 [l0, l1, l2, l3, l4] (.inl (oShl x y) :: S) σ Q := oS3 f_180_176 rfl rfl rfl
theorem f_180_177 : oFet 180 177 = some (.iconst 1, 1) := by decide +kernel
theorem s_180_177 {d : Nat} {l0 l1 l2 l3 l4 : oV} {S : List oV} {σ : oSg} {Q : Option oV → (Nat → oC) → Prop} : oE d 180 177 [l0, l1, l2, l3, l4] S σ Q = oE d 180 178 [l0, l1, l2, l3, l4] (.inl (1) :: S) σ Q := pKst f_180_177 (by decide)
theorem f_180_178 : oFet 180 178 = some (.isub, 1) := by decide +kernel
theorem s_180_178 {d : Nat} {l0 l1 l2 l3 l4 : oV} {x y : Int} {S : List oV} {σ : oSg} {Q : Option oV → (Nat → oC) → Prop} : oE d 180 178 [l0, l1, l2, l3, l4] (.inl y :: .inl x :: S) σ Q = oE d 180 179 [l0, l1, l2, l3, l4] (.inl (oSub x y) :: S) σ Q := oS3 f_180_178 rfl rfl rfl
theorem f_180_179 : oFet 180 179 = some (.iload_n 2, 1) := by decide +kernel
theorem s_180_179 {d : Nat} {l0 l1 l3 l4 : oV} {x : Int} {S : List oV} {σ : oSg} {Q : Option oV → (Nat → oC) → Prop} : oE d 180 179 [l0, l1, .inl x, l3, l4] S σ Q = oE d 180 180 [l0, l1, .inl x, l3, l4] (.inl x :: S) σ Q := pLdN (k := 2) f_180_179 rfl rfl rfl
theorem f_180_180 : oFet 180 180 = some (.iconst (-1), 1) := by decide +kernel
theorem s_180_180 {d : Nat} {l0 l1 l2 l3 l4 : oV} {S : List oV} {σ : oSg} {Q : Option oV → (Nat → oC) → Prop} : oE d 180 180 [l0, l1, l2, l3, l4] S σ Q = oE d 180 181 [l0, l1, l2, l3, l4] (.inl (-1) :: S) σ Q := pKst f_180_180 (by decide)
theorem f_180_181 : oFet 180 181 = some (.ixor, 1) := by decide +kernel
theorem s_180_181 {d : Nat} {l0 l1 l2 l3 l4 : oV} {x y : Int} {S : List oV} {σ : oSg} {Q : Option oV → (Nat → oC) → Prop} : oE d 180 181 [l0, l1, l2, l3, l4] (.inl y :: .inl x :: S) σ Q = oE d 180 182 [l0, l1, l2, l3, l4] (.inl (oXor x y) :: S) σ Q := oS3 f_180_181 rfl rfl rfl
theorem f_180_182 : oFet 180 182 = some (.iand, 1) := by decide +kernel
theorem s_180_182 {d : Nat} {l0 l1 l2 l3 l4 : oV} {x y : Int} {S : List oV} {σ : oSg} {Q : Option oV → (Nat → oC) → Prop} : oE d 180 182 [l0, l1, l2, l3, l4] (.inl y :: .inl x :: S) σ Q = oE d 180 183 [l0, l1, l2, l3, l4] (.inl (oAnd x y) :: S) σ Q := oS3 f_180_182 rfl rfl rfl
theorem f_180_183 : oFet 180 183 = some (.iconst 1, 1) := by decide +kernel
theorem s_180_183 {d : Nat} {l0 l1 l2 l3 l4 : oV} {S : List oV} {σ : oSg} {Q : Option oV → (Nat → oC) → Prop} : oE d 180 183 [l0, l1, l2, l3, l4] S σ Q = oE d 180 184 [l0, l1, l2, l3, l4] (.inl (1) :: S) σ Q := pKst f_180_183 (by decide)
theorem f_180_184 : oFet 180 184 = some (.iload_n 1, 1) := by decide +kernel
theorem s_180_184 {d : Nat} {l0 l2 l3 l4 : oV} {x : Int} {S : List oV} {σ : oSg} {Q : Option oV → (Nat → oC) → Prop} : oE d 180 184 [l0, .inl x, l2, l3, l4] S σ Q = oE d 180 185 [l0, .inl x, l2, l3, l4] (.inl x :: S) σ Q := pLdN (k := 1) f_180_184 rfl rfl rfl
theorem f_180_185 : oFet 180 185 = some (.ishl, 1) := by decide +kernel
theorem s_180_185 {d : Nat} {l0 l1 l2 l3 l4 : oV} {x y : Int} {S : List oV} {σ : oSg} {Q : Option oV → (Nat → oC) → Prop} : oE d 180 185 [l0, l1, l2, l3, l4] (.inl y :: .inl x :: S) σ Q = oE d 180 186 [l0, l1, l2, l3, l4] (.inl (oShl x y) :: S) σ Q := oS3 f_180_185 rfl rfl rfl
theorem f_180_186 : oFet 180 186 = some (.ior, 1) := by decide +kernel
theorem s_180_186 {d : Nat} {l0 l1 l2 l3 l4 : oV} {x y : Int} {S : List oV} {σ : oSg} {Q : Option oV → (Nat → oC) → Prop} : oE d 180 186 [l0, l1, l2, l3, l4] (.inl y :: .inl x :: S) σ Q = oE d 180 187 [l0, l1, l2, l3, l4] (.inl (oOr x y) :: S) σ Q := oS3 f_180_186 rfl rfl rfl
theorem f_180_187 : oFet 180 187 = some (.invokestatic 186, 3) := by decide +kernel
theorem c_180_187 {d : Nat} {l0 l1 l2 l3 l4 : oV} {x0 x1 : oV} {v : Option oV} {τ : oSg} {S : List oV} {σ : oSg} {Q : Option oV → (Nat → oC) → Prop} (hm : oMi d 182 [x0, x1] σ v τ) (hs : oSmall S = true) : oE d 180 187 [l0, l1, l2, l3, l4] (x1 :: x0 :: S) σ Q = oE d 180 190 [l0, l1, l2, l3, l4] (v.toList ++ S) τ Q := pCallS f_180_187 ow_180 lk_11_186 mt_182 rfl rfl rfl hs hm
theorem f_180_190 : oFet 180 190 = some (.ireturn, 1) := by decide +kernel
theorem s_180_190 {d : Nat} {l0 l1 l2 l3 l4 : oV} {x : Int} {σ : oSg} {Q : Option oV → (Nat → oC) → Prop} : oE d 180 190 [l0, l1, l2, l3, l4] [.inl x] σ Q = Q (some (.inl x)) (oBld σ) := oIret f_180_190 rt_180
theorem ow_181 : (oMt 181).2.2.2.2.1 = 11 := by decide +kernel
theorem rt_181 : (oMt 181).2.2.2.1 = none := by decide +kernel
theorem nl_181 : (oMt 181).2.2.1 = 3 := by decide +kernel
theorem f_181_0 : oFet 181 0 = some (.iconst 0, 1) := by decide +kernel
theorem s_181_0 {d : Nat} {l0 l1 l2 : oV} {S : List oV} {σ : oSg} {Q : Option oV → (Nat → oC) → Prop} : oE d 181 0 [l0, l1, l2] S σ Q = oE d 181 1 [l0, l1, l2] (.inl (0) :: S) σ Q := pKst f_181_0 (by decide)
theorem f_181_1 : oFet 181 1 = some (.istore_n 1, 1) := by decide +kernel
theorem s_181_1 {d : Nat} {l0 l1 l2 : oV} {x : Int} {S : List oV} {σ : oSg} {Q : Option oV → (Nat → oC) → Prop} (c1 : oCat l1 = 1) (c0 : oCat l0 = 1)  : oE d 181 1 [l0, l1, l2] (.inl x :: S) σ Q = oE d 181 2 [l0, .inl x, l2] S σ Q := pSt (i := 1) f_181_1 rfl rfl (show (1 : Nat) < 3 by decide) (oC1n c0) (oC1n c1) rfl
theorem f_181_2 : oFet 181 2 = some (.iload_n 1, 1) := by decide +kernel
theorem s_181_2 {d : Nat} {l0 l2 : oV} {x : Int} {S : List oV} {σ : oSg} {Q : Option oV → (Nat → oC) → Prop} : oE d 181 2 [l0, .inl x, l2] S σ Q = oE d 181 3 [l0, .inl x, l2] (.inl x :: S) σ Q := pLdN (k := 1) f_181_2 rfl rfl rfl
theorem f_181_3 : oFet 181 3 = some (.bipush 7, 2) := by decide +kernel
theorem s_181_3 {d : Nat} {l0 l1 l2 : oV} {S : List oV} {σ : oSg} {Q : Option oV → (Nat → oC) → Prop} : oE d 181 3 [l0, l1, l2] S σ Q = oE d 181 5 [l0, l1, l2] (.inl (7) :: S) σ Q := pBip f_181_3 (by decide)
theorem f_181_5 : oFet 181 5 = some (.if_icmp .ge 56, 3) := by decide +kernel
theorem s_181_5 {d : Nat} {l0 l1 l2 : oV} {x y : Int} {S : List oV} {σ : oSg} {Q : Option oV → (Nat → oC) → Prop} : oE d 181 5 [l0, l1, l2] (.inl y :: .inl x :: S) σ Q = if y ≤ x then oE d 181 61 [l0, l1, l2] S σ Q else oE d 181 8 [l0, l1, l2] S σ Q := oCmpGe f_181_5 (by decide)
theorem f_181_8 : oFet 181 8 = some (.aload_n 0, 1) := by decide +kernel
theorem s_181_8 {d : Nat} {l1 l2 : oV} {a : Nat} {S : List oV} {σ : oSg} {Q : Option oV → (Nat → oC) → Prop} : oE d 181 8 [.inr (.inr (.inl a)), l1, l2] S σ Q = oE d 181 9 [.inr (.inr (.inl a)), l1, l2] (.inr (.inr (.inl a)) :: S) σ Q := pLdN (k := 0) f_181_8 rfl rfl rfl
theorem f_181_9 : oFet 181 9 = some (.getfield 36, 3) := by decide +kernel
theorem s_181_9 {d : Nat} {l0 l1 l2 : oV} {a : Nat} {S : List oV} {σ : oSg} {Q : Option oV → (Nat → oC) → Prop} (hk : oKd a = some 11) : oE d 181 9 [l0, l1, l2] (.inr (.inr (.inl a)) :: S) σ Q = oE d 181 12 [l0, l1, l2] (.inr (.inr (.inl (oRf a 18))) :: S) σ Q := pGfR f_181_9 ow_181 fl_11_36 rfl (by decide) hk
theorem f_181_12 : oFet 181 12 = some (.iload_n 1, 1) := by decide +kernel
theorem s_181_12 {d : Nat} {l0 l2 : oV} {x : Int} {S : List oV} {σ : oSg} {Q : Option oV → (Nat → oC) → Prop} : oE d 181 12 [l0, .inl x, l2] S σ Q = oE d 181 13 [l0, .inl x, l2] (.inl x :: S) σ Q := pLdN (k := 1) f_181_12 rfl rfl rfl
theorem f_181_13 : oFet 181 13 = some (.iconst 0, 1) := by decide +kernel
theorem s_181_13 {d : Nat} {l0 l1 l2 : oV} {S : List oV} {σ : oSg} {Q : Option oV → (Nat → oC) → Prop} : oE d 181 13 [l0, l1, l2] S σ Q = oE d 181 14 [l0, l1, l2] (.inl (0) :: S) σ Q := pKst f_181_13 (by decide)
theorem f_181_14 : oFet 181 14 = some (.iastore, 1) := by decide +kernel
theorem s_181_14 {d : Nat} {l0 l1 l2 : oV} {a : Nat} {i v : Int} {S : List oV} {σ : oSg} {Q : Option oV → (Nat → oC) → Prop} (hk : oAk a = some 0) (h0 : 0 ≤ i) (h1 : i < (oLn a : Int)) : oE d 181 14 [l0, l1, l2] (.inl v :: .inl i :: .inr (.inr (.inl a)) :: S) σ Q = oE d 181 15 [l0, l1, l2] S (oSA σ a i.toNat v) Q := oIas f_181_14 hk h0 h1
theorem f_181_15 : oFet 181 15 = some (.iconst 0, 1) := by decide +kernel
theorem s_181_15 {d : Nat} {l0 l1 l2 : oV} {S : List oV} {σ : oSg} {Q : Option oV → (Nat → oC) → Prop} : oE d 181 15 [l0, l1, l2] S σ Q = oE d 181 16 [l0, l1, l2] (.inl (0) :: S) σ Q := pKst f_181_15 (by decide)
theorem f_181_16 : oFet 181 16 = some (.istore_n 2, 1) := by decide +kernel
theorem s_181_16 {d : Nat} {l0 l1 l2 : oV} {x : Int} {S : List oV} {σ : oSg} {Q : Option oV → (Nat → oC) → Prop} (c2 : oCat l2 = 1) (c1 : oCat l1 = 1)  : oE d 181 16 [l0, l1, l2] (.inl x :: S) σ Q = oE d 181 17 [l0, l1, .inl x] S σ Q := pSt (i := 2) f_181_16 rfl rfl (show (2 : Nat) < 3 by decide) (oC1n c1) (oC1n c2) rfl
theorem f_181_17 : oFet 181 17 = some (.iload_n 2, 1) := by decide +kernel
theorem s_181_17 {d : Nat} {l0 l1 : oV} {x : Int} {S : List oV} {σ : oSg} {Q : Option oV → (Nat → oC) → Prop} : oE d 181 17 [l0, l1, .inl x] S σ Q = oE d 181 18 [l0, l1, .inl x] (.inl x :: S) σ Q := pLdN (k := 2) f_181_17 rfl rfl rfl
theorem f_181_18 : oFet 181 18 = some (.bipush 7, 2) := by decide +kernel
theorem s_181_18 {d : Nat} {l0 l1 l2 : oV} {S : List oV} {σ : oSg} {Q : Option oV → (Nat → oC) → Prop} : oE d 181 18 [l0, l1, l2] S σ Q = oE d 181 20 [l0, l1, l2] (.inl (7) :: S) σ Q := pBip f_181_18 (by decide)
theorem f_181_20 : oFet 181 20 = some (.if_icmp .ge 35, 3) := by decide +kernel
theorem s_181_20 {d : Nat} {l0 l1 l2 : oV} {x y : Int} {S : List oV} {σ : oSg} {Q : Option oV → (Nat → oC) → Prop} : oE d 181 20 [l0, l1, l2] (.inl y :: .inl x :: S) σ Q = if y ≤ x then oE d 181 55 [l0, l1, l2] S σ Q else oE d 181 23 [l0, l1, l2] S σ Q := oCmpGe f_181_20 (by decide)
theorem f_181_23 : oFet 181 23 = some (.iload_n 1, 1) := by decide +kernel
theorem s_181_23 {d : Nat} {l0 l2 : oV} {x : Int} {S : List oV} {σ : oSg} {Q : Option oV → (Nat → oC) → Prop} : oE d 181 23 [l0, .inl x, l2] S σ Q = oE d 181 24 [l0, .inl x, l2] (.inl x :: S) σ Q := pLdN (k := 1) f_181_23 rfl rfl rfl
theorem f_181_24 : oFet 181 24 = some (.iload_n 2, 1) := by decide +kernel
theorem s_181_24 {d : Nat} {l0 l1 : oV} {x : Int} {S : List oV} {σ : oSg} {Q : Option oV → (Nat → oC) → Prop} : oE d 181 24 [l0, l1, .inl x] S σ Q = oE d 181 25 [l0, l1, .inl x] (.inl x :: S) σ Q := pLdN (k := 2) f_181_24 rfl rfl rfl
theorem f_181_25 : oFet 181 25 = some (.if_icmp .eq 24, 3) := by decide +kernel
theorem s_181_25 {d : Nat} {l0 l1 l2 : oV} {x y : Int} {S : List oV} {σ : oSg} {Q : Option oV → (Nat → oC) → Prop} : oE d 181 25 [l0, l1, l2] (.inl y :: .inl x :: S) σ Q = if x = y then oE d 181 49 [l0, l1, l2] S σ Q else oE d 181 28 [l0, l1, l2] S σ Q := oCmpEq f_181_25 (by decide)
theorem f_181_28 : oFet 181 28 = some (.aload_n 0, 1) := by decide +kernel
theorem s_181_28 {d : Nat} {l1 l2 : oV} {a : Nat} {S : List oV} {σ : oSg} {Q : Option oV → (Nat → oC) → Prop} : oE d 181 28 [.inr (.inr (.inl a)), l1, l2] S σ Q = oE d 181 29 [.inr (.inr (.inl a)), l1, l2] (.inr (.inr (.inl a)) :: S) σ Q := pLdN (k := 0) f_181_28 rfl rfl rfl
theorem f_181_29 : oFet 181 29 = some (.iload_n 1, 1) := by decide +kernel
theorem s_181_29 {d : Nat} {l0 l2 : oV} {x : Int} {S : List oV} {σ : oSg} {Q : Option oV → (Nat → oC) → Prop} : oE d 181 29 [l0, .inl x, l2] S σ Q = oE d 181 30 [l0, .inl x, l2] (.inl x :: S) σ Q := pLdN (k := 1) f_181_29 rfl rfl rfl
theorem f_181_30 : oFet 181 30 = some (.iload_n 2, 1) := by decide +kernel
theorem s_181_30 {d : Nat} {l0 l1 : oV} {x : Int} {S : List oV} {σ : oSg} {Q : Option oV → (Nat → oC) → Prop} : oE d 181 30 [l0, l1, .inl x] S σ Q = oE d 181 31 [l0, l1, .inl x] (.inl x :: S) σ Q := pLdN (k := 2) f_181_30 rfl rfl rfl
theorem f_181_31 : oFet 181 31 = some (.invokevirtual 91, 3) := by decide +kernel
theorem c_181_31 {d : Nat} {l0 l1 l2 : oV} {x0 x1 : oV} {a : Nat} {v : Option oV} {τ : oSg} {S : List oV} {σ : oSg} {Q : Option oV → (Nat → oC) → Prop} (hm : oMi d 153 [.inr (.inr (.inl a)), x0, x1] σ v τ) (hk : oKd a = some 11) (hs : oSmall S = true) : oE d 181 31 [l0, l1, l2] (x1 :: x0 :: .inr (.inr (.inl a)) :: S) σ Q = oE d 181 34 [l0, l1, l2] (v.toList ++ S) τ Q := pCallV f_181_31 ow_181 lk_11_91 mt_153 rfl rfl rfl hk hs hm
theorem f_181_34 : oFet 181 34 = some (.ifCond .eq 15, 3) := by decide +kernel
theorem s_181_34 {d : Nat} {l0 l1 l2 : oV} {x : Int} {S : List oV} {σ : oSg} {Q : Option oV → (Nat → oC) → Prop} : oE d 181 34 [l0, l1, l2] (.inl x :: S) σ Q = if x = 0 then oE d 181 49 [l0, l1, l2] S σ Q else oE d 181 37 [l0, l1, l2] S σ Q := oIfEq f_181_34 (by decide)
theorem f_181_37 : oFet 181 37 = some (.aload_n 0, 1) := by decide +kernel
theorem s_181_37 {d : Nat} {l1 l2 : oV} {a : Nat} {S : List oV} {σ : oSg} {Q : Option oV → (Nat → oC) → Prop} : oE d 181 37 [.inr (.inr (.inl a)), l1, l2] S σ Q = oE d 181 38 [.inr (.inr (.inl a)), l1, l2] (.inr (.inr (.inl a)) :: S) σ Q := pLdN (k := 0) f_181_37 rfl rfl rfl
theorem f_181_38 : oFet 181 38 = some (.getfield 36, 3) := by decide +kernel
theorem s_181_38 {d : Nat} {l0 l1 l2 : oV} {a : Nat} {S : List oV} {σ : oSg} {Q : Option oV → (Nat → oC) → Prop} (hk : oKd a = some 11) : oE d 181 38 [l0, l1, l2] (.inr (.inr (.inl a)) :: S) σ Q = oE d 181 41 [l0, l1, l2] (.inr (.inr (.inl (oRf a 18))) :: S) σ Q := pGfR f_181_38 ow_181 fl_11_36 rfl (by decide) hk
theorem f_181_41 : oFet 181 41 = some (.iload_n 1, 1) := by decide +kernel
theorem s_181_41 {d : Nat} {l0 l2 : oV} {x : Int} {S : List oV} {σ : oSg} {Q : Option oV → (Nat → oC) → Prop} : oE d 181 41 [l0, .inl x, l2] S σ Q = oE d 181 42 [l0, .inl x, l2] (.inl x :: S) σ Q := pLdN (k := 1) f_181_41 rfl rfl rfl
theorem f_181_42 : oFet 181 42 = some (.dup2, 1) := by decide +kernel
theorem s_181_42 {d : Nat} {l0 l1 l2 : oV} {x : Int} {a : Nat} {S : List oV} {σ : oSg} {Q : Option oV → (Nat → oC) → Prop} : oE d 181 42 [l0, l1, l2] (.inl x :: .inr (.inr (.inl a)) :: S) σ Q = oE d 181 43 [l0, l1, l2] (.inl x :: .inr (.inr (.inl a)) :: .inl x :: .inr (.inr (.inl a)) :: S) σ Q := pDup2 f_181_42 rfl rfl
theorem f_181_43 : oFet 181 43 = some (.iaload, 1) := by decide +kernel
theorem s_181_43 {d : Nat} {l0 l1 l2 : oV} {a : Nat} {i : Int} {S : List oV} {σ : oSg} {Q : Option oV → (Nat → oC) → Prop} (hk : oAk a = some 0) (h0 : 0 ≤ i) (h1 : i < (oLn a : Int)) : oE d 181 43 [l0, l1, l2] (.inl i :: .inr (.inr (.inl a)) :: S) σ Q = oE d 181 44 [l0, l1, l2] (.inl (σ.2 a i.toNat) :: S) σ Q := oIal f_181_43 hk h0 h1
theorem f_181_44 : oFet 181 44 = some (.iconst 1, 1) := by decide +kernel
theorem s_181_44 {d : Nat} {l0 l1 l2 : oV} {S : List oV} {σ : oSg} {Q : Option oV → (Nat → oC) → Prop} : oE d 181 44 [l0, l1, l2] S σ Q = oE d 181 45 [l0, l1, l2] (.inl (1) :: S) σ Q := pKst f_181_44 (by decide)
theorem f_181_45 : oFet 181 45 = some (.iload_n 2, 1) := by decide +kernel
theorem s_181_45 {d : Nat} {l0 l1 : oV} {x : Int} {S : List oV} {σ : oSg} {Q : Option oV → (Nat → oC) → Prop} : oE d 181 45 [l0, l1, .inl x] S σ Q = oE d 181 46 [l0, l1, .inl x] (.inl x :: S) σ Q := pLdN (k := 2) f_181_45 rfl rfl rfl
theorem f_181_46 : oFet 181 46 = some (.ishl, 1) := by decide +kernel
theorem s_181_46 {d : Nat} {l0 l1 l2 : oV} {x y : Int} {S : List oV} {σ : oSg} {Q : Option oV → (Nat → oC) → Prop} : oE d 181 46 [l0, l1, l2] (.inl y :: .inl x :: S) σ Q = oE d 181 47 [l0, l1, l2] (.inl (oShl x y) :: S) σ Q := oS3 f_181_46 rfl rfl rfl
theorem f_181_47 : oFet 181 47 = some (.ior, 1) := by decide +kernel
theorem s_181_47 {d : Nat} {l0 l1 l2 : oV} {x y : Int} {S : List oV} {σ : oSg} {Q : Option oV → (Nat → oC) → Prop} : oE d 181 47 [l0, l1, l2] (.inl y :: .inl x :: S) σ Q = oE d 181 48 [l0, l1, l2] (.inl (oOr x y) :: S) σ Q := oS3 f_181_47 rfl rfl rfl
theorem f_181_48 : oFet 181 48 = some (.iastore, 1) := by decide +kernel
theorem s_181_48 {d : Nat} {l0 l1 l2 : oV} {a : Nat} {i v : Int} {S : List oV} {σ : oSg} {Q : Option oV → (Nat → oC) → Prop} (hk : oAk a = some 0) (h0 : 0 ≤ i) (h1 : i < (oLn a : Int)) : oE d 181 48 [l0, l1, l2] (.inl v :: .inl i :: .inr (.inr (.inl a)) :: S) σ Q = oE d 181 49 [l0, l1, l2] S (oSA σ a i.toNat v) Q := oIas f_181_48 hk h0 h1
theorem f_181_49 : oFet 181 49 = some (.iinc 2 1, 3) := by decide +kernel
theorem s_181_49 {d : Nat} {l0 l1 : oV} {x : Int} {S : List oV} {σ : oSg} {Q : Option oV → (Nat → oC) → Prop} (c1 : oCat l1 = 1)  : oE d 181 49 [l0, l1, .inl x] S σ Q = oE d 181 52 [l0, l1, .inl (oAdd x (1))] S σ Q := pInc f_181_49 rfl (show (2 : Nat) < 3 by decide) (oC1n c1) (oC1n (v := .inl x) rfl) rfl
theorem f_181_52 : oFet 181 52 = some (.goto (-35), 3) := by decide +kernel
theorem s_181_52 {d : Nat} {l0 l1 l2 : oV} {S : List oV} {σ : oSg} {Q : Option oV → (Nat → oC) → Prop} : oE d 181 52 [l0, l1, l2] S σ Q = oE d 181 17 [l0, l1, l2] S σ Q := pGoto f_181_52 (by decide)
theorem f_181_55 : oFet 181 55 = some (.iinc 1 1, 3) := by decide +kernel
theorem s_181_55 {d : Nat} {l0 l2 : oV} {x : Int} {S : List oV} {σ : oSg} {Q : Option oV → (Nat → oC) → Prop} (c0 : oCat l0 = 1)  : oE d 181 55 [l0, .inl x, l2] S σ Q = oE d 181 58 [l0, .inl (oAdd x (1)), l2] S σ Q := pInc f_181_55 rfl (show (1 : Nat) < 3 by decide) (oC1n c0) (oC1n (v := .inl x) rfl) rfl
theorem f_181_58 : oFet 181 58 = some (.goto (-56), 3) := by decide +kernel
theorem s_181_58 {d : Nat} {l0 l1 l2 : oV} {S : List oV} {σ : oSg} {Q : Option oV → (Nat → oC) → Prop} : oE d 181 58 [l0, l1, l2] S σ Q = oE d 181 2 [l0, l1, l2] S σ Q := pGoto f_181_58 (by decide)
theorem f_181_61 : oFet 181 61 = some (.return_, 1) := by decide +kernel
theorem s_181_61 {d : Nat} {l0 l1 l2 : oV} {σ : oSg} {Q : Option oV → (Nat → oC) → Prop} : oE d 181 61 [l0, l1, l2] [] σ Q = Q none (oBld σ) := oVret f_181_61 rt_181
