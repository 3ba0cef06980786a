/-! twelve: the rules once more, as the printed steps take them -/
theorem oC1n {v : oV} (h : oCat v = 1) : some (oCat v) ≠ some 2 := by rw [h]; decide
theorem oC1i {x : Int} : oCat (.inl x) = 1 := rfl
theorem oC1r {a : Nat} : oCat (.inr (.inr (.inl a))) = 1 := rfl
theorem oC1j {a : Nat} : oCat (.inr (.inr (.inr a))) = 1 := rfl
section ORM
variable {d y pc pc' own : Nat} {L S L' S' : List oV} {σ σ' : oSg} {Q : Option oV → (Nat → oC) → Prop}
theorem pKst {n : Int} (hf : oFet y pc = some (.iconst n, 1)) (hn : -2147483648 ≤ n ∧ n < 2147483648) : oE d y pc L S σ Q = oE d y (pc + 1) L (.inl n :: S) σ Q := oS1 hf (if_pos hn)
theorem pBip {n : Int} (hf : oFet y pc = some (.bipush n, 2)) (hn : -128 ≤ n ∧ n < 128) : oE d y pc L S σ Q = oE d y (pc + 2) L (.inl n :: S) σ Q := oS1 hf (if_pos hn)
theorem pSip {n : Int} (hf : oFet y pc = some (.sipush n, 3)) (hn : -32768 ≤ n ∧ n < 32768) : oE d y pc L S σ Q = oE d y (pc + 3) L (.inl n :: S) σ Q := oS1 hf (if_pos hn)
theorem pLcs {n : Fin 2} (hf : oFet y pc = some (.lconst n, 1)) : oE d y pc L S σ Q = oE d y (pc + 1) L (.inr (.inl ((n.val : Nat) : Int)) :: S) σ Q := oS1 hf rfl
theorem pLdT {i t : Nat} {v : oV} (hl : L[i]? = some v) (ht : oTag v = t) : oLd L i t = some v := by
  unfold oLd
  rw [hl]
  exact if_pos ht
theorem pLdN {k : Fin 4} {v : oV} {t : Nat} {q : Instr} (hf : oFet y pc = some (q, 1)) (hq : oG1 (q, 1) pc L S = oPush 1 pc L S (oLd L k.val t)) (hl : L[k.val]? = some v) (ht : oTag v = t) : oE d y pc L S σ Q = oE d y (pc + 1) L (v :: S) σ Q := oS1 hf (by rw [hq, pLdT hl ht]; rfl)
theorem pLd {i : Nat} {v : oV} {t : Nat} {q : Instr} (hf : oFet y pc = some (q, 2)) (hq : oG1 (q, 2) pc L S = oPush 2 pc L S (oLd L i t)) (hl : L[i]? = some v) (ht : oTag v = t) : oE d y pc L S σ Q = oE d y (pc + 2) L (v :: S) σ Q := oS1 hf (by rw [hq, pLdT hl ht]; rfl)
theorem pStL {i : Nat} {v : oV} (hi : i < L.length) (h1 : (L.map oCat)[i - 1]? ≠ some 2) (h2 : (L.map oCat)[i]? ≠ some 2) : oStL L i v = some (L.set i v) := if_pos ⟨hi, h1, h2⟩
theorem pSt {n i : Nat} {v : oV} {q : Instr} (hf : oFet y pc = some (q, n)) (h0 : oG1 (q, n) pc L (v :: S) = none) (hq : oG2 (q, n) pc L (v :: S) = oStore n pc L S i v) (hi : i < L.length) (h1 : (L.map oCat)[i - 1]? ≠ some 2) (h2 : (L.map oCat)[i]? ≠ some 2) (hl : L.set i v = L') : oE d y pc L (v :: S) σ Q = oE d y (pc + n) L' S σ Q := oS2 hf h0 (by rw [hq]; unfold oStore; rw [pStL hi h1 h2, hl])
theorem pInc {i : Nat} {n x : Int} (hf : oFet y pc = some (.iinc i n, 3)) (hl : L[i]? = some (.inl x)) (hi : i < L.length) (h1 : (L.map oCat)[i - 1]? ≠ some 2) (h2 : (L.map oCat)[i]? ≠ some 2) (hs : L.set i (.inl (oAdd x n)) = L') : oE d y pc L S σ Q = oE d y (pc + 3) L' S σ Q := oS2 hf rfl (by
  show (match L[i]? with
    | some (.inl x) => oStore 3 pc L S i (.inl (oAdd x n))
    | _ => none) = _
  rw [hl]
  show oStore 3 pc L S i (.inl (oAdd x n)) = _
  unfold oStore
  rw [pStL hi h1 h2, hs])
theorem pDupR {a : Nat} (hf : oFet y pc = some (.dup, 1)) : oE d y pc L (.inr (.inr (.inl a)) :: S) σ Q = oE d y (pc + 1) L (.inr (.inr (.inl a)) :: .inr (.inr (.inl a)) :: S) σ Q := oS2 hf rfl rfl
theorem pDupI {x : Int} (hf : oFet y pc = some (.dup, 1)) : oE d y pc L (.inl x :: S) σ Q = oE d y (pc + 1) L (.inl x :: .inl x :: S) σ Q := oS2 hf rfl rfl
theorem pPop {v : oV} (hf : oFet y pc = some (.pop, 1)) (hv : oCat v = 1) : oE d y pc L (v :: S) σ Q = oE d y (pc + 1) L S σ Q := oS2 hf rfl (if_pos hv)
theorem pDup2 {v w : oV} (hf : oFet y pc = some (.dup2, 1)) (hv : oCat v = 1) (hw : oCat w = 1) : oE d y pc L (v :: w :: S) σ Q = oE d y (pc + 1) L (v :: w :: v :: w :: S) σ Q := oS2 hf rfl (if_pos ⟨hv, hw⟩)
theorem pDiv {x z : Int} (hf : oFet y pc = some (.idiv, 1)) (hz : z ≠ 0) : oE d y pc L (.inl z :: .inl x :: S) σ Q = oE d y (pc + 1) L (.inl (oDiv x z) :: S) σ Q := oS3 hf rfl rfl (if_neg hz)
theorem pRem {x z : Int} (hf : oFet y pc = some (.irem, 1)) (hz : z ≠ 0) : oE d y pc L (.inl z :: .inl x :: S) σ Q = oE d y (pc + 1) L (.inl (oRem x z) :: S) σ Q := oS3 hf rfl rfl (if_neg hz)
theorem pGoto {off : Int} {t : Nat} (hf : oFet y pc = some (.goto off, 3)) (hj : oJmp pc off = some t) : oE d y pc L S σ Q = oE d y t L S σ Q := oS5 hf rfl rfl rfl rfl (by
  show oTo L S (oJmp pc off) = _
  rw [hj]; rfl)
theorem pNnl {off : Int} {t a : Nat} (hf : oFet y pc = some (.ifnonnull off, 3)) (hj : oJmp pc off = some t) : oE d y pc L (.inr (.inr (.inl a)) :: S) σ Q = oE d y t L S σ Q := oS5 hf rfl rfl rfl rfl (by
  show oTo L S (oJmp pc off) = _
  rw [hj]; rfl)
theorem pGfI {a i ci k : Nat} (hf : oFet y pc = some (.getfield i, 3)) (ho : (oMt y).2.2.2.2.1 = own) (hl : oFld own i = some (ci, k)) (hi : oIsI ci k = true) (hn : k < oLen ci) (hk : oKd a = some ci) : oE d y pc L (.inr (.inr (.inl a)) :: S) σ Q = oE d y (pc + 3) L (.inl (σ.1 a k) :: S) σ Q := by
  subst ho
  exact oGfI hf hl hi hn hk
theorem pGfR {a i ci k : Nat} (hf : oFet y pc = some (.getfield i, 3)) (ho : (oMt y).2.2.2.2.1 = own) (hl : oFld own i = some (ci, k)) (hi : oIsI ci k = false) (hn : k < oLen ci) (hk : oKd a = some ci) : oE d y pc L (.inr (.inr (.inl a)) :: S) σ Q = oE d y (pc + 3) L (.inr (.inr (.inl (oRf a k))) :: S) σ Q := by
  subst ho
  exact oGfR hf hl hi hn hk
theorem pPfI {a i ci k : Nat} {v : Int} (hf : oFet y pc = some (.putfield i, 3)) (ho : (oMt y).2.2.2.2.1 = own) (hl : oFld own i = some (ci, k)) (hi : oIsI ci k = true) (hn : k < oLen ci) (hfin : oFin ci k = false) (hv : oFits (oTy ci k) (.inl v) = true) (hk : oKd a = some ci) : oE d y pc L (.inl v :: .inr (.inr (.inl a)) :: S) σ Q = oE d y (pc + 3) L S (oSF σ a k v) Q := by
  subst ho
  exact oPfI hf hl hi hn hfin hk hv
theorem pLdcW {i : Nat} {z : Int} (hf : oFet y pc = some (.ldc_w i, 3)) (ho : (oMt y).2.2.2.2.1 = own) (hk : oKonI own i = some z) : oE d y pc L S σ Q = oE d y (pc + 3) L (.inl z :: S) σ Q := by
  subst ho
  exact oLdcW hf hk
theorem pLdc2 {i : Nat} {z : Int} (hf : oFet y pc = some (.ldc2_w i, 3)) (ho : (oMt y).2.2.2.2.1 = own) (hk : oKonL own i = some z) : oE d y pc L S σ Q = oE d y (pc + 3) L (.inr (.inl z) :: S) σ Q := by
  subst ho
  exact oLdc2 hf hk
theorem pMax {i : Nat} {x w : Int} (hf : oFet y pc = some (.invokestatic i, 3)) (ho : (oMt y).2.2.2.2.1 = own) (hl : oLink own i = some (6, 0)) (hs : oSmall S = true) : oE d y pc L (.inl w :: .inl x :: S) σ Q = oE d y (pc + 3) L (.inl (if x < w then w else x) :: S) σ Q := by
  subst ho
  exact oMaxR hf hl hs
theorem pMin {i : Nat} {x w : Int} (hf : oFet y pc = some (.invokestatic i, 3)) (ho : (oMt y).2.2.2.2.1 = own) (hl : oLink own i = some (7, 0)) (hs : oSmall S = true) : oE d y pc L (.inl w :: .inl x :: S) σ Q = oE d y (pc + 3) L (.inl (if w < x then w else x) :: S) σ Q := by
  subst ho
  exact oMinR hf hl hs
theorem pCpy {i a b t : Nat} {sp dp n : Int} (hf : oFet y pc = some (.invokestatic i, 3)) (ho : (oMt y).2.2.2.2.1 = own) (hl : oLink own i = some (5, 0)) (ha : oAk a = some t) (hb : oAk b = some t) (ht : t < 2) (hs : oSmall S = true) (g1 : 0 ≤ sp) (g2 : 0 ≤ dp) (g3 : 0 ≤ n) (g4 : sp + n ≤ (oLn a : Int)) (g5 : dp + n ≤ (oLn b : Int)) : oE d y pc L (.inl n :: .inl dp :: .inr (.inr (.inl b)) :: .inl sp :: .inr (.inr (.inl a)) :: S) σ Q = oE d y (pc + 3) L S (oCp σ a sp b dp n) Q := by
  subst ho
  exact oCpy hf hl hs ha hb ht g1 g2 g3 g4 g5
theorem pCallV {a i z n ci : Nat} {as : List oV} {v : Option oV} (hf : oFet y pc = some (.invokevirtual i, 3)) (ho : (oMt y).2.2.2.2.1 = own) (hl : oLink own i = some (0, z)) (hz : (oMt z).2.2.2.2.1 = ci ∧ (oMt z).2.2.2.2.2.1 = n ∧ (oMt z).2.2.2.2.2.2.1 = false) (hd : S.drop n = .inr (.inr (.inl a)) :: S') (ht : (S.take n).length = n) (has : .inr (.inr (.inl a)) :: (S.take n).reverse = as) (hk : oKd a = some ci) (hs : oSmall S' = true) (hm : oMi d z as σ v σ') : oE d y pc L S σ Q = oE d y (pc + 3) L (v.toList ++ S') σ' Q := by
  subst ho
  exact oCallV hf hl hz hd ht hk hs has hm
theorem pCallS {i z n : Nat} {as : List oV} {v : Option oV} (hf : oFet y pc = some (.invokestatic i, 3)) (ho : (oMt y).2.2.2.2.1 = own) (hl : oLink own i = some (1, z)) (hz : (oMt z).2.2.2.2.2.1 = n ∧ (oMt z).2.2.2.2.2.2.1 = true) (hd : S.drop n = S') (ht : (S.take n).length = n) (has : (S.take n).reverse = as) (hs : oSmall S' = true) (hm : oMi d z as σ v σ') : oE d y pc L S σ Q = oE d y (pc + 3) L (v.toList ++ S') σ' Q := by
  subst ho
  exact oCallS hf hl hz hd ht hs has hm
/-- a method out of its body -/
theorem pMeth {as Le : List oV} {v : Option oV} {nL : Nat} (hmk : oMk y as = (0, 0)) (hnl : (oMt y).2.2.1 = nL) (hlen : (oArg as).length ≤ nL) (he : oEnt nL as = Le) (h : oE d y 0 Le [] σ (oEnd v σ')) : oMi (d + 1) y as σ v σ' := by
  subst hnl
  subst he
  exact oMi_of hmk hlen h
end ORM
