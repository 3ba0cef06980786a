/-! parts of a net: the two searches find the same part -/
abbrev tb (b i : Nat) : Prop := b.testBit i = true
theorem tb_or {a b i : Nat} : tb (a ||| b) i ↔ tb a i ∨ tb b i := by
  unfold tb
  rw [Nat.testBit_or, Bool.or_eq_true]
theorem tb_and {a b i : Nat} : tb (a &&& b) i ↔ tb a i ∧ tb b i := by
  unfold tb
  rw [Nat.testBit_and, Bool.and_eq_true]
theorem tb_dif {a b i : Nat} : tb (nDif a b) i ↔ tb a i ∧ ¬ tb b i := by
  unfold tb
  rw [nDif_t]
  cases a.testBit i <;> cases b.testBit i <;> decide
theorem tb_pow {p i : Nat} : tb (2 ^ p) i ↔ i = p := by
  unfold tb
  rw [Nat.testBit_two_pow, decide_eq_true_eq]
  exact ⟨fun z => z.symm, fun z => z.symm⟩
theorem tb_0 {i : Nat} : ¬ tb 0 i := by
  unfold tb
  rw [Nat.zero_testBit]
  decide
theorem tb_lt {b i : Nat} (h : b < 128) (t : tb b i) : i < 7 := by
  rcases Nat.lt_or_ge i 7 with c | c
  · exact c
  · have : b < 2 ^ i := Nat.lt_of_lt_of_le h (Nat.pow_le_pow_right (n := 2) (by decide) c)
    rw [tb, Nat.testBit_lt_two_pow this] at t
    exact absurd t (by decide)
theorem tb_eq {a b : Nat} (h : ∀ i, tb a i ↔ tb b i) : a = b := by
  apply Nat.eq_of_testBit_eq
  intro i
  have := h i
  unfold tb at this
  cases ha : a.testBit i <;> cases hb : b.testBit i <;> rw [ha, hb] at this <;> first | rfl | exact absurd (this.mp rfl) (by decide) | exact absurd (this.mpr rfl) (by decide)
theorem tb_rst_chk : ∀ b : Fin 128, 0 < b.val → ∀ q : Fin 7, (nRst b.val).testBit q.val = (b.val.testBit q.val && decide (¬ q.val = nLow b.val)) := by decide +kernel
theorem tb_rst {b q : Nat} (h0 : 0 < b) (h : b < 128) (hq : q < 7) : tb (nRst b) q ↔ tb b q ∧ ¬ q = nLow b := by
  have := tb_rst_chk ⟨b, h⟩ h0 ⟨q, hq⟩
  dsimp only at this
  unfold tb
  rw [this, Bool.and_eq_true, decide_eq_true_eq]
theorem nSz_more : ∀ a : Fin 128, ∀ x : Fin 7, a.val.testBit x.val = false → nSz (a.val ||| 2 ^ x.val) = nSz a.val + 1 := by decide +kernel
theorem nSz_all : ∀ a b : Fin 128, nSz (nDif a.val b.val) = 7 → b.val = 0 := by decide +kernel
def cl (L : Nat → Nat) (so C : Nat) : Prop := ∀ i j, tb C i → tb (L i) j → tb so j → tb C j
/-- the least closed set that holds p -/
def lst (L : Nat → Nat) (so p C : Nat) : Prop := tb C p ∧ cl L so C ∧ ∀ D, tb D p → cl L so D → ∀ i, tb C i → tb D i
theorem lst_u {L : Nat → Nat} {so p C D : Nat} (h : lst L so p C) (g : lst L so p D) : C = D := tb_eq (fun i => ⟨h.2.2 D g.1 g.2.1 i, g.2.2 C h.1 h.2.1 i⟩)
theorem rPt_inv {L : Nat → Nat} {bits p : Nat} (hL : ∀ j, j < 7 → L j < 128) (hb : bits < 128) (hp : p < 7) : ∀ m, tb (rPt L bits p m).1 p ∧ (∀ i, tb (rPt L bits p m).2 i → tb (rPt L bits p m).1 i) ∧ (∀ i j, tb (rPt L bits p m).1 i → ¬ tb (rPt L bits p m).2 i → tb (L i) j → tb bits j → tb (rPt L bits p m).1 j) ∧ (∀ D, tb D p → cl L bits D → ∀ i, tb (rPt L bits p m).1 i → tb D i) ∧ ((rPt L bits p m).2 = 0 ∨ nSz (nDif (rPt L bits p m).1 (rPt L bits p m).2) = m)
  | 0 => by
    have e : rPt L bits p 0 = (2 ^ p, 2 ^ p) := rfl
    rw [e]
    refine ⟨tb_pow.mpr rfl, fun i h => h, fun i j h g => absurd h g, fun D hD _ i h => by rw [tb_pow.mp h]; exact hD, Or.inr ?_⟩
    have : nDif (2 ^ p) (2 ^ p) = 0 := tb_eq (fun i => ⟨fun z => absurd (tb_dif.mp z).1 (tb_dif.mp z).2, fun z => absurd z tb_0⟩)
    show nSz (nDif (2 ^ p) (2 ^ p)) = 0
    rw [this]
    rfl
  | m + 1 => by
    obtain ⟨i1, i2, i3, i4, i5⟩ := rPt_inv hL hb hp m
    obtain ⟨l1, l2⟩ := rPt_lt hL hb hp m
    have e : rPt L bits p (m + 1) = if (rPt L bits p m).2 = 0 then rPt L bits p m else ((rPt L bits p m).1 ||| nDif (L (nLow (rPt L bits p m).2) &&& bits) (rPt L bits p m).1, nRst (rPt L bits p m).2 ||| nDif (L (nLow (rPt L bits p m).2) &&& bits) (rPt L bits p m).1) := rfl
    rw [e]
    generalize rPt L bits p m = R at *
    obtain ⟨S, T⟩ := R
    dsimp only at *
    by_cases c : T = 0
    · rw [if_pos c]
      exact ⟨i1, i2, i3, i4, Or.inl c⟩
    · rw [if_neg c]
      dsimp only
      have T0 : 0 < T := Nat.pos_of_ne_zero c
      have x6 := nLow_le T0 l2
      have xT := nLow_t T0 l2
      have hN : ∀ i, tb (nDif (L (nLow T) &&& bits) S) i ↔ (tb (L (nLow T)) i ∧ tb bits i) ∧ ¬ tb S i := fun i => by rw [tb_dif, tb_and]
      have hr : ∀ i, tb S i → (tb (nRst T) i ↔ tb T i ∧ ¬ i = nLow T) := fun i h => tb_rst T0 l2 (tb_lt l1 h)
      have r0 : ∀ i, tb (nRst T) i → tb T i := fun i h => ((tb_rst T0 l2 (tb_lt (nRst_lt2 T0 l2) h)).mp h).1
      refine ⟨tb_or.mpr (Or.inl i1), fun i h => ?_, fun i j h g a b => ?_, fun D d1 d2 i h => ?_, Or.inr ?_⟩
      · rcases tb_or.mp h with z | z
        · exact tb_or.mpr (Or.inl (i2 i (r0 i z)))
        · exact tb_or.mpr (Or.inr z)
      · have hn : ¬ tb (nRst T) i := fun z => g (tb_or.mpr (Or.inl z))
        have hS : tb S i := by
          rcases tb_or.mp h with z | z
          · exact z
          · exact absurd (tb_or.mpr (Or.inr z)) g
        by_cases y : i = nLow T
        · subst y
          by_cases w : tb S j
          · exact tb_or.mpr (Or.inl w)
          · exact tb_or.mpr (Or.inr ((hN j).mpr ⟨⟨a, b⟩, w⟩))
        · exact tb_or.mpr (Or.inl (i3 i j hS (fun z => hn ((hr i hS).mpr ⟨z, y⟩)) a b))
      · rcases tb_or.mp h with z | z
        · exact i4 D d1 d2 i z
        · obtain ⟨⟨z1, z2⟩, -⟩ := (hN i).mp z
          exact d2 (nLow T) i (i4 D d1 d2 _ (i2 _ xT)) z1 z2
      · have e2 : nDif (S ||| nDif (L (nLow T) &&& bits) S) (nRst T ||| nDif (L (nLow T) &&& bits) S) = nDif S T ||| 2 ^ nLow T := by
          refine tb_eq (fun i => ?_)
          rw [tb_dif, tb_or, tb_or, hN, tb_or, tb_dif, tb_pow]
          constructor
          · rintro ⟨z1, z2⟩
            rcases z1 with z1 | z1
            · by_cases y : i = nLow T
              · exact Or.inr y
              · exact Or.inl ⟨z1, fun w => z2 (Or.inl ((hr i z1).mpr ⟨w, y⟩))⟩
            · exact absurd (Or.inr z1) z2
          · rintro (⟨z1, z2⟩ | z)
            · exact ⟨Or.inl z1, fun w => by
                rcases w with w | w
                · exact z2 (r0 i w)
                · exact w.2 z1⟩
            · have hS := i2 _ xT
              rw [z]
              exact ⟨Or.inl hS, fun w => by
                rcases w with w | w
                · exact ((hr _ hS).mp w).2 rfl
                · exact w.2 hS⟩
        rcases i5 with i5 | i5
        · exact absurd i5 c
        · have := nSz_more ⟨nDif S T, nDif_lt l1⟩ ⟨nLow T, by omega⟩ (by
            have : ¬ tb (nDif S T) (nLow T) := fun z => (tb_dif.mp z).2 xT
            exact Bool.not_eq_true _ ▸ this)
          dsimp only at this
          rw [e2, this, i5]
theorem rPt_lst {L : Nat → Nat} {bits p : Nat} (hL : ∀ j, j < 7 → L j < 128) (hb : bits < 128) (hp : p < 7) : lst L bits p (rPt L bits p 7).1 := by
  obtain ⟨i1, i2, i3, i4, i5⟩ := rPt_inv hL hb hp 7
  obtain ⟨l1, l2⟩ := rPt_lt hL hb hp 7
  have z : (rPt L bits p 7).2 = 0 := by
    rcases i5 with z | z
    · exact z
    · exact nSz_all ⟨_, l1⟩ ⟨_, l2⟩ z
  exact ⟨i1, fun i j a b c => i3 i j a (by rw [z]; exact tb_0) b c, i4⟩
theorem rCi_t {L : Nat → Nat} {so was b i : Nat} : ∀ m, tb (rCi L so was b m) i ↔ tb b i ∨ ∃ x, x < m ∧ tb was x ∧ tb (L x) i ∧ tb so i
  | 0 => ⟨fun z => Or.inl z, fun z => by
    rcases z with z | ⟨x, hx, -⟩
    · exact z
    · exact absurd hx (Nat.not_lt_zero x)⟩
  | m + 1 => by
    have ih := rCi_t (L := L) (so := so) (was := was) (b := b) (i := i) m
    unfold rCi
    by_cases c : was.testBit m = true
    · rw [if_pos c, tb_or, tb_and, ih]
      constructor
      · rintro ((z | ⟨x, hx, z⟩) | z)
        · exact Or.inl z
        · exact Or.inr ⟨x, by omega, z⟩
        · exact Or.inr ⟨m, by omega, c, z⟩
      · rintro (z | ⟨x, hx, y, z⟩)
        · exact Or.inl (Or.inl z)
        · by_cases xm : x = m
          · rw [xm] at z
            exact Or.inr z
          · exact Or.inl (Or.inr ⟨x, by omega, y, z⟩)
    · rw [if_neg c, ih]
      constructor
      · rintro (z | ⟨x, hx, z⟩)
        · exact Or.inl z
        · exact Or.inr ⟨x, by omega, z⟩
      · rintro (z | ⟨x, hx, y, z⟩)
        · exact Or.inl z
        · by_cases xm : x = m
          · rw [xm] at y
            exact absurd y c
          · exact Or.inr ⟨x, by omega, y, z⟩
theorem rCw_fix {L : Nat → Nat} {so : Nat} (hs : so < 128) : ∀ k b, b < 128 → 7 - nSz b < k → rCi L so (rCw L so k b) (rCw L so k b) 7 = rCw L so k b
  | 0, b, _, h => absurd h (Nat.not_lt_zero _)
  | k + 1, b, hb, h => by
    unfold rCw
    by_cases c : rCi L so b b 7 = b
    · rw [if_pos c]
      exact c
    · rw [if_neg c]
      have hl := rCi_lt (L := L) (was := b) hs hb 7
      have g := nSz_lt hb hl (nOr_sub (fun i hi => rCi_up 7 i hi)) (fun z => c z.symm)
      have := nSz_le (rCi L so b b 7)
      exact rCw_fix hs k _ hl (by omega)
theorem rCw_in {L : Nat → Nat} {so D : Nat} (hD : cl L so D) : ∀ k b, (∀ i, tb b i → tb D i) → ∀ i, tb (rCw L so k b) i → tb D i
  | 0, b, h => h
  | k + 1, b, h => by
    unfold rCw
    split
    · exact h
    · refine rCw_in hD k _ (fun i z => ?_)
      rcases (rCi_t 7).mp z with z | ⟨x, -, z1, z2, z3⟩
      · exact h i z
      · exact hD x i (h x z1) z2 z3
theorem rCw_lst {L : Nat → Nat} {so p : Nat} (hs : so < 128) (hp : p < 7) : lst L so p (rCw L so 8 (2 ^ p)) := by
  have hl : 2 ^ p < 128 := Nat.pow_lt_pow_right (by decide) hp
  have fx := rCw_fix (L := L) hs 8 (2 ^ p) hl (by omega)
  have rl := rCw_lt (L := L) hs 8 (2 ^ p) hl
  refine ⟨rCw_up 8 _ p (tb_pow.mpr rfl), fun i j a b c => ?_, fun D d1 d2 => rCw_in d2 8 _ (fun i z => by rw [tb_pow.mp z]; exact d1)⟩
  rw [← fx]
  exact (rCi_t 7).mpr (Or.inr ⟨i, tb_lt rl a, a, b, c⟩)
/-- in what is left the parts are those of the whole -/
theorem lst_left {L : Nat → Nat} {so left p C : Nat} (h1 : ∀ i, tb left i → tb so i) (h2 : cl L so left) (hp : tb left p) (h : lst L left p C) : lst L so p C := by
  obtain ⟨a, b, c⟩ := h
  have s : ∀ i, tb C i → tb left i := c left hp (fun i j _ _ z => z)
  exact ⟨a, fun i j x y z => b i j x y (h2 i j (s i x) y z), fun D d1 d2 => c D d1 (fun i j x y z => d2 i j x y (h1 j z))⟩
theorem rOm_st {L : Nat → Nat} {so : Nat} (hs : so < 128) : ∀ k k' b, b < 128 → nSz b < k → nSz b < k' → rOm L so k b = rOm L so k' b
  | 0, _, _, _, h, _ => absurd h (Nat.not_lt_zero _)
  | _ + 1, 0, _, _, _, h => absurd h (Nat.not_lt_zero _)
  | k + 1, k' + 1, b, hb, h, h' => by
    unfold rOm
    by_cases c : b = 0
    · rw [if_pos c, if_pos c]
    · rw [if_neg c, if_neg c]
      have b0 : 0 < b := Nat.pos_of_ne_zero c
      have l6 := nLow_le b0 hb
      have ls := rCw_lst (L := L) hs (p := nLow b) (by omega)
      have rl := rCw_lt (L := L) hs 8 (2 ^ nLow b) (Nat.pow_lt_pow_right (by decide) (by omega : nLow b < 7))
      have sz := nSz_dif hb rl b0 ls.1
      rw [rOm_st hs k k' _ (nDif_lt hb) (by omega) (by omega)]
theorem od_om {L : Nat → Nat} {b : Nat} (hL : ∀ j, j < 7 → L j < 128) (hs : ∀ i j, i < 7 → j < 7 → tb (L i) j → tb (L j) i) (hb : b < 128) : ∀ p, p ≤ 7 → (∀ i, tb (rOd L b p).2 i → tb b i) ∧ cl L b (rOd L b p).2 ∧ (∀ i, i < p → ¬ tb (rOd L b p).2 i) ∧ ∀ k, nSz (rOd L b p).2 < k → (rOd L b p).1 + rOm L b k (rOd L b p).2 = rOm L b 8 b
  | 0, _ => ⟨fun _ h => h, fun _ _ _ _ z => z, fun i hi => absurd hi (Nat.not_lt_zero i), fun k hk => by
    have := nSz_le b
    show 0 + rOm L b k b = _
    rw [Nat.zero_add]
    exact rOm_st hb k 8 b hb hk (by omega)⟩
  | p + 1, hp => by
    obtain ⟨i1, i2, i3, i4⟩ := od_om hL hs hb p (by omega)
    have l1 := (rOd_bd (L := L) hb p).2
    have e : rOd L b (p + 1) = if (rOd L b p).2.testBit p then ((rOd L b p).1 + nSz (rPt L (rOd L b p).2 p 7).1 % 2, nDif (rOd L b p).2 (rPt L (rOd L b p).2 p 7).1) else rOd L b p := rfl
    rw [e]
    generalize rOd L b p = R at *
    obtain ⟨c, left⟩ := R
    dsimp only at *
    by_cases t : left.testBit p = true
    · rw [if_pos t]
      dsimp only
      have pl := rPt_lst hL l1 (show p < 7 by omega)
      have ps := lst_left i1 i2 t pl
      have pl2 := (rPt_lt hL l1 (show p < 7 by omega) 7).1
      have lo := low_of l1 (by omega) (fun q hq => Bool.not_eq_true _ ▸ i3 q hq) t
      have cw : rCw L b 8 (2 ^ p) = (rPt L left p 7).1 := lst_u (rCw_lst hb (by omega)) ps
      have sz := nSz_dif l1 pl2 lo.1 (by rw [lo.2.1]; exact pl.1)
      refine ⟨fun i h => i1 i (tb_dif.mp h).1, fun i j x y z => ?_, fun i hi h => ?_, fun k hk => ?_⟩
      · obtain ⟨x1, x2⟩ := tb_dif.mp x
        have jl := i2 i j x1 y z
        refine tb_dif.mpr ⟨jl, fun w => x2 (ps.2.1 j i w (hs i j (tb_lt l1 x1) (tb_lt l1 jl) y) (i1 i x1))⟩
      · obtain ⟨h1, h2⟩ := tb_dif.mp h
        by_cases ip : i = p
        · rw [ip] at h2
          exact h2 pl.1
        · exact i3 i (by omega) h1
      · have i4' := i4 9 (by have := nSz_le left; omega)
        have e9 : rOm L b 9 left = if left = 0 then 0 else nSz (rCw L b 8 (2 ^ nLow left)) % 2 + rOm L b 8 (nDif left (rCw L b 8 (2 ^ nLow left))) := rfl
        rw [e9, if_neg (by omega), lo.2.1, cw, rOm_st hb 8 k _ (nDif_lt l1) (by have := nSz_le left; omega) hk] at i4'
        omega
    · rw [if_neg t]
      refine ⟨i1, i2, fun i hi h => ?_, i4⟩
      by_cases ip : i = p
      · rw [ip] at h
        exact t h
      · exact i3 i (by omega) h
theorem od_eq {L : Nat → Nat} {b : Nat} (hL : ∀ j, j < 7 → L j < 128) (hs : ∀ i j, i < 7 → j < 7 → tb (L i) j → tb (L j) i) (hb : b < 128) : (rOd L b 7).1 = rOm L b 8 b := by
  obtain ⟨-, -, i3, i4⟩ := od_om hL hs hb 7 (Nat.le_refl _)
  have l1 := (rOd_bd (L := L) hb 7).2
  have z : (rOd L b 7).2 = 0 := tb_eq (fun i => ⟨fun h => absurd h (i3 i (tb_lt l1 h)), fun h => absurd h tb_0⟩)
  have := i4 1 (by rw [z]; decide)
  rw [z] at this
  have e : rOm L b 1 0 = 0 := if_pos rfl
  rw [e] at this
  omega

