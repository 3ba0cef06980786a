/-! shrunk: the merged net -/
theorem mrg {τ : oSg} {n : Nat} {p t : Int} (hn : τ.1 55 0 = n) (n7 : n ≤ 7) (hp : 0 ≤ p ∧ p < n) (ht : 0 ≤ t ∧ t < n) (hpt : ¬ p = t) (sy : ∀ a b, nW (τ.2 56) a b = nW (τ.2 56) b a) (dg : ∀ a, nW (τ.2 56) a a = 0) : ∀ m, m ≤ n → (∀ a b, nW ((sMerge τ 55 p t m).2 56) a b = nW ((sMerge τ 55 p t m).2 56) b a) ∧ (∀ a, nW ((sMerge τ 55 p t m).2 56) a a = 0) ∧ (∀ y, 0 < nW ((sMerge τ 55 p t m).2 56) p y ↔ 0 < nW (τ.2 56) p y ∧ ¬ y < m) ∧ ∀ x y, ¬ x = p → ¬ y = p → (0 < nW ((sMerge τ 55 p t m).2 56) x y ↔ 0 < nW (τ.2 56) x y ∨ (x = t ∧ ¬ y = t ∧ y < m ∧ 0 < nW (τ.2 56) p y) ∨ (y = t ∧ ¬ x = t ∧ x < m ∧ 0 < nW (τ.2 56) p x))
  | 0, _ => by
    have neg : ∀ y : Int, y < ((0 : Nat) : Int) → ¬ 0 < nW (τ.2 56) p y := fun y hy => by
      unfold nW
      rw [if_neg (by omega)]
      omega
    refine ⟨sy, dg, fun y => ⟨fun z => ⟨z, fun w => neg y w z⟩, fun z => z.1⟩, fun x y _ _ => ⟨fun z => Or.inl z, ?_⟩⟩
    rintro (z | ⟨-, -, z1, z2⟩ | ⟨-, -, z1, z2⟩)
    · exact z
    · exact absurd z2 (neg y z1)
    · exact absurd z2 (neg x z1)
  | m + 1, hm => by
    obtain ⟨i1, i2, i3, i4⟩ := mrg hn n7 hp ht hpt sy dg m (by omega)
    have e : sMerge τ 55 p t (m + 1) = if 0 < nW ((sMerge τ 55 p t m).2 (oRf 55 1)) p m then nSet (nSet (sMerge τ 55 p t m) 55 t m 1) 55 p m 0 else sMerge τ 55 p t m := rfl
    rw [rf_55_1] at e
    have h1 : (sMerge τ 55 p t m).1 55 0 = n := by rw [sMerge_1, hn]
    by_cases c : 0 < nW ((sMerge τ 55 p t m).2 56) p m
    · rw [e, if_pos c]
      have cp := (i3 m).mp c
      have mp : ¬ (m : Int) = p := fun z => by
        rw [z, i2] at c
        omega
      -- the weights after
      have w2 : ∀ x y, nW ((nSet (nSet (sMerge τ 55 p t m) 55 t m 1) 55 p m 0).2 56) x y = if (x = p ∧ y = m) ∨ (x = m ∧ y = p) then 0 else if ¬ (m : Int) = t ∧ ((x = t ∧ y = m) ∨ (x = m ∧ y = t)) then 1 else nW ((sMerge τ 55 p t m).2 56) x y := fun x y => by
        have a := nSet_w (σ := nSet (sMerge τ 55 p t m) 55 t m 1) (a := 55) (i := p) (j := (m : Int)) (w := 0) (by rw [nSet_1, h1]; exact ⟨⟨by omega, by omega, by omega⟩, ⟨by omega, by omega, by omega⟩, fun z => mp z.symm⟩) x y
        rw [rf_55_1] at a
        rw [a]
        by_cases q1 : (x = p ∧ y = (m : Int)) ∨ (x = (m : Int) ∧ y = p)
        · rw [if_pos q1, if_pos q1]
        · rw [if_neg q1, if_neg q1]
          by_cases mt : (m : Int) = t
          · rw [if_neg (fun z => z.1 mt)]
            have no : nSet (sMerge τ 55 p t m) 55 t m 1 = sMerge τ 55 p t m := by
              unfold nSet
              rw [if_neg (fun z => z.2.2 mt.symm)]
            rw [no]
          · have b := nSet_w (σ := sMerge τ 55 p t m) (a := 55) (i := t) (j := (m : Int)) (w := 1) (by rw [h1]; exact ⟨⟨by omega, by omega, by omega⟩, ⟨by omega, by omega, by omega⟩, fun z => mt z.symm⟩) x y
            rw [rf_55_1] at b
            rw [b]
            by_cases q2 : (x = t ∧ y = (m : Int)) ∨ (x = (m : Int) ∧ y = t)
            · rw [if_pos q2, if_pos ⟨mt, q2⟩]
            · rw [if_neg q2, if_neg (fun z => q2 z.2)]
      refine ⟨fun x y => ?_, fun x => ?_, fun y => ?_, fun x y hx hy => ?_⟩
      · rw [w2, w2, i1 x y]
        by_cases q1 : (x = p ∧ y = (m : Int)) ∨ (x = (m : Int) ∧ y = p)
        · rw [if_pos q1, if_pos (by omega)]
        · rw [if_neg q1, if_neg (show ¬ ((y = p ∧ x = (m : Int)) ∨ (y = (m : Int) ∧ x = p)) by omega)]
          by_cases q2 : ¬ (m : Int) = t ∧ ((x = t ∧ y = (m : Int)) ∨ (x = (m : Int) ∧ y = t))
          · rw [if_pos q2, if_pos (by omega)]
          · rw [if_neg q2, if_neg (by omega)]
      · rw [w2, if_neg (by omega), if_neg (by omega), i2]
      · rw [w2]
        by_cases ym : y = (m : Int)
        · rw [if_pos (Or.inl ⟨rfl, ym⟩)]
          constructor
          · intro z; omega
          · rintro ⟨-, z⟩
            omega
        · rw [if_neg (by omega), if_neg (by omega), i3]
          exact ⟨fun z => ⟨z.1, by omega⟩, fun z => ⟨z.1, by omega⟩⟩
      · rw [w2, if_neg (by omega)]
        by_cases q2 : ¬ (m : Int) = t ∧ ((x = t ∧ y = (m : Int)) ∨ (x = (m : Int) ∧ y = t))
        · rw [if_pos q2]
          refine ⟨fun _ => ?_, fun _ => by omega⟩
          obtain ⟨q, q3 | q3⟩ := q2
          · exact Or.inr (Or.inl ⟨q3.1, by omega, by omega, by rw [q3.2]; exact cp.1⟩)
          · exact Or.inr (Or.inr ⟨q3.2, by omega, by omega, by rw [q3.1]; exact cp.1⟩)
        · rw [if_neg q2, i4 x y hx hy]
          constructor
          · rintro (z | ⟨z1, z2, z3, z4⟩ | ⟨z1, z2, z3, z4⟩)
            · exact Or.inl z
            · exact Or.inr (Or.inl ⟨z1, z2, by omega, z4⟩)
            · exact Or.inr (Or.inr ⟨z1, z2, by omega, z4⟩)
          · rintro (z | ⟨z1, z2, z3, z4⟩ | ⟨z1, z2, z3, z4⟩)
            · exact Or.inl z
            · exact Or.inr (Or.inl ⟨z1, z2, by omega, z4⟩)
            · exact Or.inr (Or.inr ⟨z1, z2, by omega, z4⟩)
    · rw [e, if_neg c]
      have cp : ¬ 0 < nW (τ.2 56) p m := fun z => c ((i3 m).mpr ⟨z, by omega⟩)
      refine ⟨i1, i2, fun y => ?_, fun x y hx hy => ?_⟩
      · rw [i3]
        constructor
        · rintro ⟨z1, z2⟩
          refine ⟨z1, fun w => ?_⟩
          have : y = (m : Int) := by omega
          rw [this] at z1
          exact cp z1
        · rintro ⟨z1, z2⟩
          exact ⟨z1, by omega⟩
      · rw [i4 x y hx hy]
        constructor
        · rintro (z | ⟨z1, z2, z3, z4⟩ | ⟨z1, z2, z3, z4⟩)
          · exact Or.inl z
          · exact Or.inr (Or.inl ⟨z1, z2, by omega, z4⟩)
          · exact Or.inr (Or.inr ⟨z1, z2, by omega, z4⟩)
        · rintro (z | ⟨z1, z2, z3, z4⟩ | ⟨z1, z2, z3, z4⟩)
          · exact Or.inl z
          · refine Or.inr (Or.inl ⟨z1, z2, ?_, z4⟩)
            rcases Int.lt_or_le y m with w | w
            · exact w
            · have : y = (m : Int) := by omega
              rw [this] at z4
              exact absurd z4 cp
          · refine Or.inr (Or.inr ⟨z1, z2, ?_, z4⟩)
            rcases Int.lt_or_le x m with w | w
            · exact w
            · have : x = (m : Int) := by omega
              rw [this] at z4
              exact absurd z4 cp
/-- one of the first m of the ring but the base -/
def inR (P : Nat → Int) (b m : Nat) (x : Int) : Prop := ∃ k, k < m ∧ x = P (b + 1 + k)
/-- linked to one of them -/
def toR (W : Int → Int → Int) (P : Nat → Int) (b m : Nat) (x : Int) : Prop := ∃ k, k < m ∧ 0 < W (P (b + 1 + k)) x
theorem shr_w {σ : oSg} {n a b : Nat} {W : Int → Int → Int} {P : Nat → Int} (hN : cNet σ 2) (hn : σ.1 2 0 = n) (n7 : n ≤ 7) (hW : nW (σ.2 3) = W) (gw : GW n W) (ha : σ.1 63 0 = a) (a7 : a ≤ 7) (hP : ∀ j, j < a → σ.2 64 j = P j) (r : ∀ j, j < a → 0 ≤ P j ∧ P j < n) (ds : ∀ i j, i < j → j < a → ¬ P i = P j) (hb : b < a) : ∀ m, b + 1 + m ≤ a → (∀ x y, nW ((sShr σ b n m).2 56) x y = nW ((sShr σ b n m).2 56) y x) ∧ (∀ x, nW ((sShr σ b n m).2 56) x x = 0) ∧ ∀ x y, 0 < nW ((sShr σ b n m).2 56) x y ↔ ¬ inR P b m x ∧ ¬ inR P b m y ∧ (0 < W x y ∨ (x = P b ∧ ¬ y = P b ∧ toR W P b m y) ∨ (y = P b ∧ ¬ x = P b ∧ toR W P b m x))
  | 0, _ => by
    have w : ∀ x y, nW ((sShr σ b n 0).2 56) x y = W x y := fun x y => by
      show nW ((sOth σ).2 56) x y = _
      rw [sOth_w, hW]
    refine ⟨fun x y => by rw [w, w, gw.2.1], fun x => by rw [w, gw.2.2.1], fun x y => ?_⟩
    rw [w]
    refine ⟨fun z => ⟨fun ⟨k, hk, _⟩ => absurd hk (Nat.not_lt_zero k), fun ⟨k, hk, _⟩ => absurd hk (Nat.not_lt_zero k), Or.inl z⟩, ?_⟩
    rintro ⟨-, -, z | ⟨-, -, k, hk, -⟩ | ⟨-, -, k, hk, -⟩⟩
    · exact z
    · exact absurd hk (Nat.not_lt_zero k)
    · exact absurd hk (Nat.not_lt_zero k)
  | m + 1, hm => by
    obtain ⟨i1, i2, i3⟩ := shr_w hN hn n7 hW gw ha a7 hP r ds hb m (by omega)
    obtain ⟨k1, k2, k3⟩ := sShr_N hN b n m
    have e1 : nP σ ((b + 1 + m : Nat) : Int) = P (b + 1 + m) := by rw [nP_of ha a7 (by omega), hP _ (by omega)]
    have e2 : nP σ (b : Int) = P b := by rw [nP_of ha a7 (by omega), hP _ (by omega)]
    have e : sShr σ b n (m + 1) = sMerge (sShr σ b n m) 55 (P (b + 1 + m)) (P b) n := by
      show sMerge (sShr σ b n m) 55 (nP σ ((b + 1 + m : Nat) : Int)) (nP σ b) n = _
      rw [e1, e2]
    have rp := r (b + 1 + m) (by omega)
    have rb := r b (by omega)
    have dp : ¬ P (b + 1 + m) = P b := fun z => ds b (b + 1 + m) (by omega) (by omega) z.symm
    obtain ⟨j1, j2, j3, j4⟩ := mrg (τ := sShr σ b n m) (n := n) (p := P (b + 1 + m)) (t := P b) (by rw [k2, oSF_s, hn]) n7 rp rb dp i1 i2 n (Nat.le_refl n)
    rw [e]
    have np : ¬ inR P b m (P (b + 1 + m)) := fun ⟨k, hk, z⟩ => ds (b + 1 + k) (b + 1 + m) (by omega) (by omega) z.symm
    have nb : ¬ inR P b m (P b) := fun ⟨k, hk, z⟩ => ds b (b + 1 + k) (by omega) (by omega) z
    have sR : ∀ x, inR P b (m + 1) x ↔ inR P b m x ∨ x = P (b + 1 + m) := fun x => by
      constructor
      · rintro ⟨k, hk, z⟩
        by_cases c : k = m
        · rw [c] at z
          exact Or.inr z
        · exact Or.inl ⟨k, by omega, z⟩
      · rintro (⟨k, hk, z⟩ | z)
        · exact ⟨k, by omega, z⟩
        · exact ⟨m, by omega, z⟩
    have sT : ∀ x, toR W P b (m + 1) x ↔ toR W P b m x ∨ 0 < W (P (b + 1 + m)) x := fun x => by
      constructor
      · rintro ⟨k, hk, z⟩
        by_cases c : k = m
        · rw [c] at z
          exact Or.inr z
        · exact Or.inl ⟨k, by omega, z⟩
      · rintro (⟨k, hk, z⟩ | z)
        · exact ⟨k, by omega, z⟩
        · exact ⟨m, by omega, z⟩
    have out : ∀ y, ¬ 0 < nW ((sMerge (sShr σ b n m) 55 (P (b + 1 + m)) (P b) n).2 56) (P (b + 1 + m)) y := fun y z => by
      obtain ⟨z1, z2⟩ := (j3 y).mp z
      obtain ⟨-, -, z3⟩ := (i3 _ y).mp z1
      rcases z3 with z3 | ⟨z3, -, -⟩ | ⟨z3, -, -⟩
      · have := gw.2.2.2 y (P (b + 1 + m)) (by omega)
        rw [gw.2.1] at this
        omega
      · exact dp z3
      · omega
    have lp : ∀ y, ¬ y = P b → (0 < nW ((sShr σ b n m).2 56) (P (b + 1 + m)) y ↔ ¬ inR P b m y ∧ 0 < W (P (b + 1 + m)) y) := fun y hy => by
      rw [i3]
      constructor
      · rintro ⟨-, z2, z3 | ⟨z3, -, -⟩ | ⟨z3, -, -⟩⟩
        · exact ⟨z2, z3⟩
        · exact absurd z3 dp
        · exact absurd z3 hy
      · rintro ⟨z1, z2⟩
        exact ⟨np, z1, Or.inl z2⟩
    refine ⟨j1, j2, fun x y => ?_⟩
    by_cases xp : x = P (b + 1 + m)
    · refine ⟨fun z => ?_, fun z => absurd ((sR x).mpr (Or.inr xp)) z.1⟩
      rw [xp] at z
      exact absurd z (out y)
    · by_cases yp : y = P (b + 1 + m)
      · refine ⟨fun z => ?_, fun z => absurd ((sR y).mpr (Or.inr yp)) z.2.1⟩
        rw [yp, j1] at z
        exact absurd z (out x)
      · have yn : 0 < W (P (b + 1 + m)) y → y < n := fun z => by
          have := gw.2.2.2 y (P (b + 1 + m))
          rw [gw.2.1] at this
          omega
        have xn : 0 < W (P (b + 1 + m)) x → x < n := fun z => by
          have := gw.2.2.2 x (P (b + 1 + m))
          rw [gw.2.1] at this
          omega
        rw [j4 x y xp yp, i3 x y, sR x, sR y, sT x, sT y]
        constructor
        · rintro (⟨z1, z2, z3⟩ | ⟨z1, z2, z3, z4⟩ | ⟨z1, z2, z3, z4⟩)
          · refine ⟨fun z => z.elim z1 xp, fun z => z.elim z2 yp, ?_⟩
            rcases z3 with z3 | ⟨q1, q2, q3⟩ | ⟨q1, q2, q3⟩
            · exact Or.inl z3
            · exact Or.inr (Or.inl ⟨q1, q2, Or.inl q3⟩)
            · exact Or.inr (Or.inr ⟨q1, q2, Or.inl q3⟩)
          · obtain ⟨w1, w2⟩ := (lp y z2).mp z4
            exact ⟨fun z => z.elim (by rw [z1]; exact nb) xp, fun z => z.elim w1 yp, Or.inr (Or.inl ⟨z1, z2, Or.inr w2⟩)⟩
          · obtain ⟨w1, w2⟩ := (lp x z2).mp z4
            exact ⟨fun z => z.elim w1 xp, fun z => z.elim (by rw [z1]; exact nb) yp, Or.inr (Or.inr ⟨z1, z2, Or.inr w2⟩)⟩
        · rintro ⟨z1, z2, z3⟩
          have x1 : ¬ inR P b m x := fun z => z1 (Or.inl z)
          have y1 : ¬ inR P b m y := fun z => z2 (Or.inl z)
          rcases z3 with z3 | ⟨q1, q2, q3 | q3⟩ | ⟨q1, q2, q3 | q3⟩
          · exact Or.inl ⟨x1, y1, Or.inl z3⟩
          · exact Or.inl ⟨x1, y1, Or.inr (Or.inl ⟨q1, q2, q3⟩)⟩
          · exact Or.inr (Or.inl ⟨q1, q2, yn q3, (lp y q2).mpr ⟨y1, q3⟩⟩)
          · exact Or.inl ⟨x1, y1, Or.inr (Or.inr ⟨q1, q2, q3⟩)⟩
          · exact Or.inr (Or.inr ⟨q1, q2, xn q3, (lp x q2).mpr ⟨x1, q3⟩⟩)

