/-! the law: small steps -/
/-- its places: the script, the class, the model, where it stands -/
abbrev lLs (i : Nat) : List oV := [.inr (.inr (.inr 1)), .inr (.inr (.inl 0)), .inr (.inr (.inl 68)), .inl (i : Int)]
section LST
variable {L : Nat} {f : Nat → Int} {p i : Nat} {S : List oV} {σ : oSg}
theorem lE_a0 (h : oFet 226 p = some (.aload_n 0, 1)) (g : lE L f (p + 1) (lLs i) (.inr (.inr (.inr 1)) :: S) σ) : lE L f p (lLs i) S σ := lE_go (fun call => (oStep_of h).trans (oIns1 rfl)) g
theorem lE_a1 (h : oFet 226 p = some (.aload_n 1, 1)) (g : lE L f (p + 1) (lLs i) (.inr (.inr (.inl 0)) :: S) σ) : lE L f p (lLs i) S σ := lE_go (fun call => (oStep_of h).trans (oIns1 rfl)) g
theorem lE_a2 (h : oFet 226 p = some (.aload_n 2, 1)) (g : lE L f (p + 1) (lLs i) (.inr (.inr (.inl 68)) :: S) σ) : lE L f p (lLs i) S σ := lE_go (fun call => (oStep_of h).trans (oIns1 rfl)) g
theorem lE_i3 (h : oFet 226 p = some (.iload_n 3, 1)) (g : lE L f (p + 1) (lLs i) (.inl (i : Int) :: S) σ) : lE L f p (lLs i) S σ := lE_go (fun call => (oStep_of h).trans (oIns1 rfl)) g
theorem lE_at (h : oFet 226 p = some (.iaload, 1)) {k : Nat} (hk : k < L) (g : lE L f (p + 1) (lLs i) (.inl (f k) :: S) σ) : lE L f p (lLs i) (.inl (k : Int) :: .inr (.inr (.inr 1)) :: S) σ := by
  refine lE_go (fun call => (oStep_of h).trans (oIns6 ⟨rfl, rfl, rfl, rfl, rfl⟩ ?_)) g
  show (if 0 ≤ (k : Int) ∧ (k : Int) + 1 < ((L + 1 : Nat) : Int) then some (Sum.inl (p + 1, lLs i, .inl (f (k : Int).toNat) :: S, oHb σ)) else none) = _
  rw [if_pos (by omega), Int.toNat_natCast]
theorem lE_k {n : Int} (h : oFet 226 p = some (.iconst n, 1)) (hn : -2147483648 ≤ n ∧ n < 2147483648) (g : lE L f (p + 1) (lLs i) (.inl n :: S) σ) : lE L f p (lLs i) S σ := lE_go (fun call => (oStep_of h).trans (oIns1 (if_pos hn))) g
theorem lE_gt {t : Nat} {o : Int} (h : oFet 226 p = some (.goto o, 3)) (ht : oJmp p o = some t) (g : lE L f t (lLs i) S σ) : lE L f p (lLs i) S σ := by
  refine lE_go (fun call => (oStep_of h).trans (oIns3 rfl rfl ?_)) g
  show oTo (lLs i) S (oJmp p o) = _
  rw [ht]
  rfl
end LST

