/-! shrunk -/
theorem rAl_t {P : Nat → Int} {s i : Nat} : ∀ k, tb (rAl P s k) i ↔ ∃ j, j < k ∧ i = (P (s - 1 + j)).toNat
  | 0 => ⟨fun z => absurd z tb_0, fun ⟨j, hj, _⟩ => absurd hj (Nat.not_lt_zero j)⟩
  | k + 1 => by
    have ih := rAl_t (P := P) (s := s) (i := i) k
    unfold rAl
    rw [tb_or, ih, tb_pow]
    constructor
    · rintro (⟨j, hj, z⟩ | z)
      · exact ⟨j, by omega, z⟩
      · exact ⟨k, by omega, z⟩
    · rintro ⟨j, hj, z⟩
      by_cases c : j = k
      · rw [c] at z
        exact Or.inr z
      · exact Or.inl ⟨j, by omega, z⟩
theorem rTo_t {L : Nat → Nat} {all i : Nat} : ∀ p, tb (rTo L all p) i ↔ ∃ x, x < p ∧ tb all x ∧ tb (L x) i
  | 0 => ⟨fun z => absurd z tb_0, fun ⟨j, hj, _⟩ => absurd hj (Nat.not_lt_zero j)⟩
  | p + 1 => by
    have ih := rTo_t (L := L) (all := all) (i := i) p
    unfold rTo
    by_cases c : all.testBit p = true
    · rw [if_pos c, tb_or, ih]
      constructor
      · rintro (⟨x, hx, z⟩ | z)
        · exact ⟨x, by omega, z⟩
        · exact ⟨p, by omega, c, z⟩
      · rintro ⟨x, hx, y, z⟩
        by_cases xp : x = p
        · rw [xp] at z
          exact Or.inr z
        · exact Or.inl ⟨x, by omega, y, z⟩
    · rw [if_neg c, ih]
      constructor
      · rintro ⟨x, hx, z⟩
        exact ⟨x, by omega, z⟩
      · rintro ⟨x, hx, y, z⟩
        by_cases xp : x = p
        · rw [xp] at y
          exact absurd y c
        · exact ⟨x, by omega, y, z⟩
theorem and_0 {a b : Nat} (hb : b < 128) : ¬ (a &&& b) = 0 ↔ ∃ x, x < 7 ∧ tb a x ∧ tb b x := by
  constructor
  · intro z
    have h0 : 0 < (a &&& b) := Nat.pos_of_ne_zero z
    have hl : (a &&& b) < 128 := Nat.lt_of_le_of_lt Nat.and_le_right hb
    have t := tb_and.mp (nLow_t h0 hl)
    exact ⟨nLow (a &&& b), tb_lt hb t.2, t.1, t.2⟩
  · rintro ⟨x, -, z1, z2⟩ z
    have : tb (a &&& b) x := tb_and.mpr ⟨z1, z2⟩
    rw [z] at this
    exact tb_0 this
theorem Fr_merge (σ : oSg) (p t : Int) : ∀ m, Fr σ (sMerge σ 55 p t m)
  | 0 => Fr_r σ
  | m + 1 => by
    unfold sMerge
    split
    · exact Fr_t (Fr_t (Fr_merge σ p t m) (Fr_set55 _ _ _ _)) (Fr_set55 _ _ _ _)
    · exact Fr_merge σ p t m
theorem Fr_shr (σ : oSg) (b n : Nat) : ∀ m, Fr σ (sShr σ b n m)
  | 0 => Fr_oth σ
  | m + 1 => Fr_t (Fr_shr σ b n m) (Fr_merge _ _ _ _)
theorem shr_69 (σ : oSg) (b n : Nat) : ∀ m, (sShr σ b n m).2 69 = σ.2 69
  | 0 => oCp_ne _ (by decide)
  | m + 1 => by
    show (sMerge _ _ _ _ _).2 69 = _
    rw [sMerge_r _ _ _ (by rw [rf_55_1]; decide), shr_69 σ b n m]
theorem Fr_S77 (σ : oSg) (i : Nat) (v : Int) : Fr σ (oSA σ 77 i v) := ⟨fun q hq => oSA_ne _ _ _ (by omega), fun k _ => by rw [oSA_ne _ _ _ (by decide)], fun _ _ _ => rfl⟩
theorem Fr_shm (σ : oSg) (P : Nat → Int) (s r : Nat) : Fr σ (sShm σ P s r) := by
  unfold sShm
  refine Fr_t (Fr_t (Fr_lks σ) ?_) (Fr_S77 _ _ _)
  unfold sSk
  exact ⟨fun q hq => oSW_ne _ (by omega) _, fun k _ => by rw [oSW_ne _ (by decide)], fun _ _ _ => rfl⟩
section SHR
variable {W V : Int → Int → Int} {P : Nat → Int} {n a b : Nat} {K L : Nat → Nat}
/-- the same pairs in the merged net and in the model's shrunk one -/
theorem shr_P (n7 : n ≤ 7) (an : a ≤ 7) (ba : b < a) (gw : GW n W) (r : ∀ j, j < a → 0 ≤ P j ∧ P j < n) (ds : ∀ i j, i < j → j < a → ¬ P i = P j)
    (hV : ∀ x y, 0 < V x y ↔ ¬ inR P b (a - b - 1) x ∧ ¬ inR P b (a - b - 1) y ∧ (0 < W x y ∨ (x = P b ∧ ¬ y = P b ∧ toR W P b (a - b - 1) y) ∨ (y = P b ∧ ¬ x = P b ∧ toR W P b (a - b - 1) x)))
    (hL : ∀ l q : Nat, l < 7 → (tb (L l) q ↔ q < 7 ∧ 0 < V l q)) (hK : ∀ l q : Nat, l < 7 → q < 7 → (tb (K l) q ↔ 0 < W l q)) : rP L 8 (2 ^ n - 1) = kEnd K n P (b + 1) (a - b) := by
  have p1 : 1 ≤ 2 ^ n := Nat.one_le_two_pow
  have p2 : 2 ^ n ≤ 2 ^ 7 := Nat.pow_le_pow_right (by decide) n7
  have rb := r b ba
  obtain ⟨t, ht⟩ : ∃ t : Nat, P b = t := ⟨(P b).toNat, by omega⟩
  have kb : kB P (b + 1) = t := by
    unfold kB
    rw [show b + 1 - 1 = b by omega, ht, Int.toNat_natCast]
  have al : ∀ i, tb (kAll P (b + 1) (a - b)) i ↔ i = t ∨ inR P b (a - b - 1) i := fun i => by
    unfold kAll
    rw [rAl_t]
    constructor
    · rintro ⟨j, hj, z⟩
      by_cases j0 : j = 0
      · rw [j0, show b + 1 - 1 + 0 = b by omega, ht, Int.toNat_natCast] at z
        exact Or.inl z
      · have rj := r (b + j) (by omega)
        rw [show b + 1 - 1 + j = b + j by omega] at z
        exact Or.inr ⟨j - 1, by omega, by rw [show b + 1 + (j - 1) = b + j by omega]; omega⟩
    · rintro (z | ⟨k, hk, z⟩)
      · exact ⟨0, by omega, by rw [show b + 1 - 1 + 0 = b by omega, ht, Int.toNat_natCast]; exact z⟩
      · exact ⟨k + 1, by omega, by rw [show b + 1 - 1 + (k + 1) = b + 1 + k by omega, ← z, Int.toNat_natCast]⟩
  have al7 : kAll P (b + 1) (a - b) < 128 := rAl_lt _ (fun j hj => by
    have := r (b + 1 - 1 + j) (by omega)
    omega)
  have nt : ¬ inR P b (a - b - 1) (t : Int) := fun ⟨k, hk, z⟩ => ds b (b + 1 + k) (by omega) (by omega) (by rw [ht]; exact z)
  have tB : ∀ i, tb (nDif (2 ^ n - 1) (kAll P (b + 1) (a - b)) ||| 2 ^ kB P (b + 1)) i ↔ (i < n ∧ ¬ inR P b (a - b - 1) i) := fun i => by
    rw [tb_or, tb_dif, tb_pow, al, kb]
    have e : tb (2 ^ n - 1) i ↔ i < n := by
      unfold tb
      rw [all_tb, decide_eq_true_eq]
    rw [e]
    constructor
    · rintro (⟨z1, z2⟩ | z)
      · exact ⟨z1, fun w => z2 (Or.inr w)⟩
      · rw [z]
        exact ⟨by omega, nt⟩
    · rintro ⟨z1, z2⟩
      by_cases c : i = t
      · exact Or.inr c
      · exact Or.inl ⟨z1, fun w => w.elim c z2⟩
  -- linked to somebody of the flower's ring
  have adj : ∀ q : Int, (∃ x : Nat, x < 7 ∧ tb (kAll P (b + 1) (a - b)) x ∧ 0 < W x q) ↔ (0 < W (P b) q ∨ toR W P b (a - b - 1) q) := fun q => by
    constructor
    · rintro ⟨x, -, z1, z2⟩
      rcases (al x).mp z1 with w | ⟨k, hk, w⟩
      · rw [w, ← ht] at z2
        exact Or.inl z2
      · rw [w] at z2
        exact Or.inr ⟨k, hk, z2⟩
    · rintro (z | ⟨k, hk, z⟩)
      · exact ⟨t, by omega, (al t).mpr (Or.inl rfl), by rw [← ht]; exact z⟩
      · have rk := r (b + 1 + k) (by omega)
        refine ⟨(P (b + 1 + k)).toNat, by omega, (al _).mpr (Or.inr ⟨k, hk, by omega⟩), ?_⟩
        rw [show (((P (b + 1 + k)).toNat : Nat) : Int) = P (b + 1 + k) by omega]
        exact z
  have ln : ∀ x y, 0 < W x y → x < n ∧ y < n := fun x y z => by
    have h1 := gw.2.2.2 x y
    have h2 := gw.2.2.2 y x
    rw [gw.2.1] at h2
    omega
  have iso : ∀ l q, l < 7 → tb (L l) q → tb (nDif (2 ^ n - 1) (kAll P (b + 1) (a - b)) ||| 2 ^ kB P (b + 1)) l ∧ tb (nDif (2 ^ n - 1) (kAll P (b + 1) (a - b)) ||| 2 ^ kB P (b + 1)) q := fun l q hl z => by
    obtain ⟨z1, z2⟩ := (hL l q hl).mp z
    obtain ⟨w1, w2, w3⟩ := (hV l q).mp z2
    rw [tB, tB]
    rcases w3 with w3 | ⟨v1, v2, k, hk, v3⟩ | ⟨v1, v2, k, hk, v3⟩
    · have := ln _ _ w3
      exact ⟨⟨by omega, w1⟩, ⟨by omega, w2⟩⟩
    · have := ln _ _ v3
      exact ⟨⟨by omega, w1⟩, ⟨by omega, w2⟩⟩
    · have := ln _ _ v3
      exact ⟨⟨by omega, w1⟩, ⟨by omega, w2⟩⟩
  have same : ∀ l q, tb (nDif (2 ^ n - 1) (kAll P (b + 1) (a - b)) ||| 2 ^ kB P (b + 1)) l → tb (nDif (2 ^ n - 1) (kAll P (b + 1) (a - b)) ||| 2 ^ kB P (b + 1)) q → l < 7 → q < 7 → (tb (L l) q ↔ tb (kL K P (b + 1) (a - b) l) q) := fun l q h1 h2 hl hq => by
    obtain ⟨-, l2⟩ := (tB l).mp h1
    obtain ⟨-, q2⟩ := (tB q).mp h2
    rw [hL l q hl, hV]
    have qa : tb (kAll P (b + 1) (a - b)) q ↔ q = t := by
      rw [al]
      exact ⟨fun z => z.elim id (fun w => absurd w q2), fun z => Or.inl z⟩
    unfold kL
    rw [kb, ht]
    by_cases lt : l = t
    · rw [if_pos lt, tb_dif, rTo_t, qa]
      have ex : (∃ x, x < 7 ∧ tb (kAll P (b + 1) (a - b)) x ∧ tb (K x) q) ↔ (0 < W (P b) q ∨ toR W P b (a - b - 1) q) := by
        rw [← adj]
        exact ⟨fun ⟨x, x1, x2, x3⟩ => ⟨x, x1, x2, (hK x q x1 hq).mp x3⟩, fun ⟨x, x1, x2, x3⟩ => ⟨x, x1, x2, (hK x q x1 hq).mpr x3⟩⟩
      rw [ex, ht]
      constructor
      · rintro ⟨-, -, -, z | ⟨z1, z2, z3⟩ | ⟨z1, z2, z3⟩⟩
        · refine ⟨Or.inl (by rw [← lt]; exact z), fun w => ?_⟩
          rw [w, lt, gw.2.2.1] at z
          omega
        · exact ⟨Or.inr z3, fun w => z2 (by omega)⟩
        · omega
      · rintro ⟨z1, z2⟩
        refine ⟨hq, l2, q2, ?_⟩
        rcases z1 with z1 | z1
        · exact Or.inl (by rw [lt]; exact z1)
        · exact Or.inr (Or.inl ⟨by omega, by omega, z1⟩)
    · rw [if_neg lt]
      unfold fSk
      have ex : ¬ (K l &&& kAll P (b + 1) (a - b)) = 0 ↔ (0 < W (P b) l ∨ toR W P b (a - b - 1) l) := by
        rw [and_0 al7, ← adj]
        exact ⟨fun ⟨x, x1, x2, x3⟩ => ⟨x, x1, x3, by rw [gw.2.1]; exact (hK l x hl x1).mp x2⟩, fun ⟨x, x1, x2, x3⟩ => ⟨x, x1, (hK l x hl x1).mpr (by rw [gw.2.1]; exact x3), x2⟩⟩
      have e2 : tb (if (K l &&& kAll P (b + 1) (a - b)) = 0 then 0 else 2 ^ t) q ↔ (0 < W (P b) l ∨ toR W P b (a - b - 1) l) ∧ q = t := by
        by_cases c : (K l &&& kAll P (b + 1) (a - b)) = 0
        · rw [if_pos c]
          exact ⟨fun z => absurd z tb_0, fun z => absurd c (ex.mpr z.1)⟩
        · rw [if_neg c, tb_pow]
          exact ⟨fun z => ⟨ex.mp c, z⟩, fun z => z.2⟩
      rw [tb_or, tb_dif, e2, qa, hK l q hl hq, ht]
      constructor
      · rintro ⟨-, -, -, z | ⟨z1, z2, z3⟩ | ⟨z1, z2, z3⟩⟩
        · by_cases c : q = t
          · exact Or.inr ⟨Or.inl (by rw [gw.2.1, ← c]; exact z), c⟩
          · exact Or.inl ⟨z, c⟩
        · omega
        · exact Or.inr ⟨Or.inr z3, by omega⟩
      · rintro (⟨z1, z2⟩ | ⟨z1 | z1, z2⟩)
        · exact ⟨hq, l2, q2, Or.inl z1⟩
        · exact ⟨hq, l2, q2, Or.inl (by rw [z2, gw.2.1]; exact z1)⟩
        · exact ⟨hq, l2, q2, Or.inr (Or.inr ⟨by omega, by omega, z1⟩)⟩
  have s1 := nSz_le (2 ^ n - 1)
  have s2 := nSz_le ((2 ^ n - 1) &&& (nDif (2 ^ n - 1) (kAll P (b + 1) (a - b)) ||| 2 ^ kB P (b + 1)))
  have key := rP_iso (L := L) (K := kL K P (b + 1) (a - b)) iso same 8 8 (2 ^ n - 1) (by omega) (by omega) (by omega)
  have e : (2 ^ n - 1) &&& (nDif (2 ^ n - 1) (kAll P (b + 1) (a - b)) ||| 2 ^ kB P (b + 1)) = nDif (2 ^ n - 1) (kAll P (b + 1) (a - b)) ||| 2 ^ kB P (b + 1) := tb_eq (fun i => by
    rw [tb_and]
    refine ⟨fun z => z.2, fun z => ⟨?_, z⟩⟩
    unfold tb
    rw [all_tb, decide_eq_true_eq]
    exact ((tB i).mp z).1)
  rw [key, e]
  rfl
end SHR

