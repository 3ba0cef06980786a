/-! ways and flowers: the two searches walk alike -/
def cMay (W : Int → Int → Int) (M : Int → Int) (P : Nat → Int) (t : Nat) (p : Int) : Prop := if t = 0 then M p = -1 else if t % 2 = 1 then 0 < W (P (t - 1)) p else M (P (t - 1)) = p
/-- a good beginning of a path -/
def gdP (n : Nat) (W : Int → Int → Int) (M : Int → Int) (P : Nat → Int) (t : Nat) : Prop := (∀ j, j < t → 0 ≤ P j ∧ P j < n) ∧ (∀ i j, i < j → j < t → ¬ P i = P j) ∧ ∀ j, j < t → cMay W M P j (P j)
theorem cMay_ext {W : Int → Int → Int} {M : Int → Int} {P Q : Nat → Int} {t : Nat} {p : Int} (h : ∀ j, j < t → Q j = P j) : cMay W M Q t p ↔ cMay W M P t p := by
  unfold cMay
  by_cases c : t = 0
  · rw [if_pos c, if_pos c]
  · rw [if_neg c, if_neg c, h (t - 1) (by omega)]
theorem gdP_ext {n : Nat} {W : Int → Int → Int} {M : Int → Int} {P Q : Nat → Int} {t : Nat} (h : ∀ j, j < t → Q j = P j) (g : gdP n W M P t) : gdP n W M Q t := by
  obtain ⟨g1, g2, g3⟩ := g
  refine ⟨fun j hj => by rw [h j hj]; exact g1 j hj, fun i j hi hj => by rw [h i (by omega), h j hj]; exact g2 i j hi hj, fun j hj => ?_⟩
  rw [h j hj]
  exact (cMay_ext (fun i hi => h i (by omega))).mpr (g3 j hj)
theorem gdP_put {n : Nat} {W : Int → Int → Int} {M : Int → Int} {P Q : Nat → Int} {t : Nat} {p : Nat} (h : ∀ j, j < t → Q j = P j) (e : Q t = p) (hp : p < n) (ho : ∀ j, j < t → ¬ P j = p) (hc : cMay W M P t p) (g : gdP n W M P t) : gdP n W M Q (t + 1) := by
  obtain ⟨g1, g2, g3⟩ := gdP_ext h g
  refine ⟨fun j hj => ?_, fun i j hi hj => ?_, fun j hj => ?_⟩
  · by_cases c : j = t
    · rw [c, e]; omega
    · exact g1 j (by omega)
  · by_cases c : j = t
    · rw [c, e, h i (by omega)]
      exact ho i (by omega)
    · exact g2 i j hi (by omega)
  · by_cases c : j = t
    · rw [c, e]
      exact (cMay_ext h).mpr hc
    · exact g3 j (by omega)
/-- what a search of the class leaves as it was -/
def cSame (σ τ : oSg) (t : Nat) : Prop := τ.1 = σ.1 ∧ (∀ q, ¬ q = 64 → τ.2 q = σ.2 q) ∧ ∀ j, j < t → τ.2 64 j = σ.2 64 j
theorem cSame_r (σ : oSg) (t : Nat) : cSame σ σ t := ⟨rfl, fun _ _ => rfl, fun _ _ => rfl⟩
theorem cSame_t {σ τ υ : oSg} {t : Nat} (h : cSame σ τ t) (g : cSame τ υ t) : cSame σ υ t := ⟨g.1.trans h.1, fun q hq => (g.2.1 q hq).trans (h.2.1 q hq), fun j hj => (g.2.2 j hj).trans (h.2.2 j hj)⟩
theorem cSame_w (σ : oSg) {t : Nat} (v : Int) : cSame σ (oSA σ 64 t v) t := ⟨rfl, fun q hq => oSA_ne _ _ _ hq, fun j hj => oSA_i _ _ (by omega)⟩
theorem cSame_d {σ τ : oSg} {t u : Nat} (h : cSame σ τ u) (l : t ≤ u) : cSame σ τ t := ⟨h.1, h.2.1, fun j hj => h.2.2 j (by omega)⟩
theorem sLp_s {F : Nat → oSg → Int × oSg} {u t : Nat} (hF : ∀ p τ, cSame τ (F p τ).2 (t + 1)) : ∀ m p σ, cSame σ (sLp F u t m p σ).2 t
  | 0, _, σ => cSame_r σ t
  | m + 1, p, σ => by
    have h1 := cSame_t (cSame_w σ p) (cSame_d (hF p (oSA σ 64 t p)) (Nat.le_succ t))
    unfold sLp
    split
    · split
      · exact cSame_t h1 (sLp_s hF m _ _)
      · exact h1
    · exact sLp_s hF m _ _
theorem sDn_s : ∀ k t u σ, cSame σ (sDn k t u σ).2 t
  | 0, t, _, σ => cSame_r σ t
  | k + 1, t, u, σ => by
    unfold sDn
    split
    · exact cSame_r σ t
    · exact sLp_s (fun p τ => sDn_s k (t + 1) (u ||| 2 ^ p) τ) _ _ _
def Cl (n L : Nat) (B : Int) (W : Int → Int → Int) (M : Int → Int) (σ : oSg) : Prop := σ.1 2 0 = n ∧ σ.1 63 0 = L ∧ σ.1 63 1 = B ∧ nW (σ.2 3) = W ∧ nM (σ.2 4) = M
theorem Cl_s {n L : Nat} {B : Int} {W : Int → Int → Int} {M : Int → Int} {σ τ : oSg} {t : Nat} (h : cSame σ τ t) (H : Cl n L B W M σ) : Cl n L B W M τ := by
  unfold Cl
  rw [h.1, h.2.1 3 (by decide), h.2.1 4 (by decide)]
  exact H
theorem nP_of {σ : oSg} {L : Nat} (h : σ.1 63 0 = L) (L7 : L ≤ 7) {j : Nat} (hj : j < L) : nP σ (j : Int) = σ.2 64 j := by
  unfold nP
  rw [h, if_pos (by omega), Int.toNat_natCast]
theorem vMay_c {n L : Nat} {B : Int} {W : Int → Int → Int} {M : Int → Int} {σ : oSg} (H : Cl n L B W M σ) (L7 : L ≤ 7) (hM : ∀ p, -1 ≤ M p) {t : Nat} (ht : t < L) {P : Nat → Int} (hP : ∀ j, j < t → σ.2 64 j = P j) (p : Nat) : (¬ vMay σ t p = 0) ↔ cMay W M P t p := by
  obtain ⟨-, h2, -, h4, h5⟩ := H
  unfold vMay cMay
  rw [h4, h5]
  by_cases c : t = 0
  · rw [if_pos (by omega), if_pos c, oB_eq0, Decidable.not_not]
    have := hM p
    omega
  · have e : nP σ ((t : Int) - 1) = P (t - 1) := by
      have := nP_of h2 L7 (j := t - 1) (by omega)
      rw [show ((t - 1 : Nat) : Int) = (t : Int) - 1 by omega] at this
      rw [this, hP _ (by omega)]
    rw [if_neg (by omega), if_neg c, e, nRem2 (by omega)]
    by_cases r : t % 2 = 1
    · rw [if_pos (by omega), if_pos r, oB_eq0, Decidable.not_not]
    · rw [if_neg (by omega), if_neg r, oB_eq0, Decidable.not_not]
theorem yOn_i (g : Nat → Int) (p : Int) (t : Nat) : yOn g p t = 0 ↔ ∀ j, j < t → ¬ g j = p := by
  unfold yOn
  rcases nFst_sp (fun k => g k = p) t 0 with ⟨h1, h2⟩ | ⟨x, h1, h2, h3, h4, -⟩
  · rw [h1, if_pos (by decide)]
    exact ⟨fun _ j hj => h2 j (by omega) (by omega), fun _ => rfl⟩
  · rw [h1, if_neg (by omega)]
    exact ⟨fun z => absurd z (by decide), fun z => absurd h4 (z x (by omega))⟩
theorem bit_put (u p q : Nat) : (u ||| 2 ^ p).testBit q = true ↔ (u.testBit q = true ∨ p = q) := by
  rw [Nat.testBit_or, Nat.testBit_two_pow, Bool.or_eq_true, decide_eq_true_eq]
section BIS
variable {n L : Nat} {B : Int} {W : Int → Int → Int} {M : Int → Int} {F : Nat → Nat → Int} {g : Nat → Int} {dn en : oSg → Nat → Int} {my : oSg → Nat → Nat → Int}
theorem bis (L7 : L ≤ 7) (n7 : n ≤ 7) (hg : g 0 = n) (hM : ∀ p, -1 ≤ M p)
    (Hd : ∀ τ t, τ.1 = F → t ≤ L → ((¬ dn τ t = 0) ↔ t = L))
    (He : ∀ σ τ, τ.1 = F → τ.2 69 = g → gdP n W M (τ.2 74) L → Cl n L B W M σ → (∀ j, j < L → σ.2 64 j = τ.2 74 j) → vEnds σ = en τ L)
    (Hm : ∀ τ (t p : Nat), τ.1 = F → τ.2 69 = g → t < L → p < n → gdP n W M (τ.2 74) t → (∀ j, j < t → ¬ τ.2 74 j = (p : Int)) → ((¬ my τ t p = 0) ↔ cMay W M (τ.2 74) t p)) :
    ∀ k t u σ τ, Cl n L B W M σ → τ.1 = F → τ.2 69 = g → t ≤ L → (∀ j, j < t → σ.2 64 j = τ.2 74 j) → gdP n W M (τ.2 74) t → (∀ p : Nat, p < 7 → (u.testBit p = true ↔ ∃ j, j < t ∧ τ.2 74 j = (p : Int))) → (sDn k t u σ).1 = (gDn dn en my k t τ).1 ∧ (¬ (gDn dn en my k t τ).1 = 0 → (∀ j, j < L → (sDn k t u σ).2.2 64 j = (gDn dn en my k t τ).2.2 74 j) ∧ gdP n W M ((gDn dn en my k t τ).2.2 74) L ∧ ¬ en (gDn dn en my k t τ).2 L = 0) := by
  intro k
  induction k with
  | zero => intro t u σ τ _ _ _ _ _ _ _; exact ⟨rfl, fun z => absurd rfl z⟩
  | succ k ih =>
    intro t u σ τ hC h1 h69 ht hP hG hu
    have e1 : sDn (k + 1) t u σ = if σ.1 63 0 ≤ t ∨ 7 ≤ t then (vEnds σ, σ) else sLp (fun p τ => sDn k (t + 1) (u ||| 2 ^ p) τ) u t (σ.1 2 0).toNat 0 σ := rfl
    have e2 : gDn dn en my (k + 1) t τ = if ¬ dn τ t = 0 then (en τ t, τ) else gLp (fun _ τ => gDn dn en my k (t + 1) τ) my t (τ.2 69 0).toNat 0 τ := rfl
    rw [e1, e2]
    by_cases c : t = L
    · have hd := (Hd τ t h1 ht).mpr c
      subst c
      rw [if_pos (by rw [hC.2.1]; omega), if_pos hd]
      exact ⟨He σ τ h1 h69 hG hC hP, fun z => ⟨hP, hG, z⟩⟩
    · rw [if_neg (by rw [hC.2.1]; omega), if_neg (fun z => c ((Hd τ t h1 ht).mp z)), hC.1, h69, hg, Int.toNat_natCast]
      have lp : ∀ (m p : Nat) (σ' τ' : oSg), p + m = n → Cl n L B W M σ' → gSame τ τ' t → (∀ j, j < t → σ'.2 64 j = τ'.2 74 j) → (sLp (fun p τ => sDn k (t + 1) (u ||| 2 ^ p) τ) u t m p σ').1 = (gLp (fun _ τ => gDn dn en my k (t + 1) τ) my t m p τ').1 ∧ (¬ (gLp (fun _ τ => gDn dn en my k (t + 1) τ) my t m p τ').1 = 0 → (∀ j, j < L → (sLp (fun p τ => sDn k (t + 1) (u ||| 2 ^ p) τ) u t m p σ').2.2 64 j = (gLp (fun _ τ => gDn dn en my k (t + 1) τ) my t m p τ').2.2 74 j) ∧ gdP n W M ((gLp (fun _ τ => gDn dn en my k (t + 1) τ) my t m p τ').2.2 74) L ∧ ¬ en (gLp (fun _ τ => gDn dn en my k (t + 1) τ) my t m p τ').2 L = 0) := by
        intro m
        induction m with
        | zero => intro p σ' τ' _ _ _ _; exact ⟨rfl, fun z => absurd rfl z⟩
        | succ m ihm =>
          intro p σ' τ' hm hC' hS hP'
          have hp : p < n := by omega
          have t1 : τ'.1 = F := hS.1.trans h1
          have t69 : τ'.2 69 = g := (hS.2.1 69 (by decide)).trans h69
          have hG' : gdP n W M (τ'.2 74) t := gdP_ext hS.2.2 hG
          have on : u.testBit p = false ↔ yOn (τ'.2 74) p t = 0 := by
            rw [yOn_i]
            have h := hu p (by omega)
            constructor
            · intro z j hj w
              rw [hS.2.2 j hj] at w
              rw [h.mpr ⟨j, hj, w⟩] at z
              exact absurd z (by decide)
            · intro z
              by_cases b : u.testBit p = true
              · obtain ⟨j, hj, w⟩ := h.mp b
                rw [← hS.2.2 j hj] at w
                exact absurd w (z j hj)
              · exact Bool.not_eq_true _ ▸ b
          have cond : (u.testBit p = false ∧ ¬ vMay σ' t p = 0) ↔ (yOn (τ'.2 74) p t = 0 ∧ ¬ my τ' t p = 0) := by
            rw [on]
            refine and_congr_right (fun z => ?_)
            rw [Hm τ' t p t1 t69 (by omega) hp hG' ((yOn_i _ _ _).mp z)]
            exact vMay_c hC' L7 hM (by omega) hP' p
          have s1 : sLp (fun p τ => sDn k (t + 1) (u ||| 2 ^ p) τ) u t (m + 1) p σ' = if u.testBit p = false ∧ ¬ vMay σ' t p = 0 then (if (sDn k (t + 1) (u ||| 2 ^ p) (oSA σ' 64 t p)).1 = 0 then sLp (fun p τ => sDn k (t + 1) (u ||| 2 ^ p) τ) u t m (p + 1) (sDn k (t + 1) (u ||| 2 ^ p) (oSA σ' 64 t p)).2 else (1, (sDn k (t + 1) (u ||| 2 ^ p) (oSA σ' 64 t p)).2)) else sLp (fun p τ => sDn k (t + 1) (u ||| 2 ^ p) τ) u t m (p + 1) σ' := rfl
          have s2 : gLp (fun _ τ => gDn dn en my k (t + 1) τ) my t (m + 1) p τ' = if yOn (τ'.2 74) p t = 0 ∧ ¬ my τ' t p = 0 then (if (gDn dn en my k (t + 1) (oSA τ' 74 t p)).1 = 0 then gLp (fun _ τ => gDn dn en my k (t + 1) τ) my t m (p + 1) (gDn dn en my k (t + 1) (oSA τ' 74 t p)).2 else (1, (gDn dn en my k (t + 1) (oSA τ' 74 t p)).2)) else gLp (fun _ τ => gDn dn en my k (t + 1) τ) my t m (p + 1) τ' := rfl
          rw [s1, s2]
          by_cases cc : yOn (τ'.2 74) p t = 0 ∧ ¬ my τ' t p = 0
          · rw [if_pos (cond.mpr cc), if_pos cc]
            have ho := (yOn_i _ _ _).mp cc.1
            have hm1 := (Hm τ' t p t1 t69 (by omega) hp hG' ho).mp cc.2
            have pre : ∀ j, j < t → (oSA τ' 74 t (p : Int)).2 74 j = τ'.2 74 j := fun j hj => oSA_i _ _ (by omega)
            have i := ih (t + 1) (u ||| 2 ^ p) (oSA σ' 64 t p) (oSA τ' 74 t p) (Cl_s (cSame_w σ' _) hC') t1 (by rw [oSA_ne _ _ _ (by decide)]; exact t69) (by omega) (fun j hj => by
              by_cases jt : j = t
              · rw [jt, oSA_s, oSA_s]
              · rw [oSA_i _ _ jt, oSA_i _ _ jt]
                exact hP' j (by omega)) (gdP_put pre (oSA_s _ _ _ _) hp ho hm1 hG') (fun q hq => by
              rw [bit_put, hu q hq]
              constructor
              · rintro (⟨j, hj, w⟩ | w)
                · exact ⟨j, by omega, by rw [pre j hj, hS.2.2 j hj]; exact w⟩
                · exact ⟨t, by omega, by rw [oSA_s, w]⟩
              · rintro ⟨j, hj, w⟩
                by_cases jt : j = t
                · rw [jt, oSA_s] at w
                  exact Or.inr (by omega)
                · rw [pre j (by omega), hS.2.2 j (by omega)] at w
                  exact Or.inl ⟨j, by omega, w⟩)
            rw [i.1]
            by_cases z : (gDn dn en my k (t + 1) (oSA τ' 74 t p)).1 = 0
            · rw [if_pos z, if_pos z]
              have a1 := cSame_t (cSame_w σ' (t := t) (p : Int)) (cSame_d (sDn_s k (t + 1) (u ||| 2 ^ p) (oSA σ' 64 t p)) (Nat.le_succ t))
              have a2 := gSame_t (gSame_w τ' (t := t) (p : Int)) (gSame_d (gDn_s dn en my k (t + 1) (oSA τ' 74 t p)) (Nat.le_succ t))
              exact ihm (p + 1) _ _ (by omega) (Cl_s a1 hC') (gSame_t hS a2) (fun j hj => by rw [a1.2.2 j hj, a2.2.2 j hj]; exact hP' j hj)
            · rw [if_neg z, if_neg z]
              exact ⟨rfl, fun _ => i.2 z⟩
          · rw [if_neg (fun z => cc (cond.mp z)), if_neg cc]
            exact ihm (p + 1) σ' τ' (by omega) hC' hS hP'
      exact lp n 0 σ τ (by omega) hC (gSame_r τ t) hP
end BIS
/-- no more places than people -/
theorem pigeon : ∀ (n L : Nat) (P : Nat → Int), (∀ j, j < L → 0 ≤ P j ∧ P j < n) → (∀ i j, i < j → j < L → ¬ P i = P j) → L ≤ n
  | 0, L, P, h1, _ => by
    by_cases c : L = 0
    · omega
    · have := h1 0 (by omega)
      omega
  | n + 1, L, P, h1, h2 => by
    by_cases c : ∃ j, j < L ∧ P j = n
    · obtain ⟨j0, hj, e⟩ := c
      have key := pigeon n (L - 1) (fun j => if j = j0 then P (L - 1) else P j) (fun j hj' => by
        have a1 := h1 (L - 1) (by omega)
        have a2 := h1 j (by omega)
        split
        · next z =>
          have := h2 j0 (L - 1) (by omega) (by omega)
          omega
        · next z =>
          rcases Nat.lt_or_gt_of_ne z with z | z
          · have := h2 j j0 z hj
            omega
          · have := h2 j0 j z (by omega)
            omega) (fun i j hi hj' => by
        have b1 := h2 i j hi (by omega)
        have b2 := h2 i (L - 1) (by omega) (by omega)
        have b3 := h2 j (L - 1) (by omega) (by omega)
        split
        · split
          · omega
          · exact fun z => b3 z.symm
        · split
          · exact b2
          · exact b1)
      omega
    · have := pigeon n L P (fun j hj => by
        have := h1 j hj
        have : ¬ P j = n := fun z => c ⟨j, hj, z⟩
        omega) h2
      omega

