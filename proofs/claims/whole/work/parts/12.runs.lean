/-! ten: RUNS OVER A STATE OF NUMBERS. A state: int field k of object q, element j of row q; what refers to what is a table. -/
abbrev oSg : Type := (Nat → Nat → Int) × (Nat → Nat → Int)
/-- a cell's shape: an object (its kind; its fields: an int, or which object), a row of numbers (kind, length), a row of references -/
abbrev oSp : Type := (Nat × List (Option Nat)) ⊕ ((Nat × Nat) ⊕ (Nat × List Nat))
def oShL : List oSp := [
  .inl (10, [some 1, some 18, none, some 35, some 51, some 55, some 57, some 60, some 63, some 65, some 67]),
  .inl (1, [some 2, some 4, some 5, some 6, some 9, some 12, some 15]),
  .inl (4, [none, some 3]),
  .inr (.inl (0, 49)),
  .inr (.inl (0, 7)),
  .inr (.inl (0, 7)),
  .inl (7, [none, some 7, some 8]),
  .inr (.inl (0, 3)),
  .inr (.inl (0, 3)),
  .inl (7, [none, some 10, some 11]),
  .inr (.inl (0, 5)),
  .inr (.inl (0, 5)),
  .inl (7, [none, some 13, some 14]),
  .inr (.inl (0, 8)),
  .inr (.inl (0, 8)),
  .inl (7, [none, some 16, some 17]),
  .inr (.inl (0, 8)),
  .inr (.inl (0, 8)),
  .inl (1, [some 19, some 21, some 22, some 23, some 26, some 29, some 32]),
  .inl (4, [none, some 20]),
  .inr (.inl (0, 49)),
  .inr (.inl (0, 7)),
  .inr (.inl (0, 7)),
  .inl (7, [none, some 24, some 25]),
  .inr (.inl (0, 3)),
  .inr (.inl (0, 3)),
  .inl (7, [none, some 27, some 28]),
  .inr (.inl (0, 5)),
  .inr (.inl (0, 5)),
  .inl (7, [none, some 30, some 31]),
  .inr (.inl (0, 8)),
  .inr (.inl (0, 8)),
  .inl (7, [none, some 33, some 34]),
  .inr (.inl (0, 8)),
  .inr (.inl (0, 8)),
  .inl (9, [none, none, none, some 36, some 37, some 38]),
  .inr (.inl (2, 100)),
  .inr (.inr (3, [39, 40, 41, 42, 43, 44, 45, 46, 47, 48, 49, 50])),
  .inl (0, [none, none, none, none]),
  .inl (0, [none, none, none, none]),
  .inl (0, [none, none, none, none]),
  .inl (0, [none, none, none, none]),
  .inl (0, [none, none, none, none]),
  .inl (0, [none, none, none, none]),
  .inl (0, [none, none, none, none]),
  .inl (0, [none, none, none, none]),
  .inl (0, [none, none, none, none]),
  .inl (0, [none, none, none, none]),
  .inl (0, [none, none, none, none]),
  .inl (0, [none, none, none, none]),
  .inl (0, [none, none, none, none]),
  .inl (8, [some 52, some 53, some 54]),
  .inr (.inl (0, 6)),
  .inr (.inl (0, 6)),
  .inr (.inl (1, 360)),
  .inl (4, [none, some 56]),
  .inr (.inl (0, 49)),
  .inl (3, [none, none, none, some 58, some 59]),
  .inr (.inl (0, 7)),
  .inr (.inl (0, 128)),
  .inl (3, [none, none, none, some 61, some 62]),
  .inr (.inl (0, 7)),
  .inr (.inl (0, 128)),
  .inl (2, [none, none, some 64]),
  .inr (.inl (0, 7)),
  .inl (5, [none, none, none, none, none, some 66]),
  .inr (.inl (0, 7)),
  .inl (6, [none, none, none]),
  .inl (11, [some 69, some 70, some 71, none, some 72, some 73, none, none, some 74, none, none, none, some 75, some 76, none, none, none, none, some 77, some 78, some 79, some 80, some 81, some 88]),
  .inr (.inl (0, 116)),
  .inr (.inl (0, 116)),
  .inr (.inl (0, 116)),
  .inr (.inl (0, 100)),
  .inr (.inl (0, 12)),
  .inr (.inl (0, 14)),
  .inr (.inl (0, 7)),
  .inr (.inl (0, 7)),
  .inr (.inl (0, 7)),
  .inr (.inl (0, 7)),
  .inr (.inl (0, 6)),
  .inr (.inl (0, 6)),
  .inr (.inr (4, [82, 83, 84, 85, 86, 87])),
  .inr (.inl (1, 60)),
  .inr (.inl (1, 60)),
  .inr (.inl (1, 60)),
  .inr (.inl (1, 60)),
  .inr (.inl (1, 60)),
  .inr (.inl (1, 60)),
  .inr (.inl (1, 60))]
def oShp (q : Nat) : oSp := oShL.getD q (.inl (0, []))
def oFs (F : Nat → Int) : Nat → List (Option Nat) → List oV
  | _, [] => []
  | k, none :: r => .inl (F k) :: oFs F (k + 1) r
  | k, some a :: r => .inr (.inr (.inl a)) :: oFs F (k + 1) r
/-- the heap of a state -/
def oBld (σ : oSg) (q : Nat) : oC := match oShp q with
  | .inl (ci, fs) => .inl (ci, oFs (σ.1 q) 0 fs)
  | .inr (.inl (t, n)) => .inr (.inl (t, n, σ.2 q))
  | .inr (.inr (t, rs)) => .inr (.inr (t, rs.length, fun j => rs[j]?))
abbrev oHb (σ : oSg) : oH := (89, 2141, oBld σ)
def oX0 : oXs := (0, fun _ => 0)
def oLm : Nat × Nat := (89, 2141)
/-! more fuel, the same answer -/
theorem oBack_mono {lim : Nat × Nat} {pc : Nat} {L S : List oV} {r r' : Option (Option oV × oH)} (h : ∀ q, r = some q → r' = some q) {o : oR} (hb : oBack lim pc L S r = some o) : oBack lim pc L S r' = some o := by
  cases r with
  | none => simp [oBack] at hb
  | some q => rw [h q rfl]; exact hb
theorem oG9_mono {call call' : oCall} (hc : ∀ z as h r, call z as h = some r → call' z as h = some r) {lim : Nat × Nat} {own : Nat} {ini : Bool} {q : Instr × Nat} {pc : Nat} {L S : List oV} {h : oH} {o : oR} (hb : oG9 call lim own ini q pc L S h = some o) : oG9 call' lim own ini q pc L S h = some o := by
  unfold oG9 at hb ⊢
  split at hb
  · split at hb
    · split at hb
      · split at hb
        · split at hb
          · next hcc => rw [if_pos hcc]; exact oBack_mono (hc _ _ _) hb
          · cases hb
        · cases hb
      · cases hb
    · cases hb
  · split at hb
    · split at hb
      · next hcc => rw [if_pos hcc]; exact oBack_mono (hc _ _ _) hb
      · cases hb
    · exact hb
    · exact hb
    · exact hb
    · cases hb
  · split at hb
    · exact hb
    · split at hb
      · split at hb
        · split at hb
          · next hcc => rw [if_pos hcc]; exact oBack_mono (hc _ _ _) hb
          · cases hb
        · cases hb
      · cases hb
    · cases hb
  · cases hb
theorem oIns_mono {call call' : oCall} (hc : ∀ z as h r, call z as h = some r → call' z as h = some r) {X : oXs} {lim : Nat × Nat} {y : Nat} {q : Instr × Nat} {pc : Nat} {L S : List oV} {h : oH} {o : oR} (hb : oIns call X lim y q pc L S h = some o) : oIns call' X lim y q pc L S h = some o := by
  unfold oIns at hb ⊢
  simp only [Option.or_eq_some_iff] at hb ⊢
  rcases hb with hb | ⟨n1, hb⟩
  · exact Or.inl hb
  refine Or.inr ⟨n1, ?_⟩
  rcases hb with hb | ⟨n1, hb⟩
  · exact Or.inl hb
  refine Or.inr ⟨n1, ?_⟩
  rcases hb with hb | ⟨n1, hb⟩
  · exact Or.inl hb
  refine Or.inr ⟨n1, ?_⟩
  rcases hb with hb | ⟨n1, hb⟩
  · exact Or.inl hb
  refine Or.inr ⟨n1, ?_⟩
  rcases hb with hb | ⟨n1, hb⟩
  · exact Or.inl hb
  refine Or.inr ⟨n1, ?_⟩
  rcases hb with hb | ⟨n1, hb⟩
  · exact Or.inl hb
  refine Or.inr ⟨n1, ?_⟩
  rcases hb with hb | ⟨n1, hb⟩
  · exact Or.inl hb
  refine Or.inr ⟨n1, ?_⟩
  rcases hb with hb | ⟨n1, hb⟩
  · exact Or.inl hb
  refine Or.inr ⟨n1, ?_⟩
  rcases hb with hb | ⟨n1, hb⟩
  · exact Or.inl (oG9_mono hc hb)
  cases h9 : oG9 call' lim (oMt y).2.2.2.2.1 (oIni y) q pc L S h with
  | none => exact Or.inr ⟨rfl, hb⟩
  | some w =>
    exfalso
    cases h10 : oG10 lim (oMt y).2.2.2.1 q S h with
    | none => rw [h10] at hb; simp [oOfR] at hb
    | some w2 =>
      unfold oG9 at h9
      unfold oG10 at h10
      split at h10
      · split at h10
        all_goals first
          | (simp at h9; done)
          | cases h10
      · cases h10
theorem oRun_mono {call call' : oCall} (hc : ∀ z as h r, call z as h = some r → call' z as h = some r) {X : oXs} {lim : Nat × Nat} {y : Nat} : ∀ {k k' pc : Nat} {L S : List oV} {h : oH} {r : Option oV × oH}, k ≤ k' → oRun call X lim y k pc L S h = some r → oRun call' X lim y k' pc L S h = some r := by
  intro k
  induction k with
  | zero => intro k' pc L S h r _ hr; simp [oRun] at hr
  | succ k ih =>
    intro k' pc L S h r hk hr
    cases k' with
    | zero => omega
    | succ k' =>
      unfold oRun at hr ⊢
      cases hs : oStep call X lim y pc L S h with
      | none => rw [hs] at hr; simp at hr
      | some o =>
        rw [hs] at hr
        have hs' : oStep call' X lim y pc L S h = some o := by
          unfold oStep at hs ⊢
          split at hs
          · next q hq => exact oIns_mono hc hs
          · cases hs
        rw [hs']
        rcases o with ⟨pc1, L1, S1, h1⟩ | r1
        · exact ih (by omega) hr
        · exact hr
theorem oExec_mono {n n' : Nat} (hn : n ≤ n') : ∀ {d z : Nat} {as : List oV} {h : oH} {r : Option oV × oH}, oExec n d z as h = some r → oExec n' d z as h = some r := by
  intro d
  induction d with
  | zero => intro z as h r hr; simp [oExec] at hr
  | succ d ih =>
    intro z as h r hr
    unfold oExec at hr ⊢
    split at hr
    · next v h1 hrun =>
      rw [oRun_mono (fun z as h r => ih) hn hrun]
      exact hr
    · cases hr
/-! the two judgements -/
/-- from here method y (at depth d + 1) comes to an end with Q -/
def oE (d y pc : Nat) (L S : List oV) (σ : oSg) (Q : Option oV → (Nat → oC) → Prop) : Prop :=
  ∃ (n k : Nat) (v : Option oV) (f' : Nat → oC), oRun (oExec n d) oX0 oLm y k pc L S (oHb σ) = some (v, (89, 2141, f')) ∧ Q v f'
/-- method y answers v and leaves σ' -/
def oMi (d y : Nat) (as : List oV) (σ : oSg) (v : Option oV) (σ' : oSg) : Prop := ∃ n : Nat, oExec n d y as (oHb σ) = some (v, oHb σ')
def oEnd (v : Option oV) (σ' : oSg) : Option oV → (Nat → oC) → Prop := fun r f => r = v ∧ f = oBld σ'
section OEL
variable {d y pc : Nat} {L S : List oV} {σ : oSg} {Q : Option oV → (Nat → oC) → Prop}
theorem oMi_of {as : List oV} {v : Option oV} {σ' : oSg} (hmk : oMk y as = (0, 0)) (hlen : (oArg as).length ≤ (oMt y).2.2.1) (h : oE d y 0 (oEnt (oMt y).2.2.1 as) [] σ (oEnd v σ')) : oMi (d + 1) y as σ v σ' := by
  obtain ⟨n, k, v1, f1, hr, rfl, rfl⟩ := h
  refine ⟨max n k, ?_⟩
  unfold oExec
  rw [hmk]
  have := oRun_mono (call' := oExec (max n k) d) (fun z as h r => oExec_mono (Nat.le_max_left n k)) (Nat.le_max_right n k) hr
  show (match oRun (oExec (max n k) d) oX0 oLm y (max n k) 0 _ [] (oHb σ) with
    | some (v, h') => if h'.1 = (oHb σ).1 + 0 ∧ h'.2.1 = (oHb σ).2.1 + 0 ∧ (oArg as).length ≤ (oMt y).2.2.1 then some (v, h') else none
    | none => none) = _
  rw [this]
  exact if_pos ⟨rfl, rfl, hlen⟩
theorem oMi_all {as : List oV} {v : Option oV} {σ' : oSg} {k : Nat} (hk : 0 < k) (h : ∀ d, k ≤ d + 1 → oMi (d + 1) y as σ v σ') {d : Nat} (hd : k ≤ d) : oMi d y as σ v σ' := by
  cases d with
  | zero => omega
  | succ d => exact h d hd
theorem oE_go {pc' : Nat} {L' S' : List oV} {σ' : oSg} (h : ∀ call : oCall, oStep call oX0 oLm y pc L S (oHb σ) = some (.inl (pc', L', S', oHb σ'))) : oE d y pc L S σ Q = oE d y pc' L' S' σ' Q := by
  apply propext
  constructor
  · rintro ⟨n, k, v, f, hr, hq⟩
    cases k with
    | zero => simp [oRun] at hr
    | succ k =>
      refine ⟨n, k, v, f, ?_, hq⟩
      unfold oRun at hr
      rw [h] at hr
      exact hr
  · rintro ⟨n, k, v, f, hr, hq⟩
    refine ⟨n, k + 1, v, f, ?_, hq⟩
    unfold oRun
    rw [h]
    exact hr
theorem oE_ret {v : Option oV} (h : ∀ call : oCall, oStep call oX0 oLm y pc L S (oHb σ) = some (.inr (v, oHb σ))) : oE d y pc L S σ Q = Q v (oBld σ) := by
  apply propext
  constructor
  · rintro ⟨n, k, v1, f, hr, hq⟩
    cases k with
    | zero => simp [oRun] at hr
    | succ k =>
      unfold oRun at hr
      rw [h] at hr
      simp only [Option.some.injEq, Prod.mk.injEq, true_and] at hr
      obtain ⟨rfl, rfl⟩ := hr
      exact hq
  · intro hq
    refine ⟨0, 1, v, oBld σ, ?_, hq⟩
    unfold oRun
    rw [h]
theorem oE_call {z : Nat} {as S' : List oV} {v : Option oV} {σ' : oSg} (h : ∀ call : oCall, oStep call oX0 oLm y pc L S (oHb σ) = oBack oLm pc L S' (call z as (oHb σ))) (hm : oMi d z as σ v σ') : oE d y pc L S σ Q = oE d y (pc + 3) L (v.toList ++ S') σ' Q := by
  obtain ⟨n0, hm⟩ := hm
  have hb : ∀ n, n0 ≤ n → oStep (oExec n d) oX0 oLm y pc L S (oHb σ) = some (.inl (pc + 3, L, v.toList ++ S', oHb σ')) := by
    intro n hn
    rw [h, oExec_mono hn hm]
    cases v with
    | none => exact (if_pos (show (89 : Nat) ≤ 89 ∧ (2141 : Nat) ≤ 2141 from ⟨Nat.le_refl _, Nat.le_refl _⟩) : (if (89 : Nat) ≤ 89 ∧ (2141 : Nat) ≤ 2141 then (some (Sum.inl (pc + 3, L, S', oHb σ')) : Option oR) else none) = some (Sum.inl (pc + 3, L, S', oHb σ')))
    | some w => exact (if_pos (show (89 : Nat) ≤ 89 ∧ (2141 : Nat) ≤ 2141 from ⟨Nat.le_refl _, Nat.le_refl _⟩) : (if (89 : Nat) ≤ 89 ∧ (2141 : Nat) ≤ 2141 then (some (Sum.inl (pc + 3, L, w :: S', oHb σ')) : Option oR) else none) = some (Sum.inl (pc + 3, L, w :: S', oHb σ')))
  apply propext
  constructor
  · rintro ⟨n, k, v1, f, hr, hq⟩
    have hr2 := oRun_mono (call' := oExec (max n n0) d) (fun z as h r => oExec_mono (Nat.le_max_left n n0)) (Nat.le_refl k) hr
    cases k with
    | zero => simp [oRun] at hr
    | succ k =>
      refine ⟨max n n0, k, v1, f, ?_, hq⟩
      unfold oRun at hr2
      rw [hb _ (Nat.le_max_right _ _)] at hr2
      exact hr2
  · rintro ⟨n, k, v1, f, hr, hq⟩
    refine ⟨max n n0, k + 1, v1, f, ?_, hq⟩
    unfold oRun
    rw [hb _ (Nat.le_max_right _ _)]
    exact oRun_mono (fun z as h r => oExec_mono (Nat.le_max_left n n0)) (Nat.le_refl k) hr
end OEL
