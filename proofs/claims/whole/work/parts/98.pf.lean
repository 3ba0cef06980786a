/-! the law: what the two constructors leave -/
/-- nothing stands beyond the last cell; a row of references refers to nothing beyond its end -/
def oNice (h : oH) : Prop := (∀ q, h.1 ≤ q → h.2.2 q = .inl (0, [])) ∧ ∀ q t n g, h.2.2 q = .inr (.inr (t, n, g)) → ∀ j, n ≤ j → g j = none
def oNiceR (h : oH) : oR → Prop
  | .inl (_, _, _, h') => oNice h'
  | .inr (_, h') => oNice h'
section ONI
variable {call : oCall} {X : oXs} {lim : Nat × Nat} {y pc own : Nat} {L S : List oV} {h : oH} {q : Instr × Nat} {r : oR} {ini : Bool}
theorem oNice_set (N : oNice h) {a : Nat} {c : oC} (ha : a < h.1) (hc : ∀ t n g, c = .inr (.inr (t, n, g)) → ∀ j, n ≤ j → g j = none) {s : Nat} : oNice (h.1, s, oSet h.2.2 a c) := by
  refine ⟨fun q hq => ?_, fun q t n g he => ?_⟩
  · show oSet h.2.2 a c q = _
    unfold oSet
    rw [if_neg (show ¬ q = a by have : h.1 ≤ q := hq; omega)]
    exact N.1 q hq
  · have he : oSet h.2.2 a c q = _ := he
    unfold oSet at he
    split at he
    · exact hc t n g he
    · exact N.2 q t n g he
theorem oNice_new (N : oNice h) {c : oC} {s : Nat} (hc : ∀ t n g, c = .inr (.inr (t, n, g)) → ∀ j, n ≤ j → g j = none) : oNice (h.1 + 1, s, oSet h.2.2 h.1 c) := by
  refine ⟨fun q hq => ?_, fun q t n g he => ?_⟩
  · have hq : h.1 + 1 ≤ q := hq
    show oSet h.2.2 h.1 c q = _
    unfold oSet
    rw [if_neg (show ¬ q = h.1 by omega)]
    exact N.1 q (by omega)
  · have he : oSet h.2.2 h.1 c q = _ := he
    unfold oSet at he
    split at he
    · exact hc t n g he
    · exact N.2 q t n g he
theorem oNice_push {n : Nat} {v : Option oV} (N : oNice h) (e : oPushH n pc L S h v = some r) : oNiceR h r := by
  unfold oPushH at e
  split at e
  · cases e; exact N
  · cases e
theorem oNice_goh {n : Nat} {g : Option (Nat → oC)} (N : ∀ w, g = some w → oNice (h.1, h.2.1, w)) (e : oGoH n pc L S h g = some r) : oNiceR h r := by
  unfold oGoH at e
  split at e
  · cases e; exact N _ rfl
  · cases e
theorem oNice_make {n k : Nat} {c : oC} (N : oNice h) (hc : ∀ t n g, c = .inr (.inr (t, n, g)) → ∀ j, n ≤ j → g j = none) (e : oMake lim n pc L S h k c = some r) : oNiceR h r := by
  unfold oMake at e
  split at e
  · cases e; exact oNice_new N hc
  · cases e
theorem oNice_putF {a ci k : Nat} {v : oV} (N : oNice h) {w : Nat → oC} (e : oPutF h a ci k v = some w) : oNice (h.1, h.2.1, w) := by
  unfold oPutF at e
  split at e
  · next ha =>
    split at e
    · split at e
      · cases e; exact oNice_set N ha (fun _ _ _ he => by cases he)
      · cases e
    · cases e
  · cases e
theorem oNice_putE {a kind : Nat} {i v : Int} (N : oNice h) {w : Nat → oC} (e : oPutE h a kind i v = some w) : oNice (h.1, h.2.1, w) := by
  unfold oPutE at e
  split at e
  · next ha =>
    split at e
    · split at e
      · cases e; exact oNice_set N ha (fun _ _ _ he => by cases he)
      · cases e
    · cases e
  · cases e
theorem oNice_putR {a r0 : Nat} {i : Int} (N : oNice h) {w : Nat → oC} (e : oPutR h a i r0 = some w) : oNice (h.1, h.2.1, w) := by
  unfold oPutR at e
  split at e
  · next ha =>
    split at e
    · next n f c he1 he2 =>
      split at e
      · next hi =>
        cases e
        refine oNice_set N ha.1 (fun t n' g he j hj => ?_)
        cases he
        unfold oUp
        rw [if_neg (by omega)]
        exact N.2 _ _ _ _ he1 j hj
      · cases e
    · cases e
  · cases e
theorem oNice_copy {a b : Nat} {sp dp n : Int} (N : oNice h) {w : Nat → oC} (e : oCopy h a sp b dp n = some w) : oNice (h.1, h.2.1, w) := by
  unfold oCopy at e
  split at e
  · next ha =>
    split at e
    · split at e
      · cases e; exact oNice_set N ha.2.1 (fun _ _ _ he => by cases he)
      · cases e
    · cases e
  · cases e
theorem oNice_g6 (N : oNice h) (e : oG6 X own q pc L S h = some r) : oNiceR h r := by
  unfold oG6 at e
  repeat' split at e
  all_goals first
    | exact oNice_push N e
    | (cases e; exact N)
    | cases e
theorem oNice_g7 (N : oNice h) (e : oG7 own ini q pc L S h = some r) : oNiceR h r := by
  unfold oG7 at e
  repeat' split at e
  all_goals first
    | exact oNice_goh (fun w hw => oNice_putF N hw) e
    | exact oNice_goh (fun w hw => oNice_putE N hw) e
    | exact oNice_goh (fun w hw => oNice_putR N hw) e
    | cases e
theorem oNice_g8 (N : oNice h) (e : oG8 lim own q pc L S h = some r) : oNiceR h r := by
  unfold oG8 at e
  repeat' split at e
  all_goals first
    | exact oNice_make N (fun _ _ _ he j hj => by cases he; all_goals rfl) e
    | (cases e; done)
    | skip
  cases e
  refine ⟨fun q hq => ?_, fun q t n g he j hj => ?_⟩
  · have hq : h.1 + 7 ≤ q := hq
    show (if q = h.1 then _ else if h.1 < q ∧ q < h.1 + 7 then _ else h.2.2 q) = (_ : oC)
    rw [if_neg (by omega), if_neg (by omega)]
    exact N.1 q (by omega)
  · have he : (if q = h.1 then _ else if h.1 < q ∧ q < h.1 + 7 then _ else h.2.2 q) = (_ : oC) := he
    split at he
    · cases he
      exact if_neg (by omega)
    · split at he
      · cases he
      · exact N.2 q t n g he j hj
theorem oNice_back {v : Option (Option oV × oH)} (N : ∀ w h', v = some (w, h') → oNice h') (e : oBack lim pc L S v = some r) : oNiceR h r := by
  unfold oBack at e
  split at e
  · split at e
    · cases e; exact N _ _ rfl
    · cases e
  · split at e
    · cases e; exact N _ _ rfl
    · cases e
  · cases e
theorem oNice_g9 (hc : ∀ z as h w h', oNice h → call z as h = some (w, h') → oNice h') (N : oNice h) (e : oG9 call lim own ini q pc L S h = some r) : oNiceR h r := by
  unfold oG9 at e
  repeat' split at e
  all_goals first
    | exact oNice_back (fun w h' hw => hc _ _ _ _ _ N hw) e
    | exact oNice_goh (fun w hw => oNice_copy N hw) e
    | (cases e; exact N)
    | cases e
theorem oNice_ofP {v : Option oP} (N : oNice h) (e : oOfP h v = some r) : oNiceR h r := by
  unfold oOfP at e
  split at e
  · cases e; exact N
  · cases e
theorem oNice_g10 {rt : Option FieldType} (N : oNice h) (e : oOfR (oG10 lim rt q S h) = some r) : oNiceR h r := by
  unfold oOfR at e
  split at e
  · next w hw =>
    cases e
    unfold oG10 at hw
    repeat' split at hw
    all_goals first
      | (cases hw; exact N)
      | cases hw
  · cases e
theorem oNice_step (hc : ∀ z as h w h', oNice h → call z as h = some (w, h') → oNice h') (N : oNice h) (e : oStep call X lim y pc L S h = some r) : oNiceR h r := by
  unfold oStep at e
  split at e
  · unfold oIns at e
    simp only [Option.or_eq_some_iff] at e
    rcases e with e | ⟨-, e⟩
    · exact oNice_ofP N e
    rcases e with e | ⟨-, e⟩
    · exact oNice_ofP N e
    rcases e with e | ⟨-, e⟩
    · exact oNice_ofP N e
    rcases e with e | ⟨-, e⟩
    · exact oNice_ofP N e
    rcases e with e | ⟨-, e⟩
    · exact oNice_ofP N e
    rcases e with e | ⟨-, e⟩
    · exact oNice_g6 N e
    rcases e with e | ⟨-, e⟩
    · exact oNice_g7 N e
    rcases e with e | ⟨-, e⟩
    · exact oNice_g8 N e
    rcases e with e | ⟨-, e⟩
    · exact oNice_g9 hc N e
    exact oNice_g10 N e
  · cases e
theorem oNice_run (hc : ∀ z as h w h', oNice h → call z as h = some (w, h') → oNice h') : ∀ {k pc : Nat} {L S : List oV} {h h' : oH} {w : Option oV}, oNice h → oRun call X lim y k pc L S h = some (w, h') → oNice h' := by
  intro k
  induction k with
  | zero => intro pc L S h h' w _ hr; simp [oRun] at hr
  | succ k ih =>
    intro pc L S h h' w N hr
    unfold oRun at hr
    cases hs : oStep call X lim y pc L S h with
    | none => rw [hs] at hr; cases hr
    | some o =>
      have hn := oNice_step hc N hs
      rw [hs] at hr
      rcases o with ⟨pc1, L1, S1, h1⟩ | r1
      · exact ih hn hr
      · cases hr; exact hn
theorem oNice_exec {n : Nat} : ∀ {d z : Nat} {as : List oV} {h h' : oH} {w : Option oV}, oNice h → oExec n d z as h = some (w, h') → oNice h' := by
  intro d
  induction d with
  | zero => intro z as h h' w _ hr; simp [oExec] at hr
  | succ d ih =>
    intro z as h h' w N hr
    unfold oExec at hr
    split at hr
    · next v1 h1 hrun =>
      split at hr
      · cases hr
        exact oNice_run (fun z as h w h' N e => ih N e) N hrun
      · cases hr
    · cases hr
end ONI
/-! the heap after the constructors is a state's -/
def oFsOk : List (Option Nat) → List oV → Bool
  | [], [] => true
  | none :: r, .inl _ :: s => oFsOk r s
  | some a :: r, .inr (.inr (.inl b)) :: s => a == b && oFsOk r s
  | _, _ => false
def oCellOk : oSp → oC → Bool
  | .inl (ci, fs), .inl (ci', vs) => ci == ci' && oFsOk fs vs
  | .inr (.inl (t, n)), .inr (.inl (t', n', _)) => t == t' && n == n'
  | .inr (.inr (t, rs)), .inr (.inr (t', n', g)) => t == t' && (n' == rs.length && (List.range n').all (fun j => decide (g j = rs[j]?)))
  | _, _ => false
def oIntAt (l : List oV) (k : Nat) : Int := match l[k]? with
  | some (.inl x) => x
  | _ => 0
def oStOf (h : oH) : oSg := (fun q k => match h.2.2 q with
  | .inl (_, vs) => oIntAt vs k
  | _ => 0, fun q j => match h.2.2 q with
  | .inr (.inl (_, _, g)) => g j
  | _ => 0)
theorem oFsOk_fs {F : Nat → Int} : ∀ {fs : List (Option Nat)} {vs : List oV} {k : Nat}, oFsOk fs vs = true → (∀ j, F (k + j) = oIntAt vs j) → oFs F k fs = vs := by
  intro fs
  induction fs with
  | nil =>
    intro vs k h _
    cases vs with
    | nil => rfl
    | cons v vs => simp [oFsOk] at h
  | cons a fs ih =>
    intro vs k h hF
    cases vs with
    | nil => cases a <;> simp [oFsOk] at h
    | cons v vs =>
      have hF' : ∀ j, F (k + 1 + j) = oIntAt vs j := fun j => by
        have := hF (j + 1)
        rw [show k + 1 + j = k + (j + 1) by omega, this]
        unfold oIntAt
        rw [List.getElem?_cons_succ]
      cases a with
      | none =>
        rcases v with x | x | x | x
        · have h0 := hF 0
          show Sum.inl (F k) :: oFs F (k + 1) fs = _
          rw [ih h hF', show F k = x from h0]
        · simp [oFsOk] at h
        · simp [oFsOk] at h
        · simp [oFsOk] at h
      | some a =>
        rcases v with x | x | x | x
        · simp [oFsOk] at h
        · simp [oFsOk] at h
        · have h : (a == x && oFsOk fs vs) = true := h
          rw [Bool.and_eq_true] at h
          show Sum.inr (.inr (.inl a)) :: oFs F (k + 1) fs = _
          rw [ih h.2 hF', eq_of_beq h.1]
        · simp [oFsOk] at h
theorem oStOf_ok {h : oH} (N : oNice h) (h1 : h.1 = 89) (h2 : h.2.1 = 2141) (hc : ∀ q, q < 89 → oCellOk (oShp q) (h.2.2 q) = true) : h = oHb (oStOf h) := by
  obtain ⟨c, s, g⟩ := h
  cases h1
  cases h2
  show ((89 : Nat), (2141 : Nat), g) = (89, 2141, oBld (oStOf (89, 2141, g)))
  refine congrArg (fun w => ((89 : Nat), (2141 : Nat), w)) (funext fun q => ?_)
  by_cases hq : q < 89
  · have hk := hc q hq
    have hg : ∀ c, g q = c → oCellOk (oShp q) c = true := fun c e => e ▸ hk
    unfold oBld
    generalize hs : oShp q = sp at hk hg
    have e1 : ∀ k, (oStOf (89, 2141, g)).1 q k = (match g q with
      | .inl (_, vs) => oIntAt vs k
      | _ => 0) := fun _ => rfl
    have e2 : (oStOf (89, 2141, g)).2 q = (fun j => match g q with
      | .inr (.inl (_, _, g)) => g j
      | _ => 0) := rfl
    rcases sp with ⟨ci, fs⟩ | ⟨t, n⟩ | ⟨t, rs⟩
    · rcases hgq : g q with ⟨ci', vs⟩ | ⟨t', n', g'⟩ | ⟨t', n', g'⟩
      · have h3 : (ci == ci' && oFsOk fs vs) = true := hg _ hgq
        rw [Bool.and_eq_true] at h3
        show _ = (Sum.inl (ci, oFs ((oStOf (89, 2141, g)).1 q) 0 fs) : oC)
        rw [oFsOk_fs (vs := vs) (k := 0) h3.2 (fun j => by rw [Nat.zero_add, e1, hgq]), eq_of_beq h3.1]
      · exact absurd (hg _ hgq) (by simp [oCellOk])
      · exact absurd (hg _ hgq) (by simp [oCellOk])
    · rcases hgq : g q with ⟨ci', vs⟩ | ⟨t', n', g'⟩ | ⟨t', n', g'⟩
      · exact absurd (hg _ hgq) (by simp [oCellOk])
      · have h3 : (t == t' && n == n') = true := hg _ hgq
        rw [Bool.and_eq_true] at h3
        show _ = (Sum.inr (Sum.inl (t, n, (oStOf (89, 2141, g)).2 q)) : oC)
        rw [e2, hgq, eq_of_beq h3.1, eq_of_beq h3.2]
      · exact absurd (hg _ hgq) (by simp [oCellOk])
    · rcases hgq : g q with ⟨ci', vs⟩ | ⟨t', n', g'⟩ | ⟨t', n', g'⟩
      · exact absurd (hg _ hgq) (by simp [oCellOk])
      · exact absurd (hg _ hgq) (by simp [oCellOk])
      · have h3 : (t == t' && (n' == rs.length && (List.range n').all (fun j => decide (g' j = rs[j]?)))) = true := hg _ hgq
        rw [Bool.and_eq_true, Bool.and_eq_true] at h3
        show _ = (Sum.inr (Sum.inr (t, rs.length, fun j => rs[j]?)) : oC)
        have hn := eq_of_beq h3.2.1
        have : g' = fun j => rs[j]? := funext fun j => by
          by_cases hj : j < n'
          · exact of_decide_eq_true (List.all_eq_true.mp h3.2.2 j (List.mem_range.mpr hj))
          · rw [N.2 q t' n' g' hgq j (by omega)]
            exact (List.getElem?_eq_none (by omega)).symm
        rw [this, eq_of_beq h3.1, hn]
  · rw [show g q = .inl (0, []) from N.1 q (by show 89 ≤ q; omega)]
    unfold oBld
    have : oShp q = .inl (0, []) := by
      unfold oShp
      rw [List.getD_eq_getElem?_getD, List.getElem?_eq_none (by show oShL.length ≤ q; rw [show oShL.length = 89 by decide +kernel]; omega)]
      rfl
    rw [this]
    rfl

