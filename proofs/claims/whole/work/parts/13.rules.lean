/-! eleven: THE RULES of a run over a state, an instruction a rule -/
def oIsI (ci k : Nat) : Bool := match oTy ci k with
  | .int => true
  | .boolean => true
  | _ => false
/-- the kind of object a -/
def oKd (a : Nat) : Option Nat := if a < 89 then (match oShp a with
  | .inl (ci, _) => some ci
  | _ => none) else none
/-- the object that field k of object a refers to -/
def oRf (a k : Nat) : Nat := match oShp a with
  | .inl (_, fs) => (match fs[k]? with
    | some (some r) => r
    | _ => 0)
  | _ => 0
/-- the kind of row a; its length -/
def oAk (a : Nat) : Option Nat := if a < 89 then (match oShp a with
  | .inr (.inl (t, _)) => some t
  | .inr (.inr (t, _)) => some t
  | _ => none) else none
def oLn (a : Nat) : Nat := match oShp a with
  | .inr (.inl (_, n)) => n
  | .inr (.inr (_, rs)) => rs.length
  | _ => 0
/-- the object in place i of a row of references -/
def oRe (a i : Nat) : Nat := match oShp a with
  | .inr (.inr (_, rs)) => rs.getD i 0
  | _ => 0
def oSF (σ : oSg) (a k : Nat) (v : Int) : oSg := (fun q j => if q = a ∧ j = k then v else σ.1 q j, σ.2)
def oSA (σ : oSg) (a i : Nat) (v : Int) : oSg := (σ.1, fun q j => if q = a ∧ j = i then v else σ.2 q j)
/-- row b becomes g -/
def oSW (σ : oSg) (b : Nat) (g : Nat → Int) : oSg := (σ.1, fun q j => if q = b then g j else σ.2 q j)
def oCp (σ : oSg) (a : Nat) (sp : Int) (b : Nat) (dp n : Int) : oSg := oSW σ b (fun j => if dp ≤ (j : Int) ∧ (j : Int) < dp + n then σ.2 a (sp.toNat + (j - dp.toNat)) else σ.2 b j)
theorem oShp_chk : ((List.range 89).all fun q => match oShp q with
  | .inl (ci, fs) => decide (ci < 12) && (decide (fs.length = oLen ci) && ((List.range (oLen ci)).all fun k => match fs[k]? with
    | some none => oIsI ci k
    | some (some _) => !oIsI ci k
    | none => false))
  | .inr (.inl (t, n)) => decide (t < 3) && decide (n < 1000)
  | .inr (.inr (t, _)) => decide (t = 3) || decide (t = 4)) = true := by decide +kernel
theorem oKd_spec {a ci : Nat} (h : oKd a = some ci) : a < 89 ∧ ∃ fs, oShp a = .inl (ci, fs) ∧ fs.length = oLen ci ∧ ∀ k, k < oLen ci → (oIsI ci k = true → fs[k]? = some none) ∧ (oIsI ci k = false → fs[k]? = some (some (oRf a k))) := by
  unfold oKd at h
  split at h
  · next ha =>
    have hc := List.all_eq_true.mp oShp_chk a (List.mem_range.mpr ha)
    split at h
    · next c0 fs he =>
      cases h
      rw [he] at hc
      dsimp only at hc
      simp only [Bool.and_eq_true, decide_eq_true_eq] at hc
      obtain ⟨-, h2, h3⟩ := hc
      refine ⟨ha, fs, he, h2, fun k hk => ?_⟩
      have h4 := List.all_eq_true.mp h3 k (List.mem_range.mpr hk)
      have e : ∀ r, fs[k]? = some (some r) → oRf a k = r := by
        intro r hr
        unfold oRf
        rw [he]
        dsimp only
        rw [hr]
      cases hk2 : fs[k]? with
      | none => rw [hk2] at h4; simp at h4
      | some w =>
        cases w with
        | none => rw [hk2] at h4; exact ⟨fun _ => rfl, (fun z => by rw [z] at h4; cases h4)⟩
        | some r => rw [hk2] at h4; rw [e r hk2]; exact ⟨(fun z => by rw [z] at h4; cases h4), fun _ => rfl⟩
    · cases h
  · cases h
theorem oFs_get (F : Nat → Int) : ∀ (fs : List (Option Nat)) (k0 k : Nat), (oFs F k0 fs)[k]? = (fs[k]?).map (fun r => match r with
    | none => (.inl (F (k0 + k)) : oV)
    | some a => .inr (.inr (.inl a)))
  | [], k0, k => by simp [oFs]
  | none :: r, k0, 0 => by simp [oFs]
  | some a :: r, k0, 0 => by simp [oFs]
  | none :: r, k0, k + 1 => by
    have := oFs_get F r (k0 + 1) k
    simp only [oFs, List.getElem?_cons_succ, this]
    rw [show k0 + 1 + k = k0 + (k + 1) by omega]
  | some a :: r, k0, k + 1 => by
    have := oFs_get F r (k0 + 1) k
    simp only [oFs, List.getElem?_cons_succ, this]
    rw [show k0 + 1 + k = k0 + (k + 1) by omega]
theorem oFs_len (F : Nat → Int) : ∀ (fs : List (Option Nat)) (k0 : Nat), (oFs F k0 fs).length = fs.length
  | [], k0 => rfl
  | none :: r, k0 => by simp [oFs, oFs_len F r]
  | some a :: r, k0 => by simp [oFs, oFs_len F r]
theorem oBld_obj {σ : oSg} {a ci : Nat} {fs : List (Option Nat)} (h : oShp a = .inl (ci, fs)) : oBld σ a = .inl (ci, oFs (σ.1 a) 0 fs) := by
  unfold oBld
  rw [h]
theorem oBld_SF {σ : oSg} {a ci k : Nat} {fs : List (Option Nat)} (h : oShp a = .inl (ci, fs)) (hk : fs[k]? = some none) (v : Int) : oSet (oBld σ) a (.inl (ci, (oFs (σ.1 a) 0 fs).set k (.inl v))) = oBld (oSF σ a k v) := by
  funext q
  unfold oSet
  by_cases e : q = a
  · subst e
    rw [if_pos rfl, oBld_obj h]
    congr 2
    apply List.ext_getElem?
    intro j
    have hkl : k < fs.length := (List.getElem?_eq_some_iff.mp hk).1
    rw [oFs_get, List.getElem?_set, oFs_len, oFs_get]
    by_cases e2 : k = j
    · subst e2
      rw [if_pos rfl, if_pos hkl, hk]
      simp [oSF]
    · rw [if_neg e2]
      congr 1
      funext r
      cases r with
      | none => simp [oSF, Ne.symm e2]
      | some a2 => rfl
  · rw [if_neg e]
    unfold oBld
    have e1 : (oSF σ a k v).1 q = σ.1 q := by
      funext j
      simp [oSF, e]
    rw [e1]
    rfl
theorem oBld_row {σ : oSg} {a t n : Nat} (h : oShp a = .inr (.inl (t, n))) : oBld σ a = .inr (.inl (t, n, σ.2 a)) := by
  unfold oBld
  rw [h]
theorem oBld_SW {σ : oSg} {a t n : Nat} (h : oShp a = .inr (.inl (t, n))) (g : Nat → Int) : oSet (oBld σ) a (.inr (.inl (t, n, g))) = oBld (oSW σ a g) := by
  funext q
  unfold oSet
  by_cases e : q = a
  · subst e
    rw [if_pos rfl, oBld_row h]
    simp [oSW]
  · rw [if_neg e]
    unfold oBld
    have e1 : (oSW σ a g).2 q = σ.2 q := by
      funext j
      simp [oSW, e]
    rw [e1]
    rfl
theorem oSA_SW {σ : oSg} {a i : Nat} {v : Int} : oSA σ a i v = oSW σ a (oUp (σ.2 a) i v) := by
  unfold oSA oSW oUp
  congr 1
  funext q j
  by_cases e : q = a
  · subst e
    by_cases e2 : j = i
    · simp [e2]
    · simp [e2]
  · simp [e]
theorem oAk_spec {a t : Nat} (h : oAk a = some t) : a < 89 ∧ ((t < 3 ∧ oShp a = .inr (.inl (t, oLn a)) ∧ oLn a < 1000) ∨ ((t = 3 ∨ t = 4) ∧ ∃ rs, oShp a = .inr (.inr (t, rs)) ∧ rs.length = oLn a)) := by
  unfold oAk at h
  split at h
  · next ha =>
    have hc := List.all_eq_true.mp oShp_chk a (List.mem_range.mpr ha)
    split at h
    · next t0 n he =>
      cases h
      have e : oLn a = n := by unfold oLn; rw [he]
      rw [he] at hc
      simp only [Bool.and_eq_true, decide_eq_true_eq] at hc
      exact ⟨ha, Or.inl ⟨hc.1, by rw [e]; exact he, by rw [e]; exact hc.2⟩⟩
    · next t0 rs he =>
      cases h
      have e : oLn a = rs.length := by unfold oLn; rw [he]
      rw [he] at hc
      simp only [Bool.or_eq_true, decide_eq_true_eq] at hc
      exact ⟨ha, Or.inr ⟨hc, rs, he, e.symm⟩⟩
    · cases h
  · cases h
theorem oAk_num {a t : Nat} (h : oAk a = some t) (ht : t < 3) : a < 89 ∧ oShp a = .inr (.inl (t, oLn a)) ∧ oLn a < 1000 := by
  obtain ⟨h1, h2⟩ := oAk_spec h
  rcases h2 with ⟨-, h3, h4⟩ | ⟨h3, -⟩
  · exact ⟨h1, h3, h4⟩
  · omega
section ORL
variable {call : oCall} {X : oXs} {lim : Nat × Nat} {d y pc pc' : Nat} {L S L' S' : List oV} {σ σ' : oSg} {Q : Option oV → (Nat → oC) → Prop} {q : Instr × Nat} {h : oH}
theorem oIns1 {r : oP} (h1 : oG1 q pc L S = some r) : oIns call X lim y q pc L S h = some (.inl (r.1, r.2.1, r.2.2, h)) := by
  unfold oIns; rw [h1]; rfl
theorem oIns2 {r : oP} (h1 : oG1 q pc L S = none) (h2 : oG2 q pc L S = some r) : oIns call X lim y q pc L S h = some (.inl (r.1, r.2.1, r.2.2, h)) := by
  unfold oIns; rw [h1, h2]; rfl
theorem oIns3 {r : oP} (h1 : oG1 q pc L S = none) (h2 : oG2 q pc L S = none) (h3 : oG3 q pc L S = some r) : oIns call X lim y q pc L S h = some (.inl (r.1, r.2.1, r.2.2, h)) := by
  unfold oIns; rw [h1, h2, h3]; rfl
theorem oIns4 {r : oP} (h1 : oG1 q pc L S = none) (h2 : oG2 q pc L S = none) (h3 : oG3 q pc L S = none) (h4 : oG4 q pc L S = some r) : oIns call X lim y q pc L S h = some (.inl (r.1, r.2.1, r.2.2, h)) := by
  unfold oIns; rw [h1, h2, h3, h4]; rfl
theorem oIns5 {r : oP} (h1 : oG1 q pc L S = none) (h2 : oG2 q pc L S = none) (h3 : oG3 q pc L S = none) (h4 : oG4 q pc L S = none) (h5 : oG5 q pc L S = some r) : oIns call X lim y q pc L S h = some (.inl (r.1, r.2.1, r.2.2, h)) := by
  unfold oIns; rw [h1, h2, h3, h4, h5]; rfl
/-- none of the first five kinds -/
def oNo5 (q : Instr × Nat) (pc : Nat) (L S : List oV) : Prop := oG1 q pc L S = none ∧ oG2 q pc L S = none ∧ oG3 q pc L S = none ∧ oG4 q pc L S = none ∧ oG5 q pc L S = none
theorem oIns6 {r : oR} (h0 : oNo5 q pc L S) (h1 : oG6 X (oMt y).2.2.2.2.1 q pc L S h = some r) : oIns call X lim y q pc L S h = some r := by
  obtain ⟨a1, a2, a3, a4, a5⟩ := h0
  unfold oIns; rw [a1, a2, a3, a4, a5, h1]; rfl
theorem oIns7 {r : oR} (h0 : oNo5 q pc L S) (h1 : oG6 X (oMt y).2.2.2.2.1 q pc L S h = none) (h2 : oG7 (oMt y).2.2.2.2.1 (oIni y) q pc L S h = some r) : oIns call X lim y q pc L S h = some r := by
  obtain ⟨a1, a2, a3, a4, a5⟩ := h0
  unfold oIns; rw [a1, a2, a3, a4, a5, h1, h2]; rfl
theorem oIns9 (h0 : oNo5 q pc L S) (h1 : oG6 X (oMt y).2.2.2.2.1 q pc L S h = none) (h2 : oG7 (oMt y).2.2.2.2.1 (oIni y) q pc L S h = none) (h3 : oG8 lim (oMt y).2.2.2.2.1 q pc L S h = none) (h4 : oG10 lim (oMt y).2.2.2.1 q S h = none) : oIns call X lim y q pc L S h = oG9 call lim (oMt y).2.2.2.2.1 (oIni y) q pc L S h := by
  obtain ⟨a1, a2, a3, a4, a5⟩ := h0
  unfold oIns; rw [a1, a2, a3, a4, a5, h1, h2, h3, h4]
  show (oG9 call lim _ _ q pc L S h).or none = _
  rw [Option.or_none]
theorem oIns10 {r : Option oV × oH} (h0 : oNo5 q pc L S) (h1 : oG6 X (oMt y).2.2.2.2.1 q pc L S h = none) (h2 : oG7 (oMt y).2.2.2.2.1 (oIni y) q pc L S h = none) (h3 : oG8 lim (oMt y).2.2.2.2.1 q pc L S h = none) (h4 : oG9 call lim (oMt y).2.2.2.2.1 (oIni y) q pc L S h = none) (h5 : oG10 lim (oMt y).2.2.2.1 q S h = some r) : oIns call X lim y q pc L S h = some (.inr r) := by
  obtain ⟨a1, a2, a3, a4, a5⟩ := h0
  unfold oIns; rw [a1, a2, a3, a4, a5, h1, h2, h3, h4, h5]
  rfl
theorem oStep_of (hf : oFet y pc = some q) : oStep call X lim y pc L S h = oIns call X lim y q pc L S h := by
  unfold oStep
  rw [hf]
theorem oS1 (hf : oFet y pc = some q) (h1 : oG1 q pc L S = some (pc', L', S')) : oE d y pc L S σ Q = oE d y pc' L' S' σ Q := oE_go fun call => (oStep_of hf).trans (oIns1 h1)
theorem oS2 (hf : oFet y pc = some q) (h1 : oG1 q pc L S = none) (h2 : oG2 q pc L S = some (pc', L', S')) : oE d y pc L S σ Q = oE d y pc' L' S' σ Q := oE_go fun call => (oStep_of hf).trans (oIns2 h1 h2)
theorem oS3 (hf : oFet y pc = some q) (h1 : oG1 q pc L S = none) (h2 : oG2 q pc L S = none) (h3 : oG3 q pc L S = some (pc', L', S')) : oE d y pc L S σ Q = oE d y pc' L' S' σ Q := oE_go fun call => (oStep_of hf).trans (oIns3 h1 h2 h3)
theorem oS4 (hf : oFet y pc = some q) (h1 : oG1 q pc L S = none) (h2 : oG2 q pc L S = none) (h3 : oG3 q pc L S = none) (h4 : oG4 q pc L S = some (pc', L', S')) : oE d y pc L S σ Q = oE d y pc' L' S' σ Q := oE_go fun call => (oStep_of hf).trans (oIns4 h1 h2 h3 h4)
theorem oS5 (hf : oFet y pc = some q) (h1 : oG1 q pc L S = none) (h2 : oG2 q pc L S = none) (h3 : oG3 q pc L S = none) (h4 : oG4 q pc L S = none) (h5 : oG5 q pc L S = some (pc', L', S')) : oE d y pc L S σ Q = oE d y pc' L' S' σ Q := oE_go fun call => (oStep_of hf).trans (oIns5 h1 h2 h3 h4 h5)
theorem oS6 (hf : oFet y pc = some q) (h0 : oNo5 q pc L S) (h1 : oG6 oX0 (oMt y).2.2.2.2.1 q pc L S (oHb σ) = some (.inl (pc', L', S', oHb σ'))) : oE d y pc L S σ Q = oE d y pc' L' S' σ' Q := oE_go fun call => (oStep_of hf).trans (oIns6 h0 h1)
theorem oS7 (hf : oFet y pc = some q) (h0 : oNo5 q pc L S) (h1 : oG6 oX0 (oMt y).2.2.2.2.1 q pc L S (oHb σ) = none) (h2 : oG7 (oMt y).2.2.2.2.1 (oIni y) q pc L S (oHb σ) = some (.inl (pc', L', S', oHb σ'))) : oE d y pc L S σ Q = oE d y pc' L' S' σ' Q := oE_go fun call => (oStep_of hf).trans (oIns7 h0 h1 h2)
theorem oNo5s {q : Instr × Nat} (a1 : oG1 q pc L S = none) (a2 : oG2 q pc L S = none) (a3 : oG3 q pc L S = none) (a4 : oG4 q pc L S = none) (a5 : oG5 q pc L S = none) : oNo5 q pc L S := ⟨a1, a2, a3, a4, a5⟩
theorem oBr {c : Prop} [hdc : Decidable c] {pa pb : Nat} {La Sa Lb Sb : List oV} (ht : c → oE d y pc L S σ Q = oE d y pa La Sa σ Q) (hf : ¬ c → oE d y pc L S σ Q = oE d y pb Lb Sb σ Q) : oE d y pc L S σ Q = if c then oE d y pa La Sa σ Q else oE d y pb Lb Sb σ Q := by
  by_cases hc : c
  · rw [if_pos hc]; exact ht hc
  · rw [if_neg hc]; exact hf hc
theorem oIfEq {x : Int} {off : Int} {t : Nat} (hf : oFet y pc = some (.ifCond .eq off, 3)) (hj : oJmp pc off = some t) : oE d y pc L (.inl x :: S) σ Q = if x = 0 then oE d y t L S σ Q else oE d y (pc + 3) L S σ Q := by
  refine oBr (fun hc => oS5 hf rfl rfl rfl rfl ?_) (fun hc => oS5 hf rfl rfl rfl rfl ?_)
  · show (if oTst .eq x 0 = true then oTo L S (oJmp pc off) else some (pc + 3, L, S)) = _
    rw [if_pos (by simpa [oTst] using hc), hj]; rfl
  · show (if oTst .eq x 0 = true then oTo L S (oJmp pc off) else some (pc + 3, L, S)) = _
    rw [if_neg (by simpa [oTst] using hc)]
theorem oCmpEq {x z : Int} {off : Int} {t : Nat} (hf : oFet y pc = some (.if_icmp .eq off, 3)) (hj : oJmp pc off = some t) : oE d y pc L (.inl z :: .inl x :: S) σ Q = if x = z then oE d y t L S σ Q else oE d y (pc + 3) L S σ Q := by
  refine oBr (fun hc => oS5 hf rfl rfl rfl rfl ?_) (fun hc => oS5 hf rfl rfl rfl rfl ?_)
  · show (if oTst .eq x z = true then oTo L S (oJmp pc off) else some (pc + 3, L, S)) = _
    rw [if_pos (by simpa [oTst] using hc), hj]; rfl
  · show (if oTst .eq x z = true then oTo L S (oJmp pc off) else some (pc + 3, L, S)) = _
    rw [if_neg (by simpa [oTst] using hc)]
theorem oIfNe {x : Int} {off : Int} {t : Nat} (hf : oFet y pc = some (.ifCond .ne off, 3)) (hj : oJmp pc off = some t) : oE d y pc L (.inl x :: S) σ Q = if ¬ x = 0 then oE d y t L S σ Q else oE d y (pc + 3) L S σ Q := by
  refine oBr (fun hc => oS5 hf rfl rfl rfl rfl ?_) (fun hc => oS5 hf rfl rfl rfl rfl ?_)
  · show (if oTst .ne x 0 = true then oTo L S (oJmp pc off) else some (pc + 3, L, S)) = _
    rw [if_pos (by simpa [oTst] using hc), hj]; rfl
  · show (if oTst .ne x 0 = true then oTo L S (oJmp pc off) else some (pc + 3, L, S)) = _
    rw [if_neg (by simpa [oTst] using hc)]
theorem oCmpNe {x z : Int} {off : Int} {t : Nat} (hf : oFet y pc = some (.if_icmp .ne off, 3)) (hj : oJmp pc off = some t) : oE d y pc L (.inl z :: .inl x :: S) σ Q = if ¬ x = z then oE d y t L S σ Q else oE d y (pc + 3) L S σ Q := by
  refine oBr (fun hc => oS5 hf rfl rfl rfl rfl ?_) (fun hc => oS5 hf rfl rfl rfl rfl ?_)
  · show (if oTst .ne x z = true then oTo L S (oJmp pc off) else some (pc + 3, L, S)) = _
    rw [if_pos (by simpa [oTst] using hc), hj]; rfl
  · show (if oTst .ne x z = true then oTo L S (oJmp pc off) else some (pc + 3, L, S)) = _
    rw [if_neg (by simpa [oTst] using hc)]
theorem oIfLt {x : Int} {off : Int} {t : Nat} (hf : oFet y pc = some (.ifCond .lt off, 3)) (hj : oJmp pc off = some t) : oE d y pc L (.inl x :: S) σ Q = if x < 0 then oE d y t L S σ Q else oE d y (pc + 3) L S σ Q := by
  refine oBr (fun hc => oS5 hf rfl rfl rfl rfl ?_) (fun hc => oS5 hf rfl rfl rfl rfl ?_)
  · show (if oTst .lt x 0 = true then oTo L S (oJmp pc off) else some (pc + 3, L, S)) = _
    rw [if_pos (by simpa [oTst] using hc), hj]; rfl
  · show (if oTst .lt x 0 = true then oTo L S (oJmp pc off) else some (pc + 3, L, S)) = _
    rw [if_neg (by simpa [oTst] using hc)]
theorem oCmpLt {x z : Int} {off : Int} {t : Nat} (hf : oFet y pc = some (.if_icmp .lt off, 3)) (hj : oJmp pc off = some t) : oE d y pc L (.inl z :: .inl x :: S) σ Q = if x < z then oE d y t L S σ Q else oE d y (pc + 3) L S σ Q := by
  refine oBr (fun hc => oS5 hf rfl rfl rfl rfl ?_) (fun hc => oS5 hf rfl rfl rfl rfl ?_)
  · show (if oTst .lt x z = true then oTo L S (oJmp pc off) else some (pc + 3, L, S)) = _
    rw [if_pos (by simpa [oTst] using hc), hj]; rfl
  · show (if oTst .lt x z = true then oTo L S (oJmp pc off) else some (pc + 3, L, S)) = _
    rw [if_neg (by simpa [oTst] using hc)]
theorem oIfGe {x : Int} {off : Int} {t : Nat} (hf : oFet y pc = some (.ifCond .ge off, 3)) (hj : oJmp pc off = some t) : oE d y pc L (.inl x :: S) σ Q = if 0 ≤ x then oE d y t L S σ Q else oE d y (pc + 3) L S σ Q := by
  refine oBr (fun hc => oS5 hf rfl rfl rfl rfl ?_) (fun hc => oS5 hf rfl rfl rfl rfl ?_)
  · show (if oTst .ge x 0 = true then oTo L S (oJmp pc off) else some (pc + 3, L, S)) = _
    rw [if_pos (by simpa [oTst] using hc), hj]; rfl
  · show (if oTst .ge x 0 = true then oTo L S (oJmp pc off) else some (pc + 3, L, S)) = _
    rw [if_neg (by simpa [oTst] using hc)]
theorem oCmpGe {x z : Int} {off : Int} {t : Nat} (hf : oFet y pc = some (.if_icmp .ge off, 3)) (hj : oJmp pc off = some t) : oE d y pc L (.inl z :: .inl x :: S) σ Q = if z ≤ x then oE d y t L S σ Q else oE d y (pc + 3) L S σ Q := by
  refine oBr (fun hc => oS5 hf rfl rfl rfl rfl ?_) (fun hc => oS5 hf rfl rfl rfl rfl ?_)
  · show (if oTst .ge x z = true then oTo L S (oJmp pc off) else some (pc + 3, L, S)) = _
    rw [if_pos (by simpa [oTst] using hc), hj]; rfl
  · show (if oTst .ge x z = true then oTo L S (oJmp pc off) else some (pc + 3, L, S)) = _
    rw [if_neg (by simpa [oTst] using hc)]
theorem oIfGt {x : Int} {off : Int} {t : Nat} (hf : oFet y pc = some (.ifCond .gt off, 3)) (hj : oJmp pc off = some t) : oE d y pc L (.inl x :: S) σ Q = if 0 < x then oE d y t L S σ Q else oE d y (pc + 3) L S σ Q := by
  refine oBr (fun hc => oS5 hf rfl rfl rfl rfl ?_) (fun hc => oS5 hf rfl rfl rfl rfl ?_)
  · show (if oTst .gt x 0 = true then oTo L S (oJmp pc off) else some (pc + 3, L, S)) = _
    rw [if_pos (by simpa [oTst] using hc), hj]; rfl
  · show (if oTst .gt x 0 = true then oTo L S (oJmp pc off) else some (pc + 3, L, S)) = _
    rw [if_neg (by simpa [oTst] using hc)]
theorem oCmpGt {x z : Int} {off : Int} {t : Nat} (hf : oFet y pc = some (.if_icmp .gt off, 3)) (hj : oJmp pc off = some t) : oE d y pc L (.inl z :: .inl x :: S) σ Q = if z < x then oE d y t L S σ Q else oE d y (pc + 3) L S σ Q := by
  refine oBr (fun hc => oS5 hf rfl rfl rfl rfl ?_) (fun hc => oS5 hf rfl rfl rfl rfl ?_)
  · show (if oTst .gt x z = true then oTo L S (oJmp pc off) else some (pc + 3, L, S)) = _
    rw [if_pos (by simpa [oTst] using hc), hj]; rfl
  · show (if oTst .gt x z = true then oTo L S (oJmp pc off) else some (pc + 3, L, S)) = _
    rw [if_neg (by simpa [oTst] using hc)]
theorem oIfLe {x : Int} {off : Int} {t : Nat} (hf : oFet y pc = some (.ifCond .le off, 3)) (hj : oJmp pc off = some t) : oE d y pc L (.inl x :: S) σ Q = if x ≤ 0 then oE d y t L S σ Q else oE d y (pc + 3) L S σ Q := by
  refine oBr (fun hc => oS5 hf rfl rfl rfl rfl ?_) (fun hc => oS5 hf rfl rfl rfl rfl ?_)
  · show (if oTst .le x 0 = true then oTo L S (oJmp pc off) else some (pc + 3, L, S)) = _
    rw [if_pos (by simpa [oTst] using hc), hj]; rfl
  · show (if oTst .le x 0 = true then oTo L S (oJmp pc off) else some (pc + 3, L, S)) = _
    rw [if_neg (by simpa [oTst] using hc)]
theorem oCmpLe {x z : Int} {off : Int} {t : Nat} (hf : oFet y pc = some (.if_icmp .le off, 3)) (hj : oJmp pc off = some t) : oE d y pc L (.inl z :: .inl x :: S) σ Q = if x ≤ z then oE d y t L S σ Q else oE d y (pc + 3) L S σ Q := by
  refine oBr (fun hc => oS5 hf rfl rfl rfl rfl ?_) (fun hc => oS5 hf rfl rfl rfl rfl ?_)
  · show (if oTst .le x z = true then oTo L S (oJmp pc off) else some (pc + 3, L, S)) = _
    rw [if_pos (by simpa [oTst] using hc), hj]; rfl
  · show (if oTst .le x z = true then oTo L S (oJmp pc off) else some (pc + 3, L, S)) = _
    rw [if_neg (by simpa [oTst] using hc)]
theorem oTabOut {x dd lo hi : Int} {offs : Array Int} {len t : Nat} (hf : oFet y pc = some (.tableswitch dd lo hi offs, len)) (hx : x < lo ∨ hi < x) (hj : oJmp pc dd = some t) : oE d y pc L (.inl x :: S) σ Q = oE d y t L S σ Q := by
  refine oS5 hf rfl rfl rfl rfl ?_
  show (if x < lo ∨ hi < x then oTo L S (oJmp pc dd) else _) = _
  rw [if_pos hx, hj]; rfl
theorem oTabIn {x dd lo hi off : Int} {offs : Array Int} {len t : Nat} (hf : oFet y pc = some (.tableswitch dd lo hi offs, len)) (hx : ¬ (x < lo ∨ hi < x)) (ho : offs[(x - lo).toNat]? = some off) (hj : oJmp pc off = some t) : oE d y pc L (.inl x :: S) σ Q = oE d y t L S σ Q := by
  refine oS5 hf rfl rfl rfl rfl ?_
  show (if x < lo ∨ hi < x then oTo L S (oJmp pc dd) else match offs[(x - lo).toNat]? with
    | some off => oTo L S (oJmp pc off)
    | none => none) = _
  rw [if_neg hx, ho]
  show oTo L S (oJmp pc off) = _
  rw [hj]; rfl
theorem oLook {x dd off : Int} {ps : Array (Int × Int)} {len t : Nat} (hf : oFet y pc = some (.lookupswitch dd ps, len)) (hs : (ps.toList.zip (ps.toList.drop 1)).all (fun (a, next) => a.1 < next.1) = true) (ho : Op.lookupswitch.offset ps.toList dd x = off) (hj : oJmp pc off = some t) : oE d y pc L (.inl x :: S) σ Q = oE d y t L S σ Q := by
  refine oS5 hf rfl rfl rfl rfl ?_
  show (if (ps.toList.zip (ps.toList.drop 1)).all (fun (a, next) => a.1 < next.1) = true then oTo L S (oJmp pc (Op.lookupswitch.offset ps.toList dd x)) else none) = _
  rw [if_pos hs, ho, hj]; rfl
/-- getfield of an int -/
theorem oGfI {a i ci k : Nat} (hf : oFet y pc = some (.getfield i, 3)) (hl : oFld (oMt y).2.2.2.2.1 i = some (ci, k)) (hi : oIsI ci k = true) (hn : k < oLen ci) (hk : oKd a = some ci) : oE d y pc L (.inr (.inr (.inl a)) :: S) σ Q = oE d y (pc + 3) L (.inl (σ.1 a k) :: S) σ Q := by
  obtain ⟨ha, fs, he, hlen, hfs⟩ := oKd_spec hk
  refine oS6 hf (oNo5s rfl rfl rfl rfl rfl) ?_
  show (match oFld (oMt y).2.2.2.2.1 i with
    | some (ci, k) => oPushH 3 pc L S (oHb σ) (oFldOf (oHb σ) a ci k)
    | none => none) = _
  rw [hl]
  show oPushH 3 pc L S (oHb σ) (oFldOf (oHb σ) a ci k) = _
  have e : oFldOf (oHb σ) a ci k = some (.inl (σ.1 a k)) := by
    unfold oFldOf
    rw [if_pos ha]
    show (match oBld σ a with
      | .inl (c, fs) => if c = ci then fs[k]? else none
      | _ => none) = _
    rw [oBld_obj he]
    show (if ci = ci then (oFs (σ.1 a) 0 fs)[k]? else none) = _
    rw [if_pos rfl, oFs_get, (hfs k hn).1 hi, Option.map_some, Nat.zero_add]
  rw [e]; rfl
/-- getfield of a reference -/
theorem oGfR {a i ci k : Nat} (hf : oFet y pc = some (.getfield i, 3)) (hl : oFld (oMt y).2.2.2.2.1 i = some (ci, k)) (hi : oIsI ci k = false) (hn : k < oLen ci) (hk : oKd a = some ci) : oE d y pc L (.inr (.inr (.inl a)) :: S) σ Q = oE d y (pc + 3) L (.inr (.inr (.inl (oRf a k))) :: S) σ Q := by
  obtain ⟨ha, fs, he, hlen, hfs⟩ := oKd_spec hk
  refine oS6 hf (oNo5s rfl rfl rfl rfl rfl) ?_
  show (match oFld (oMt y).2.2.2.2.1 i with
    | some (ci, k) => oPushH 3 pc L S (oHb σ) (oFldOf (oHb σ) a ci k)
    | none => none) = _
  rw [hl]
  show oPushH 3 pc L S (oHb σ) (oFldOf (oHb σ) a ci k) = _
  have e : oFldOf (oHb σ) a ci k = some (.inr (.inr (.inl (oRf a k)))) := by
    unfold oFldOf
    rw [if_pos ha]
    show (match oBld σ a with
      | .inl (c, fs) => if c = ci then fs[k]? else none
      | _ => none) = _
    rw [oBld_obj he]
    show (if ci = ci then (oFs (σ.1 a) 0 fs)[k]? else none) = _
    rw [if_pos rfl, oFs_get, (hfs k hn).2 hi, Option.map_some]
  rw [e]; rfl
theorem oEl_of {a t : Nat} {i : Int} (hk : oAk a = some t) (ht : t < 3) (h0 : 0 ≤ i) (h1 : i < (oLn a : Int)) : oEl (oHb σ) a t i = some (σ.2 a i.toNat) := by
  obtain ⟨ha, he, -⟩ := oAk_num hk ht
  unfold oEl
  rw [if_pos ha]
  show (match oBld σ a with
    | .inr (.inl (t1, n, f)) => if t1 = t ∧ 0 ≤ i ∧ i < n then some (f i.toNat) else none
    | _ => none) = _
  rw [oBld_row he]
  exact if_pos (⟨rfl, h0, h1⟩ : t = t ∧ 0 ≤ i ∧ i < (oLn a : Int))
theorem oIal {a : Nat} {i : Int} (hf : oFet y pc = some (.iaload, 1)) (hk : oAk a = some 0) (h0 : 0 ≤ i) (h1 : i < (oLn a : Int)) : oE d y pc L (.inl i :: .inr (.inr (.inl a)) :: S) σ Q = oE d y (pc + 1) L (.inl (σ.2 a i.toNat) :: S) σ Q := by
  refine oS6 hf (oNo5s rfl rfl rfl rfl rfl) ?_
  show oPushH 1 pc L S (oHb σ) (oInt (oEl (oHb σ) a 0 i)) = _
  rw [oEl_of hk (by decide) h0 h1]; rfl
theorem oBal {a : Nat} {i : Int} (hf : oFet y pc = some (.baload, 1)) (hk : oAk a = some 2) (h0 : 0 ≤ i) (h1 : i < (oLn a : Int)) : oE d y pc L (.inl i :: .inr (.inr (.inl a)) :: S) σ Q = oE d y (pc + 1) L (.inl (σ.2 a i.toNat) :: S) σ Q := by
  refine oS6 hf (oNo5s rfl rfl rfl rfl rfl) ?_
  show oPushH 1 pc L S (oHb σ) (oInt (oEl (oHb σ) a 2 i)) = _
  rw [oEl_of hk (by decide) h0 h1]; rfl
theorem oLal {a : Nat} {i : Int} (hf : oFet y pc = some (.laload, 1)) (hk : oAk a = some 1) (h0 : 0 ≤ i) (h1 : i < (oLn a : Int)) : oE d y pc L (.inl i :: .inr (.inr (.inl a)) :: S) σ Q = oE d y (pc + 1) L (.inr (.inl (σ.2 a i.toNat)) :: S) σ Q := by
  refine oS6 hf (oNo5s rfl rfl rfl rfl rfl) ?_
  show oPushH 1 pc L S (oHb σ) (oLong (oEl (oHb σ) a 1 i)) = _
  rw [oEl_of hk (by decide) h0 h1]; rfl
theorem oAal {a t : Nat} {i : Int} (hf : oFet y pc = some (.aaload, 1)) (hk : oAk a = some t) (ht : 3 ≤ t) (h0 : 0 ≤ i) (h1 : i < (oLn a : Int)) : oE d y pc L (.inl i :: .inr (.inr (.inl a)) :: S) σ Q = oE d y (pc + 1) L (.inr (.inr (.inl (oRe a i.toNat))) :: S) σ Q := by
  obtain ⟨ha, h2⟩ := oAk_spec hk
  rcases h2 with ⟨h3, -⟩ | ⟨-, rs, he, hlen⟩
  · omega
  refine oS6 hf (oNo5s rfl rfl rfl rfl rfl) ?_
  show oPushH 1 pc L S (oHb σ) (oElR (oHb σ) a i) = _
  have e : oElR (oHb σ) a i = some (.inr (.inr (.inl (oRe a i.toNat)))) := by
    unfold oElR
    rw [if_pos ha]
    have eb : (oHb σ).2.2 a = .inr (.inr (t, rs.length, fun j => rs[j]?)) := by
      show oBld σ a = _
      unfold oBld
      rw [he]
    rw [eb]
    have hc : 0 ≤ i ∧ i < ((rs.length : Nat) : Int) := ⟨h0, by rw [hlen]; exact h1⟩
    dsimp only
    rw [if_pos hc]
    have hlt : i.toNat < rs.length := by omega
    have e2 : oRe a i.toNat = rs[i.toNat] := by
      unfold oRe
      rw [he]
      simp [hlt]
    rw [List.getElem?_eq_getElem hlt, e2]
  rw [e]; rfl
theorem oAln {a t : Nat} (hf : oFet y pc = some (.arraylength, 1)) (hk : oAk a = some t) (ht : t < 3) : oE d y pc L (.inr (.inr (.inl a)) :: S) σ Q = oE d y (pc + 1) L (.inl (oLn a : Int) :: S) σ Q := by
  obtain ⟨ha, he, hl⟩ := oAk_num hk ht
  refine oS6 hf (oNo5s rfl rfl rfl rfl rfl) ?_
  show oPushH 1 pc L S (oHb σ) (oInt (oLenOf (oHb σ) a)) = _
  have e : oLenOf (oHb σ) a = some (oLn a : Int) := by
    unfold oLenOf
    rw [if_pos ha]
    have eb : (oHb σ).2.2 a = .inr (.inl (t, oLn a, σ.2 a)) := oBld_row he
    rw [eb]
    exact if_pos (show oLn a < 2147483648 by omega)
  rw [e]; rfl
theorem oLdcW {i : Nat} {z : Int} (hf : oFet y pc = some (.ldc_w i, 3)) (hk : oKonI (oMt y).2.2.2.2.1 i = some z) : oE d y pc L S σ Q = oE d y (pc + 3) L (.inl z :: S) σ Q := by
  refine oS6 hf (oNo5s rfl rfl rfl rfl rfl) ?_
  show oPushH 3 pc L S (oHb σ) (oInt (oKonI (oMt y).2.2.2.2.1 i)) = _
  rw [hk]; rfl
theorem oLdc2 {i : Nat} {z : Int} (hf : oFet y pc = some (.ldc2_w i, 3)) (hk : oKonL (oMt y).2.2.2.2.1 i = some z) : oE d y pc L S σ Q = oE d y (pc + 3) L (.inr (.inl z) :: S) σ Q := by
  refine oS6 hf (oNo5s rfl rfl rfl rfl rfl) ?_
  show oPushH 3 pc L S (oHb σ) (oLong (oKonL (oMt y).2.2.2.2.1 i)) = _
  rw [hk]; rfl
/-- putfield of an int -/
theorem oPfI {a i ci k : Nat} {v : Int} (hf : oFet y pc = some (.putfield i, 3)) (hl : oFld (oMt y).2.2.2.2.1 i = some (ci, k)) (hi : oIsI ci k = true) (hn : k < oLen ci) (hfin : oFin ci k = false) (hk : oKd a = some ci) (hv : oFits (oTy ci k) (.inl v) = true) : oE d y pc L (.inl v :: .inr (.inr (.inl a)) :: S) σ Q = oE d y (pc + 3) L S (oSF σ a k v) Q := by
  obtain ⟨ha, fs, he, hlen, hfs⟩ := oKd_spec hk
  refine oS7 hf (oNo5s rfl rfl rfl rfl rfl) rfl ?_
  show (match oFld (oMt y).2.2.2.2.1 i with
    | some (ci, k) => if oFits (oTy ci k) (.inl v) = true ∧ k < oLen ci ∧ (oFin ci k = false ∨ (oIni y = true ∧ ci = (oMt y).2.2.2.2.1)) then oGoH 3 pc L S (oHb σ) (oPutF (oHb σ) a ci k (.inl v)) else none
    | none => none) = _
  rw [hl]
  show (if oFits (oTy ci k) (.inl v) = true ∧ k < oLen ci ∧ (oFin ci k = false ∨ (oIni y = true ∧ ci = (oMt y).2.2.2.2.1)) then oGoH 3 pc L S (oHb σ) (oPutF (oHb σ) a ci k (.inl v)) else none) = _
  rw [if_pos ⟨hv, hn, Or.inl hfin⟩]
  have e : oPutF (oHb σ) a ci k (.inl v) = some (oBld (oSF σ a k v)) := by
    unfold oPutF
    rw [if_pos ha]
    have eb : (oHb σ).2.2 a = .inl (ci, oFs (σ.1 a) 0 fs) := oBld_obj he
    rw [eb]
    dsimp only
    rw [if_pos ⟨rfl, by rw [oFs_len, hlen]; exact hn⟩, ← oBld_SF he ((hfs k hn).1 hi)]
  rw [e]; rfl
theorem oPutE_of {a t : Nat} {i v : Int} (hk : oAk a = some t) (ht : t < 3) (h0 : 0 ≤ i) (h1 : i < (oLn a : Int)) : oPutE (oHb σ) a t i v = some (oBld (oSA σ a i.toNat v)) := by
  obtain ⟨ha, he, -⟩ := oAk_num hk ht
  unfold oPutE
  rw [if_pos ha]
  have eb : (oHb σ).2.2 a = .inr (.inl (t, oLn a, σ.2 a)) := oBld_row he
  rw [eb]
  dsimp only
  rw [if_pos ⟨rfl, h0, h1⟩, oSA_SW, ← oBld_SW he]
theorem oIas {a : Nat} {i v : Int} (hf : oFet y pc = some (.iastore, 1)) (hk : oAk a = some 0) (h0 : 0 ≤ i) (h1 : i < (oLn a : Int)) : oE d y pc L (.inl v :: .inl i :: .inr (.inr (.inl a)) :: S) σ Q = oE d y (pc + 1) L S (oSA σ a i.toNat v) Q := by
  refine oS7 hf (oNo5s rfl rfl rfl rfl rfl) rfl ?_
  show oGoH 1 pc L S (oHb σ) (oPutE (oHb σ) a 0 i v) = _
  rw [oPutE_of hk (by decide) h0 h1]; rfl
theorem oBas {a : Nat} {i v : Int} (hf : oFet y pc = some (.bastore, 1)) (hk : oAk a = some 2) (h0 : 0 ≤ i) (h1 : i < (oLn a : Int)) : oE d y pc L (.inl v :: .inl i :: .inr (.inr (.inl a)) :: S) σ Q = oE d y (pc + 1) L S (oSA σ a i.toNat (oI2b v)) Q := by
  refine oS7 hf (oNo5s rfl rfl rfl rfl rfl) rfl ?_
  show oGoH 1 pc L S (oHb σ) (oPutE (oHb σ) a 2 i (oI2b v)) = _
  rw [oPutE_of hk (by decide) h0 h1]; rfl
theorem oLas {a : Nat} {i v : Int} (hf : oFet y pc = some (.lastore, 1)) (hk : oAk a = some 1) (h0 : 0 ≤ i) (h1 : i < (oLn a : Int)) : oE d y pc L (.inr (.inl v) :: .inl i :: .inr (.inr (.inl a)) :: S) σ Q = oE d y (pc + 1) L S (oSA σ a i.toNat v) Q := by
  refine oS7 hf (oNo5s rfl rfl rfl rfl rfl) rfl ?_
  show oGoH 1 pc L S (oHb σ) (oPutE (oHb σ) a 1 i v) = _
  rw [oPutE_of hk (by decide) h0 h1]; rfl
/-! calls -/
theorem oG10_inv {i : Nat} {rt : Option FieldType} : oG10 lim rt (.invokevirtual i, 3) S h = none := by
  unfold oG10
  split <;> rfl
theorem oG10_ins {i : Nat} {rt : Option FieldType} : oG10 lim rt (.invokestatic i, 3) S h = none := by
  unfold oG10
  split <;> rfl
theorem oG9_v {own i : Nat} {ini : Bool} : oG9 call lim own ini (.invokevirtual i, 3) pc L S h = (match oLink own i with
    | some (0, z) => match S.drop (oMt z).2.2.2.2.2.1 with
      | .inr (.inr (.inl a)) :: S' => match h.2.2 a with
        | .inl (ci, _) => if a < h.1 ∧ ci = (oMt z).2.2.2.2.1 ∧ (S.take (oMt z).2.2.2.2.2.1).length = (oMt z).2.2.2.2.2.1 ∧ oSmall S' = true ∧ (oMt z).2.2.2.2.2.2.1 = false then oBack lim pc L S' (call z (.inr (.inr (.inl a)) :: (S.take (oMt z).2.2.2.2.2.1).reverse) h) else none
        | _ => none
      | _ => none
    | _ => none) := rfl
theorem oG9_s {own i : Nat} {ini : Bool} : oG9 call lim own ini (.invokestatic i, 3) pc L S h = (match oLink own i with
    | some (1, z) => if (S.take (oMt z).2.2.2.2.2.1).length = (oMt z).2.2.2.2.2.1 ∧ oSmall (S.drop (oMt z).2.2.2.2.2.1) = true ∧ (oMt z).2.2.2.2.2.2.1 = true then oBack lim pc L (S.drop (oMt z).2.2.2.2.2.1) (call z (S.take (oMt z).2.2.2.2.2.1).reverse h) else none
    | some (5, _) => match S with
      | .inl n :: .inl dp :: .inr (.inr (.inl b)) :: .inl sp :: .inr (.inr (.inl a)) :: S' => if oSmall S' = true then oGoH 3 pc L S' h (oCopy h a sp b dp n) else none
      | _ => none
    | some (6, _) => match S with
      | .inl y :: .inl x :: S' => if oSmall S' = true ∧ h.1 ≤ lim.1 ∧ h.2.1 ≤ lim.2 then some (.inl (pc + 3, L, .inl (if x < y then y else x) :: S', h)) else none
      | _ => none
    | some (7, _) => match S with
      | .inl y :: .inl x :: S' => if oSmall S' = true ∧ h.1 ≤ lim.1 ∧ h.2.1 ≤ lim.2 then some (.inl (pc + 3, L, .inl (if y < x then y else x) :: S', h)) else none
      | _ => none
    | _ => none) := rfl
theorem oCallV {a i z n ci : Nat} {as : List oV} {v : Option oV} (hf : oFet y pc = some (.invokevirtual i, 3)) (hl : oLink (oMt y).2.2.2.2.1 i = some (0, z)) (hz : (oMt z).2.2.2.2.1 = ci ∧ (oMt z).2.2.2.2.2.1 = n ∧ (oMt z).2.2.2.2.2.2.1 = false) (hd : S.drop n = .inr (.inr (.inl a)) :: S') (ht : (S.take n).length = n) (hk : oKd a = some ci) (hs : oSmall S' = true) (has : .inr (.inr (.inl a)) :: (S.take n).reverse = as) (hm : oMi d z as σ v σ') : oE d y pc L S σ Q = oE d y (pc + 3) L (v.toList ++ S') σ' Q := by
  obtain ⟨ha, fs, he, hlen, hfs⟩ := oKd_spec hk
  obtain ⟨z1, z2, z3⟩ := hz
  refine oE_call (fun call => ?_) hm
  rw [oStep_of hf, oIns9 (oNo5s rfl rfl rfl rfl rfl) rfl rfl rfl oG10_inv]
  rw [oG9_v, hl]
  show (match S.drop (oMt z).2.2.2.2.2.1 with
      | .inr (.inr (.inl a)) :: S' => match (oHb σ).2.2 a with
        | .inl (ci, _) => if a < (oHb σ).1 ∧ ci = (oMt z).2.2.2.2.1 ∧ (S.take (oMt z).2.2.2.2.2.1).length = (oMt z).2.2.2.2.2.1 ∧ oSmall S' = true ∧ (oMt z).2.2.2.2.2.2.1 = false then oBack oLm pc L S' (call z (.inr (.inr (.inl a)) :: (S.take (oMt z).2.2.2.2.2.1).reverse) (oHb σ)) else none
        | _ => none
      | _ => none) = _
  rw [z2, hd]
  dsimp only
  rw [oBld_obj he]
  dsimp only
  rw [if_pos ⟨ha, z1.symm, ht, hs, z3⟩, has]
theorem oCallS {i z n : Nat} {as : List oV} {v : Option oV} (hf : oFet y pc = some (.invokestatic i, 3)) (hl : oLink (oMt y).2.2.2.2.1 i = some (1, z)) (hz : (oMt z).2.2.2.2.2.1 = n ∧ (oMt z).2.2.2.2.2.2.1 = true) (hd : S.drop n = S') (ht : (S.take n).length = n) (hs : oSmall S' = true) (has : (S.take n).reverse = as) (hm : oMi d z as σ v σ') : oE d y pc L S σ Q = oE d y (pc + 3) L (v.toList ++ S') σ' Q := by
  obtain ⟨z2, z3⟩ := hz
  refine oE_call (fun call => ?_) hm
  rw [oStep_of hf, oIns9 (oNo5s rfl rfl rfl rfl rfl) rfl rfl rfl oG10_ins]
  rw [oG9_s, hl]
  show (if (S.take (oMt z).2.2.2.2.2.1).length = (oMt z).2.2.2.2.2.1 ∧ oSmall (S.drop (oMt z).2.2.2.2.2.1) = true ∧ (oMt z).2.2.2.2.2.2.1 = true then oBack oLm pc L (S.drop (oMt z).2.2.2.2.2.1) (call z (S.take (oMt z).2.2.2.2.2.1).reverse (oHb σ)) else none) = _
  rw [z2, hd, if_pos ⟨ht, hs, z3⟩, has]
theorem oSt9 {i : Nat} (hf : oFet y pc = some (.invokestatic i, 3)) (hg : ∀ call : oCall, oG9 call oLm (oMt y).2.2.2.2.1 (oIni y) (.invokestatic i, 3) pc L S (oHb σ) = some (.inl (pc', L', S', oHb σ'))) : oE d y pc L S σ Q = oE d y pc' L' S' σ' Q :=
  oE_go fun call => by rw [oStep_of hf, oIns9 (oNo5s rfl rfl rfl rfl rfl) rfl rfl rfl oG10_ins]; exact hg call
theorem oMaxR {i z : Nat} {x w : Int} (hf : oFet y pc = some (.invokestatic i, 3)) (hl : oLink (oMt y).2.2.2.2.1 i = some (6, z)) (hs : oSmall S = true) : oE d y pc L (.inl w :: .inl x :: S) σ Q = oE d y (pc + 3) L (.inl (if x < w then w else x) :: S) σ Q := by
  refine oSt9 hf fun call => ?_
  rw [oG9_s, hl]
  exact if_pos (show oSmall S = true ∧ (89 : Nat) ≤ 89 ∧ (2141 : Nat) ≤ 2141 from ⟨hs, Nat.le_refl _, Nat.le_refl _⟩)
theorem oMinR {i z : Nat} {x w : Int} (hf : oFet y pc = some (.invokestatic i, 3)) (hl : oLink (oMt y).2.2.2.2.1 i = some (7, z)) (hs : oSmall S = true) : oE d y pc L (.inl w :: .inl x :: S) σ Q = oE d y (pc + 3) L (.inl (if w < x then w else x) :: S) σ Q := by
  refine oSt9 hf fun call => ?_
  rw [oG9_s, hl]
  exact if_pos (show oSmall S = true ∧ (89 : Nat) ≤ 89 ∧ (2141 : Nat) ≤ 2141 from ⟨hs, Nat.le_refl _, Nat.le_refl _⟩)
theorem oCpy {i z a b t : Nat} {sp dp n : Int} (hf : oFet y pc = some (.invokestatic i, 3)) (hl : oLink (oMt y).2.2.2.2.1 i = some (5, z)) (hs : oSmall S = true) (ha : oAk a = some t) (hb : oAk b = some t) (ht : t < 2) (g1 : 0 ≤ sp) (g2 : 0 ≤ dp) (g3 : 0 ≤ n) (g4 : sp + n ≤ (oLn a : Int)) (g5 : dp + n ≤ (oLn b : Int)) : oE d y pc L (.inl n :: .inl dp :: .inr (.inr (.inl b)) :: .inl sp :: .inr (.inr (.inl a)) :: S) σ Q = oE d y (pc + 3) L S (oCp σ a sp b dp n) Q := by
  obtain ⟨ha1, he1, -⟩ := oAk_num ha (by omega)
  obtain ⟨hb1, he2, -⟩ := oAk_num hb (by omega)
  refine oSt9 hf fun call => ?_
  rw [oG9_s, hl]
  dsimp only
  rw [if_pos hs]
  have e : oCopy (oHb σ) a sp b dp n = some (oBld (oCp σ a sp b dp n)) := by
    unfold oCopy
    rw [if_pos ⟨ha1, hb1, g1, g2, g3⟩]
    have eb1 : (oHb σ).2.2 a = .inr (.inl (t, oLn a, σ.2 a)) := oBld_row he1
    have eb2 : (oHb σ).2.2 b = .inr (.inl (t, oLn b, σ.2 b)) := oBld_row he2
    rw [eb1, eb2]
    dsimp only
    rw [if_pos ⟨rfl, ht, g4, g5⟩]
    unfold oCp
    rw [← oBld_SW he2]
  rw [e]; rfl
/-! ends -/
theorem oIret {x : Int} (hf : oFet y pc = some (.ireturn, 1)) (hr : (oMt y).2.2.2.1 = some .int) : oE d y pc L [.inl x] σ Q = Q (some (.inl x)) (oBld σ) := by
  refine oE_ret fun call => (oStep_of hf).trans (oIns10 (oNo5s rfl rfl rfl rfl rfl) rfl rfl rfl rfl ?_)
  unfold oG10
  rw [hr]
  exact if_pos ⟨Nat.le_refl _, Nat.le_refl _⟩
theorem oZret {x : Int} (hf : oFet y pc = some (.ireturn, 1)) (hr : (oMt y).2.2.2.1 = some .boolean) (hx : x = 0 ∨ x = 1) : oE d y pc L [.inl x] σ Q = Q (some (.inl x)) (oBld σ) := by
  refine oE_ret fun call => (oStep_of hf).trans (oIns10 (oNo5s rfl rfl rfl rfl rfl) rfl rfl rfl rfl ?_)
  unfold oG10
  rw [hr]
  refine (if_pos ⟨Nat.le_refl _, Nat.le_refl _⟩).trans ?_
  exact if_pos hx
theorem oLret {x : Int} (hf : oFet y pc = some (.lreturn, 1)) (hr : (oMt y).2.2.2.1 = some .long) : oE d y pc L [.inr (.inl x)] σ Q = Q (some (.inr (.inl x))) (oBld σ) := by
  refine oE_ret fun call => (oStep_of hf).trans (oIns10 (oNo5s rfl rfl rfl rfl rfl) rfl rfl rfl rfl ?_)
  unfold oG10
  rw [hr]
  exact if_pos ⟨Nat.le_refl _, Nat.le_refl _⟩
theorem oAret {a : Nat} {n : String} (hf : oFet y pc = some (.areturn, 1)) (hr : (oMt y).2.2.2.1 = some (.object n)) : oE d y pc L [.inr (.inr (.inl a))] σ Q = Q (some (.inr (.inr (.inl a)))) (oBld σ) := by
  refine oE_ret fun call => (oStep_of hf).trans (oIns10 (oNo5s rfl rfl rfl rfl rfl) rfl rfl rfl rfl ?_)
  unfold oG10
  rw [hr]
  exact if_pos ⟨Nat.le_refl _, Nat.le_refl _⟩
theorem oVret (hf : oFet y pc = some (.return_, 1)) (hr : (oMt y).2.2.2.1 = none) : oE d y pc L [] σ Q = Q none (oBld σ) := by
  refine oE_ret fun call => (oStep_of hf).trans (oIns10 (oNo5s rfl rfl rfl rfl rfl) rfl rfl rfl rfl ?_)
  unfold oG10
  rw [hr]
  exact if_pos ⟨Nat.le_refl _, Nat.le_refl _⟩
end ORL
