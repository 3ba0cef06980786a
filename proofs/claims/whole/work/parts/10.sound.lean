/-! eight: a run, a method -/
theorem oIns_cases {call : oCall} {X : oXs} {lim : Nat × Nat} {y pc : Nat} {q : Instr × Nat} {L S : List oV} {h : oH} {r : oR} (hq : oIns call X lim y q pc L S h = some r) :
    (∃ r0, oG1 q pc L S = some r0 ∧ r = .inl (r0.1, r0.2.1, r0.2.2, h)) ∨ (∃ r0, oG2 q pc L S = some r0 ∧ r = .inl (r0.1, r0.2.1, r0.2.2, h)) ∨ (∃ r0, oG3 q pc L S = some r0 ∧ r = .inl (r0.1, r0.2.1, r0.2.2, h)) ∨ (∃ r0, oG4 q pc L S = some r0 ∧ r = .inl (r0.1, r0.2.1, r0.2.2, h)) ∨ (∃ r0, oG5 q pc L S = some r0 ∧ r = .inl (r0.1, r0.2.1, r0.2.2, h)) ∨
    oG6 X (oMt y).2.2.2.2.1 q pc L S h = some r ∨ oG7 (oMt y).2.2.2.2.1 (oIni y) q pc L S h = some r ∨ oG8 lim (oMt y).2.2.2.2.1 q pc L S h = some r ∨ oG9 call lim (oMt y).2.2.2.2.1 (oIni y) q pc L S h = some r ∨ (∃ r0, oG10 lim (oMt y).2.2.2.1 q S h = some r0 ∧ r = .inr r0) := by
  have ofP : ∀ {o : Option oP}, oOfP h o = some r → ∃ r0, o = some r0 ∧ r = .inl (r0.1, r0.2.1, r0.2.2, h) := by
    intro o ho
    unfold oOfP at ho
    split at ho
    · next q0 => cases ho; exact ⟨q0, rfl, rfl⟩
    · cases ho
  have ofR : ∀ {o : Option (Option oV × oH)}, oOfR o = some r → ∃ r0, o = some r0 ∧ r = .inr r0 := by
    intro o ho
    unfold oOfR at ho
    split at ho
    · next q0 => cases ho; exact ⟨q0, rfl, rfl⟩
    · cases ho
  unfold oIns at hq
  simp only [Option.or_eq_some_iff] at hq
  rcases hq with hq | ⟨-, hq⟩
  · exact Or.inl (ofP hq)
  rcases hq with hq | ⟨-, hq⟩
  · exact Or.inr (Or.inl (ofP hq))
  rcases hq with hq | ⟨-, hq⟩
  · exact Or.inr (Or.inr (Or.inl (ofP hq)))
  rcases hq with hq | ⟨-, hq⟩
  · exact Or.inr (Or.inr (Or.inr (Or.inl (ofP hq))))
  rcases hq with hq | ⟨-, hq⟩
  · exact Or.inr (Or.inr (Or.inr (Or.inr (Or.inl (ofP hq)))))
  rcases hq with hq | ⟨-, hq⟩
  · exact Or.inr (Or.inr (Or.inr (Or.inr (Or.inr (Or.inl hq)))))
  rcases hq with hq | ⟨-, hq⟩
  · exact Or.inr (Or.inr (Or.inr (Or.inr (Or.inr (Or.inr (Or.inl hq))))))
  rcases hq with hq | ⟨-, hq⟩
  · exact Or.inr (Or.inr (Or.inr (Or.inr (Or.inr (Or.inr (Or.inr (Or.inl hq)))))))
  rcases hq with hq | ⟨-, hq⟩
  · exact Or.inr (Or.inr (Or.inr (Or.inr (Or.inr (Or.inr (Or.inr (Or.inr (Or.inl hq))))))))
  · exact Or.inr (Or.inr (Or.inr (Or.inr (Or.inr (Or.inr (Or.inr (Or.inr (Or.inr (ofR hq)))))))))
section OSH
variable {p : Program} {l : Launch} {e : Env} {R : Room} {s : State} {m : MethodId} {args : Array Value} {below : List Frame} {meth : Method} {c : Code} {H0 : Heap} {Q : State → Prop}
variable {y nL B b : Nat} {D : va_G} {cA : Nat → ClassId} {X : oXs}
theorem oRunS {call : oCall} {n0 s0 d : Nat} {lim : Nat × Nat} {rv : Option oV} {h' : oH} (hcall : ∀ z as h rv h', call z as h = some (rv, h') → z < 226 → (∀ v ∈ as, oOkV v) → oMet l B b D cA d z as h rv h') (hRf : d + 1 ≤ R.frames) (hRl : 40 * (d + 1) ≤ R.locals) (hml : c.maxLocals = nL) (hF : oFx p s m args meth c y D cA) (hX : oSx B b X s H0)
    (ret : ∀ (q : Instr × Nat) (pc : Nat) (ls : Array Slot) (S : List oV) (H : Heap) (locs : List Loc) (cells slots : Nat), decode (oMt y).2.1 pc = .ok q → oG10 lim (oMt y).2.2.2.1 q S h' = some (rv, h') → oHp B b cA D h' H → oFr B H0 H locs → oCt R cells slots n0 s0 h' lim → (∀ v ∈ S, oOkV v) → W p l e R s m args below meth c H locs cells slots Q (F0 m pc ls (S.map (oCv B b)))) :
    ∀ (k pc : Nat) (L S : List oV) (h : oH) (H : Heap) (locs : List Loc) (cells slots : Nat) (ls : Array Slot), oRun call X lim y k pc L S h = some (rv, h') → oSt B b nL ls L S → oHp B b cA D h H → oFr B H0 H locs → oCt R cells slots n0 s0 h lim → W p l e R s m args below meth c H locs cells slots Q (F0 m pc ls (S.map (oCv B b))) := by
  intro k
  induction k with
  | zero => intro pc L S h H locs cells slots ls hr; simp [oRun] at hr
  | succ k ih =>
    intro pc L S h H locs cells slots ls hr hst hp hfr hct
    unfold oRun at hr
    unfold oStep at hr
    cases hfet : oFet y pc with
    | none => rw [hfet] at hr; simp at hr
    | some q =>
      rw [hfet] at hr
      dsimp only at hr
      have hdg : decode (oMt y).2.1 pc = .ok q := by
        unfold oFet at hfet
        split at hfet
        · next q0 hq0 => cases hfet; exact hq0
        · cases hfet
      cases hins : oIns call X lim y q pc L S h with
      | none => rw [hins] at hr; simp at hr
      | some r =>
        rw [hins] at hr
        rcases oIns_cases hins with ⟨r0, g, rfl⟩ | ⟨r0, g, rfl⟩ | ⟨r0, g, rfl⟩ | ⟨r0, g, rfl⟩ | ⟨r0, g, rfl⟩ | g | g | g | g | ⟨r0, g, rfl⟩
        · exact oSim1 hF.1 hF.2.1 hst hdg g fun ls' hs' => ih _ _ _ _ _ _ _ _ _ hr hs' hp hfr hct
        · exact oSim2 hF.1 hF.2.1 hst hdg g fun ls' hs' => ih _ _ _ _ _ _ _ _ _ hr hs' hp hfr hct
        · exact oSim3 hF.1 hF.2.1 hst hdg g fun ls' hs' => ih _ _ _ _ _ _ _ _ _ hr hs' hp hfr hct
        · exact oSim4 hF.1 hF.2.1 hst hdg g fun ls' hs' => ih _ _ _ _ _ _ _ _ _ hr hs' hp hfr hct
        · exact oSim5 hF.1 hF.2.1 hst hdg g fun ls' hs' => ih _ _ _ _ _ _ _ _ _ hr hs' hp hfr hct
        · refine oSim6 hF hX hst hp hfr hdg g fun pc' S' hr' hs' => ?_
          subst hr'
          exact ih _ _ _ _ _ _ _ _ _ hr hs' hp hfr hct
        · refine oSim7 hF hst hp hfr hdg g fun pc' S' f' hr' H' locs' hp' hfr' hs' => ?_
          subst hr'
          exact ih _ _ _ _ _ _ _ _ _ hr hs' hp' hfr' hct
        · refine oSim8 hF hst hp hfr hct hdg g fun pc' S' h1 cells' slots' hr' hct' H' locs' hp' hfr' hs' => ?_
          subst hr'
          exact ih _ _ _ _ _ _ _ _ _ hr hs' hp' hfr' hct'
        · refine oSim9 hcall hRf hRl hml hF hst hp hfr hct hdg g fun pc' S' h1 cells' slots' hr' hct' H' locs' hp' hfr' hs' => ?_
          subst hr'
          exact ih _ _ _ _ _ _ _ _ _ hr hs' hp' hfr' hct'
        · have e : r0 = (rv, h') := Option.some.inj hr
          subst e
          have hh : h' = h := by
            unfold oG10 at g
            split at g
            · split at g
              · cases g; rfl
              · split at g
                · cases g; rfl
                · cases g
              · cases g; rfl
              · cases g; rfl
              · cases g; rfl
              · cases g
            · cases g
          subst hh
          exact ret q pc ls S H locs cells slots hdg g hp hfr hct hst.2.2.2
theorem oArgs_in (L : List oV) : ∀ (i : Nat) (q : Nat × Value), q ∈ oLc B b i (oArg L) → q ∈ lv_args i (L.map (oCv B b)) := by
  induction L with
  | nil => intro i q h; simp [oArg, oLc] at h
  | cons v r ih =>
    intro i q h
    have one : ∀ w : oV, oCat w = 1 → oArg (w :: r) = w :: oArg r → q ∈ oLc B b i (oArg (w :: r)) → q ∈ lv_args i ((w :: r).map (oCv B b)) := by
      intro w hw he hq
      rw [he] at hq
      show q ∈ (i, oCv B b w) :: lv_args (if (oCv B b w).category = 2 then i + 2 else i + 1) (r.map (oCv B b))
      rw [oCat_cv, hw, if_neg (by decide)]
      unfold oLc at hq
      split at hq
      · exact List.mem_cons_of_mem _ (ih _ _ hq)
      · rcases List.mem_cons.mp hq with z | z
        · rw [z]; exact List.mem_cons_self
        · exact List.mem_cons_of_mem _ (ih _ _ z)
    rcases v with x | x | a | k
    · exact one _ rfl rfl h
    · have h2 : q ∈ oLc B b i (.inr (.inl x) :: .inr (.inr (.inr 2)) :: oArg r) := h
      show q ∈ (i, Value.long (Int64.ofInt x)) :: lv_args (i + 2) (r.map (oCv B b))
      have e1 : oLc B b i (.inr (.inl x) :: .inr (.inr (.inr 2)) :: oArg r) = (i, Value.long (Int64.ofInt x)) :: oLc B b (i + 1 + 1) (oArg r) := by
        simp [oLc, oTag, oCv]
      rw [e1] at h2
      rcases List.mem_cons.mp h2 with z | z
      · rw [z]; exact List.mem_cons_self
      · exact List.mem_cons_of_mem _ (ih _ _ z)
    · exact one _ rfl rfl h
    · exact one _ rfl rfl h
theorem oArg_len (L : List oV) : (lg_sl (L.map (oCv B b))).length = (oArg L).length := by
  induction L with
  | nil => rfl
  | cons v r ih =>
    have e : lg_sl ((v :: r).map (oCv B b)) = (if (oCv B b v).category = 2 then [.val (oCv B b v), .second] else [.val (oCv B b v)]) ++ lg_sl (r.map (oCv B b)) := rfl
    rw [e, List.length_append, ih, oCat_cv]
    rcases v with x | x | a | k
    · show 1 + _ = (oArg r).length + 1
      omega
    · show 2 + _ = (oArg r).length + 1 + 1
      omega
    · show 1 + _ = (oArg r).length + 1
      omega
    · show 1 + _ = (oArg r).length + 1
      omega
theorem oLc_app (L M : List oV) : ∀ i : Nat, oLc B b i (L ++ M) = oLc B b i L ++ oLc B b (i + L.length) M := by
  induction L with
  | nil => intro i; rfl
  | cons v r ih =>
    intro i
    have e : i + 1 + r.length = i + (r.length + 1) := by omega
    by_cases ht : oTag v = 3
    · simp [oLc, ht, ih, e]
    · simp [oLc, ht, ih, e]
theorem oLc_junk (n : Nat) : ∀ i : Nat, oLc B b i (List.replicate n (.inr (.inr (.inr 2)))) = [] := by
  induction n with
  | zero => intro i; rfl
  | succ n ih => intro i; simp [List.replicate_succ, oLc, oTag, ih]
theorem oEnt_st {as : List oV} {nL : Nat} (hlen : (oArg as).length ≤ nL) (hok : ∀ v ∈ as, oOkV v) : oSt B b nL ((lg_sl (as.map (oCv B b)) ++ List.replicate (nL - (lg_sl (as.map (oCv B b))).length) Slot.unset).toArray) (oEnt nL as) [] := by
  have hl := lv_entry (as.map (oCv B b)) (n := nL) (by rw [oArg_len]; exact hlen)
  refine ⟨oHas_sub hl fun q hq => ?_, ?_, ?_, fun v hv => by cases hv⟩
  · unfold oEnt at hq
    rw [oLc_app, oLc_junk, List.append_nil] at hq
    exact oArgs_in as 0 q hq
  · unfold oEnt
    rw [List.length_append, List.length_replicate]
    omega
  · intro v hv
    unfold oEnt at hv
    rcases List.mem_append.mp hv with z | z
    · have key : ∀ (as : List oV), (∀ v ∈ as, oOkV v) → ∀ v ∈ oArg as, oOkV v := by
        intro as
        induction as with
        | nil => intro _ v hv; cases hv
        | cons w r ih =>
          intro hok v hv
          obtain ⟨o1, o2⟩ := oAllT hok
          have gen : ∀ w : oV, oOkV w → v ∈ w :: oArg r → oOkV v := fun w hw hv => by
            rcases List.mem_cons.mp hv with z | z
            · rw [z]; exact hw
            · exact ih o2 v z
          rcases w with x | x | a | k
          · exact gen _ o1 hv
          · rcases List.mem_cons.mp hv with z | z
            · rw [z]; exact o1
            · rcases List.mem_cons.mp z with z | z
              · rw [z]; trivial
              · exact ih o2 v z
          · exact gen (.inr (.inr (.inl a))) trivial hv
          · exact gen (.inr (.inr (.inr k))) trivial hv
      exact key as hok v z
    · rw [List.eq_of_mem_replicate z]
      trivial
/-- EVERY METHOD, at any depth: what the small machine computes, the machine does -/
theorem oMet_all (l : Launch) (B b : Nat) (D : va_G) (cA : Nat → ClassId) (n : Nat) : ∀ (d z : Nat) (as : List oV) (h : oH) (rv : Option oV) (h' : oH), oExec n d z as h = some (rv, h') → z < 226 → (∀ v ∈ as, oOkV v) → oMet l B b D cA d z as h rv h' := by
  intro d
  induction d with
  | zero => intro z as h rv h' hr; simp [oExec] at hr
  | succ d ih =>
    intro z as h rv h' hr hz hok
    unfold oExec at hr
    split at hr
    · next rv1 h1 hrun =>
      split at hr
      · next hcc =>
        obtain ⟨e1, e2, e3⟩ := hcc
        cases hr
        refine ⟨?_, e1, e2⟩
        obtain ⟨a1, a2, a3, a4, a5, a6, a7, a8⟩ := oMt_spec hz
        refine Met.ofW (cc := (oMt z).2.1) (maxL := (oMt z).2.2.1) (ret := (oMt z).2.2.2.1) a6 rfl ?_
        intro p e s m args below meth c s₁ BB hml hP
        obtain ⟨rfl, hp, hK, hWk⟩ := hP
        rw [lg_entry_eq]
        have hts0 : ∀ w ∈ oWs z, w.before (as.map (oCv B b)).toArray s = true := atoms_spec (ws := oWs z) BB.pre
        have hts : ∀ w ∈ oWds, w.before (as.map (oCv B b)).toArray s = true := fun w hw => hts0 w (List.mem_cons_of_mem _ hw)
        have hown : s.vm.findClass (oNm (oMt z).2.2.2.2.1) = some m.cls := a7 ▸ findClass_of_methodNamed BB.named
        have hF : oFx p s m (as.map (oCv B b)).toArray meth c z D cA := ⟨BB.exec, BB.bytes, hown, hts, hK, hWk, fun _ => (name_of_methodNamed BB.named BB.method).1⟩
        have hst := oEnt_st (B := B) (b := b) e3 hok
        have hrt := BB.returns
        have hlk := BB.notSynchronized
        refine oRunS (d := d) (n0 := h.1) (s0 := h.2.1) (H0 := s.heap) (R := (headSpec (oWs z) (oRm (d + 1) (oMk z as).1 (oMk z as).2)).room) ih (Nat.le_refl _) (Nat.le_refl _) hml hF (Or.inl rfl) ?_ n 0 _ _ h s.heap [] 0 0 _ hrun hst hp ⟨fun _ _ => rfl, fun _ hx => by cases hx⟩ ⟨Nat.zero_add _, Nat.zero_add _, by show h.1 + (oMk z as).1 ≤ (oMk z as).1 + h.1; omega, by show h.2.1 + (oMk z as).2 ≤ (oMk z as).2 + h.2.1; omega⟩
        intro q pc ls S H locs cells slots hdg hg hp' hfr hct hS
        obtain ⟨t1, t2, -, -⟩ := hct
        have c1 : cells = (oMk z as).1 := by omega
        have c2 : slots = (oMk z as).2 := by omega
        subst c1
        subst c2
        have post : ∀ (w : Option oV), rv = w → (∀ v, w = some v → oOkV v) → ∀ t : State, t.heap = H → s.WarmedH t.vm → oPost B b D cA rv h' (as.map (oCv B b)).toArray s (.returned (w.map (oCv B b))) t := by
          intro w hw hwk t ht hW
          subst hw
          exact ⟨rfl, by rw [ht]; exact hp', fun q hq => by rw [ht]; exact hfr.1 q hq, hwk⟩
        unfold oG10 at hg
        split at hg
        · split at hg
          · next heq => cases hg; exact W.iret BB.exec BB.bytes (hrt.trans heq) (post _ rfl (fun v hv => by cases hv; exact hS _ List.mem_cons_self)) hfr.2 hdg hlk
          · next x heq =>
            split at hg
            · next hx =>
              cases hg
              refine W.zret BB.exec BB.bytes (hrt.trans heq) ?_ (post _ rfl (fun v hv => by cases hv; exact hS _ List.mem_cons_self)) hfr.2 hdg hlk
              rcases hx with e | e <;> subst e
              · decide +kernel
              · decide +kernel
            · cases hg
          · next heq => cases hg; exact W.lret BB.exec BB.bytes (hrt.trans heq) (post _ rfl (fun v hv => by cases hv; exact hS _ List.mem_cons_self)) hfr.2 hdg hlk
          · next heq => cases hg; exact W.aret BB.exec BB.bytes (hrt.trans heq) (Or.inl ⟨_, rfl⟩) (Or.inr ⟨_, rfl⟩) (post _ rfl (fun v hv => by cases hv; trivial)) hfr.2 hdg hlk
          · next heq => cases hg; exact W.vret BB.exec BB.bytes (hrt.trans heq) (post _ rfl (fun v hv => by cases hv)) hfr.2 hdg hlk
          · cases hg
        · cases hg
      · cases hr
    · cases hr
end OSH
