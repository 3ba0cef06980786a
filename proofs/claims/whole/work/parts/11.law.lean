/-! THE CLAIM OUT OF ONE WALK OF THE LAW'S BODY. Your part is whole_start (and what it stands on); all else here is the same for every law, but numbers. -/
def R_law : String := "OddPartnersLaw"
def lw_P (b : Addr) (xs : List Int32) (args : Array Value) (s : State) : Prop := args = #[.ref b] ∧ s.IntsAt b xs ∧ xs.length ≤ 3072 ∧ (Jvm.Cond.and given_1 narrow_1).before args s = true
def lw_Q (_ : Array Value) (s : State) (o : Outcome) (t : State) : Prop := o = .returned (some (.int 1)) ∧ Framed s o t [] 600000 7302249
def lw_Z (below : List Frame) (a : Array Value) (s : State) : State → Prop := fun t => ∃ o, t.status = .running ∧ Ended t below o ∧ lw_Q a s o t
/-- the law's own end, with 1 on the stack, nothing written that was there before, its room as the claim has it -/
theorem lw_ret {p : Program} {l : Launch} {e : Env} {s : State} {m : MethodId} {below : List Frame} {meth : Method} {c : Code} {b : Nat} (hx : p.tables.exec = Jvm.exec) (hb : c.code = code) (hr : meth.sig.returnType = ret) (hlocks : meth.locks = false) {pc : Nat} {H : Heap} {ls : Array Slot} (hdg : decode code pc = .ok (.ireturn, 1)) : W p l e room_1 s m #[Value.ref b] below meth c H [] 600000 7302249 (lw_Z below #[Value.ref b] s) (F0 m pc ls [.int 1]) := by
  intro T hT X
  obtain ⟨fs, hret, hrun, hended, hW, hframe⟩ := X.leave (v := some (.int 1)) (hlocks := hlocks) (fun h => by rw [hr] at h; cases h)
  have hmeth' : T.vm.method? m = some meth := X.method'
  refine ⟨T.setFrames fs, ?_, .returned (some (.int 1)), hrun, hended, rfl, ⟨_, rfl⟩, hW, hframe⟩
  jvm_step X.here [X.here.top, hx, hb, hdg, hmeth', hr, ret, narrow_b1]
  (try refine ⟨rfl, ?_⟩); (try refine ⟨rfl, ?_⟩)
  first | (intro acts; rw [hret _ acts rfl rfl rfl]) | rw [hret _ _ rfl rfl rfl]
  exact Steps.refl _
/-- what holds at the law's entry: the machine, the code, the tables' words (any of lw_tbl by 'hts w (by decide +kernel)'), the script of L ints xs at the cell b, what the Statement gives of the start (any of its parts by flat_of_before) -/
def lw_At (p : Program) (s : State) (m : MethodId) (meth : Method) (c : Code) (b L : Nat) (xs : Nat → Int32) : Prop :=
  p.tables.exec = Jvm.exec ∧ c.code = code ∧ meth.sig.returnType = ret ∧ c.maxLocals = 4 ∧ s.vm.findClass R_law = some m.cls ∧ (∀ w ∈ lw_tbl, w.before #[Value.ref b] s = true) ∧ va_X b L xs s s.heap ∧ b < s.heap.size ∧ meth.locks = false ∧ (Jvm.Cond.and given_1 narrow_1).before #[Value.ref b] s = true
theorem oAoC : Jvm.Cond.arrayOver (.object "OddPartners$Clause") ∈ lw_tbl := List.mem_of_getElem? (i := 174) (by decide +kernel)
theorem oAoJ : Jvm.Cond.arrayOver (.array .long) ∈ lw_tbl := List.mem_of_getElem? (i := 953) (by decide +kernel)
def oInP : List Nat := [175, 87, 265, 240, 93, 284, 314, 112, 220, 168, 79, 947]
theorem oIn_chk : ((List.range 12).all fun c => match oCls[c]?, oInP[c]? with
  | some r, some i => decide (lw_tbl[i]? = some (Jvm.Cond.instantiable r.1 r.2.2))
  | _, _ => false) = true := by decide +kernel
theorem oInst_in {c : Nat} {r : vw_C} (h : oCls[c]? = some r) : Jvm.Cond.instantiable r.1 r.2.2 ∈ lw_tbl := by
  have hc : c < 12 := (List.getElem?_eq_some_iff.mp h).1
  have h1 := List.all_eq_true.mp oIn_chk c (List.mem_range.mpr hc)
  rw [h] at h1
  split at h1
  · next r2 i e1 e2 =>
    cases e1
    exact List.mem_of_getElem? (of_decide_eq_true h1)
  · cases h1
def oNeP : List Nat := [94, 176, 238, 241, 266, 285, 315]
theorem oNe_chk : ((oNest.zip oNeP).all fun q => decide (lw_tbl[q.2]? = some (oNestW q.1))) = true := by decide +kernel
theorem oNest_in (q : Nat × Nat × Nat) (h : q ∈ oNest) : oNestW q ∈ lw_tbl := by
  have hz : ∃ i, (q, i) ∈ oNest.zip oNeP := by
    have h2 : ∀ q ∈ oNest, ∃ i ∈ oNeP, (q, i) ∈ oNest.zip oNeP := by decide +kernel
    obtain ⟨i, -, hi⟩ := h2 q h
    exact ⟨i, hi⟩
  obtain ⟨i, hi⟩ := hz
  exact List.mem_of_getElem? (of_decide_eq_true (List.all_eq_true.mp oNe_chk _ hi))
/-! nine: THE LAW, out of what the small machine computes -/
/-- what is owed of the small machine: on every script the law's run ends with 1 -/
def oLawOk : Prop := ∀ (L : Nat) (f : Nat → Int), L ≤ 3072 → (∀ j, oI32 (f j)) → ∃ (n k : Nat) (h' : oH), oRun (oExec n 60) (L + 1, f) (600000, 7302249) 226 k 0 [.inr (.inr (.inr 1)), .inr (.inr (.inr 2)), .inr (.inr (.inr 2)), .inr (.inr (.inr 2))] [] (0, 0, fun _ => .inl (0, [])) = some (some (.inl 1), h')
theorem oLaw_at : oMt 226 = (x, code, 4, ret, 12, 1, true, 600000, 7302249) := rfl
theorem oTys_at {s : State} {args : Array Value} (hts : ∀ w ∈ lw_tbl, w.before args s = true) : ∃ cA : Nat → ClassId, ∀ (k : Nat) (q : ClassId × FieldType), (oTys cA)[k]? = some q → ArrOfT s q.1 q.2 ∧ va_RA s q.1 q.2 := by
  have prim : ∀ ty : FieldType, (Cond.arrayClass ty).before args s = true → ∃ c k comp, s.vm.findClass ("[" ++ ty.toString) = some c ∧ s.vm.classes[c]? = some k ∧ k.kind = .array comp ty := fun ty h => Cond.arrayClass_spec h
  have arr : ∀ {c : ClassId} {k : Class} {comp : ClassId} {ty : FieldType}, s.vm.classes[c]? = some k → k.kind = .array comp ty → ArrOfT s c ty := fun hk hkind n z => ⟨(fun q h => by cases h), _, hk, _, hkind⟩
  obtain ⟨c0, k0, m0, a0, b0, d0⟩ := prim .int (hts _ (oWds_good _ oAc0).1)
  obtain ⟨c1, k1, m1, a1, b1, d1⟩ := prim .long (hts _ (oWds_good _ oAc1).1)
  obtain ⟨c2, k2, m2, a2, b2, d2⟩ := prim .byte (hts _ (oWds_good _ oAc2).1)
  obtain ⟨m3, c3, k3, f3, -, b3, d3, a3⟩ := Cond.arrayOver_spec (hts _ oAoC)
  obtain ⟨m4, c4, k4, f4, -, b4, d4, a4⟩ := arrayOverA_spec (hts _ oAoJ)
  refine ⟨fun k => match k with
    | 0 => c0
    | 1 => c1
    | 2 => c2
    | 3 => c3
    | _ => c4, fun k q hq => ?_⟩
  match k, hq with
  | 0, hq => cases hq; exact ⟨arr b0 d0, a0⟩
  | 1, hq => cases hq; exact ⟨arr b1 d1, a1⟩
  | 2, hq => cases hq; exact ⟨arr b2 d2, a2⟩
  | 3, hq => cases hq; exact ⟨arr b3 d3, k3, m3, b3, d3, f3, a3⟩
  | 4, hq => cases hq; exact ⟨arr b4 d4, a4⟩
  | k + 5, hq => simp [oTys] at hq
theorem oCls_at {s : State} {args : Array Value} (hts : ∀ w ∈ lw_tbl, w.before args s = true) : ∃ D : va_G, ∀ (c : Nat) (q : vw_C), oCls[c]? = some q → u_Kn s q.1 q.2.1 q.2.2 (D.1 c) (D.2 c) := by
  have h : ∀ c : Nat, ∃ (i : ClassId) (f : Nat → Nat), ∀ q : vw_C, oCls[c]? = some q → u_Kn s q.1 q.2.1 q.2.2 i f := by
    intro c
    cases hc : oCls[c]? with
    | none => exact ⟨0, fun _ => 0, fun q hq => by cases hq⟩
    | some r =>
      obtain ⟨i, f, hk⟩ := u_known (C := r.1) (T := r.2.1) (N := r.2.2) (n := r.2.2) hts (fun w hw => (oWds_good w ((oCl_ok hc).1 w hw)).1) (hts _ (oInst_in hc))
      exact ⟨i, f, fun q hq => by cases hq; exact hk⟩
  exact ⟨(fun c => Classical.choose (h c), fun c => Classical.choose (Classical.choose_spec (h c))), fun c q hq => Classical.choose_spec (Classical.choose_spec (h c)) q hq⟩
theorem oWk_at {s : State} {args : Array Value} (hts : ∀ w ∈ lw_tbl, w.before args s = true) : oWk s := by
  refine ⟨va_AO.of (hts _ oAoC), over_moved (Vm.Alike.refl _) (hts _ oAoJ), fun q hq => va_Nw.of rfl (hts _ (oNest_in q hq))⟩
set_option maxHeartbeats 4000000 in
set_option maxRecDepth 100000 in
theorem oStart (hlaw : oLawOk) {p : Program} {e : Env} {s : State} {m : MethodId} {below : List Frame} {meth : Method} {c : Code} (l : Launch) {b L : Nat} {xs : Nat → Int32} (hL : L ≤ 3072) (C0 : lw_At p s m meth c b L xs) : W p l e room_1 s m #[Value.ref b] below meth c s.heap [] 0 0 (lw_Z below #[Value.ref b] s) (entryFrame m ([Value.ref b] : List Value).toArray 4) := by
  obtain ⟨hx, hb, hr, hml, hown, hts, hX, hbl, hlocks, hgv⟩ := id C0
  obtain ⟨cA, hty⟩ := oTys_at hts
  obtain ⟨D, hcl⟩ := oCls_at hts
  have hK : va_K D oCls (oTys cA) s := ⟨hcl, hty⟩
  have hWk := oWk_at hts
  have hts' : ∀ w ∈ oWds, w.before #[Value.ref b] s = true := fun w hw => hts w (oWds_good w hw).1
  have hF : oFx p s m #[Value.ref b] meth c 226 D cA := ⟨hx, hb, hown, hts', hK, hWk, fun h => absurd h (by decide +kernel)⟩
  obtain ⟨n, k, h', hrun⟩ := hlaw L (fun j => (xs j).toInt) hL (fun j => oI32_toInt _)
  rw [lg_entry_eq]
  have hst := oEnt_st (B := s.heap.size) (b := b) (as := [.inr (.inr (.inr 1))]) (nL := 4) (by decide) (fun v hv => by rw [List.mem_singleton.mp hv]; trivial)
  have hp : oHp s.heap.size b cA D (0, 0, fun _ => .inl (0, [])) s.heap := ⟨rfl, fun k hk => absurd hk (Nat.not_lt_zero k)⟩
  have hSx : oSx s.heap.size b (L + 1, fun j => (xs j).toInt) s s.heap := by
    refine Or.inr ⟨hbl, ?_, Nat.succ_pos _, fun j => oI32_toInt _⟩
    have e1 : (fun j => Int32.ofInt ((xs j).toInt)) = xs := by
      funext j
      exact Int32.ofInt_toInt _
    show va_X b (L + 1 - 1) (fun j => Int32.ofInt ((xs j).toInt)) s s.heap
    rw [e1]
    exact hX
  refine oRunS (d := 60) (n0 := 0) (s0 := 0) (lim := (600000, 7302249)) (H0 := s.heap) (X := (L + 1, fun j => (xs j).toInt)) (oMet_all l s.heap.size b D cA n 60) (by decide) (by decide) hml hF hSx ?_ k 0 _ _ _ s.heap [] 0 0 _ hrun hst hp ⟨fun _ _ => rfl, fun _ hx => by cases hx⟩ ⟨rfl, rfl, by decide, by decide⟩
  intro q pc ls S H locs cells slots hdg hg hp' hfr hct hS
  obtain ⟨t1, t2, -, -⟩ := hct
  unfold oG10 at hg
  split at hg
  · next hlim =>
    have c1 : cells ≤ 600000 := by have := hlim.1; omega
    have c2 : slots ≤ 7302249 := by have := hlim.2; omega
    refine va_forget hfr.2 (W.widen c1 c2 ?_)
    split at hg
    · next heq => cases heq
    · next x0 heq =>
      split at hg
      · cases hg
        exact lw_ret hx hb hr hlocks hdg
      · cases hg
    · cases hg
    · cases hg
    · cases hg
    · cases hg
  · cases hg
