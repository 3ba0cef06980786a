/-! six: calls -/
theorem oWk_same {u U : State} (h : u.vm = U.vm) (hw : oWk u) : oWk U := by
  have ha : u.vm.Alike U.vm := by rw [h]; exact Vm.Alike.refl _
  exact ⟨hw.1.moved ha, over_moved ha hw.2.1, fun q hq => (hw.2.2 q hq).same rfl h⟩
theorem oWk_warm {s U : State} (h : s.WarmedH U.vm) (hw : oWk s) : oWk U := ⟨hw.1.moved h.alike, over_moved h.alike hw.2.1, fun q hq => va_Nw.warmM h (hw.2.2 q hq)⟩
/-- what is checked of a method by number -/
def oMtChk (z : Nat) : Bool := match oPl[z]? with
  | some pl => (decide (lw_tbl[pl.1]? = some (.code (oMt z).1 (oMt z).2.1 (oMt z).2.2.1 (oMt z).2.2.2.1)) && oGood (.code (oMt z).1 (oMt z).2.1 (oMt z).2.2.1 (oMt z).2.2.2.1)) &&
    ((decide (lw_tbl[pl.2.1]? = some (.initialized (oMt z).1.cls)) && oGood (.initialized (oMt z).1.cls)) &&
    ((if (oMt z).2.2.2.2.2.2.1 = true then (decide (lw_tbl[pl.2.2.1]? = some (.static (oMt z).1)) && oGood (.static (oMt z).1)) else
      ((decide (lw_tbl[pl.2.2.1]? = some (.instanceMethod (oMt z).1)) && oGood (.instanceMethod (oMt z).1)) && ((oMt z).1.name == "<init>" || (decide (lw_tbl[pl.2.2.2]? = some (.selects (oMt z).1.cls (oMt z).1 (oMt z).1)) && oGood (.selects (oMt z).1.cls (oMt z).1 (oMt z).1))))) &&
    (decide ((oMt z).1.cls ≠ "java/lang/invoke/MethodHandle" ∧ (oMt z).1.cls ≠ "java/lang/invoke/VarHandle" ∧ (parseMethodDescriptor (oMt z).1.desc).map (fun d => d.parameters.length) = some (oMt z).2.2.2.2.2.1) &&
    (plainName (oMt z).1.cls && (decide ((oMt z).1.cls = oNm (oMt z).2.2.2.2.1) && decide ((oMt z).2.2.1 ≤ 20))))))
  | none => false
theorem oMt_chk0 : ((List.range 16).all fun i => oMtChk (0 + i)) = true := by decide +kernel
theorem oMt_chk16 : ((List.range 16).all fun i => oMtChk (16 + i)) = true := by decide +kernel
theorem oMt_chk32 : ((List.range 16).all fun i => oMtChk (32 + i)) = true := by decide +kernel
theorem oMt_chk48 : ((List.range 16).all fun i => oMtChk (48 + i)) = true := by decide +kernel
theorem oMt_chk64 : ((List.range 16).all fun i => oMtChk (64 + i)) = true := by decide +kernel
theorem oMt_chk80 : ((List.range 16).all fun i => oMtChk (80 + i)) = true := by decide +kernel
theorem oMt_chk96 : ((List.range 16).all fun i => oMtChk (96 + i)) = true := by decide +kernel
theorem oMt_chk112 : ((List.range 16).all fun i => oMtChk (112 + i)) = true := by decide +kernel
theorem oMt_chk128 : ((List.range 16).all fun i => oMtChk (128 + i)) = true := by decide +kernel
theorem oMt_chk144 : ((List.range 16).all fun i => oMtChk (144 + i)) = true := by decide +kernel
theorem oMt_chk160 : ((List.range 16).all fun i => oMtChk (160 + i)) = true := by decide +kernel
theorem oMt_chk176 : ((List.range 16).all fun i => oMtChk (176 + i)) = true := by decide +kernel
theorem oMt_chk192 : ((List.range 16).all fun i => oMtChk (192 + i)) = true := by decide +kernel
theorem oMt_chk208 : ((List.range 16).all fun i => oMtChk (208 + i)) = true := by decide +kernel
theorem oMt_chk224 : ((List.range 2).all fun i => oMtChk (224 + i)) = true := by decide +kernel
theorem oMt_chk {z : Nat} (hz : z < 226) : oMtChk z = true := by
  by_cases h0 : z < 16
  · have := List.all_eq_true.mp oMt_chk0 (z - 0) (List.mem_range.mpr (by omega))
    rwa [show 0 + (z - 0) = z by omega] at this
  by_cases h16 : z < 32
  · have := List.all_eq_true.mp oMt_chk16 (z - 16) (List.mem_range.mpr (by omega))
    rwa [show 16 + (z - 16) = z by omega] at this
  by_cases h32 : z < 48
  · have := List.all_eq_true.mp oMt_chk32 (z - 32) (List.mem_range.mpr (by omega))
    rwa [show 32 + (z - 32) = z by omega] at this
  by_cases h48 : z < 64
  · have := List.all_eq_true.mp oMt_chk48 (z - 48) (List.mem_range.mpr (by omega))
    rwa [show 48 + (z - 48) = z by omega] at this
  by_cases h64 : z < 80
  · have := List.all_eq_true.mp oMt_chk64 (z - 64) (List.mem_range.mpr (by omega))
    rwa [show 64 + (z - 64) = z by omega] at this
  by_cases h80 : z < 96
  · have := List.all_eq_true.mp oMt_chk80 (z - 80) (List.mem_range.mpr (by omega))
    rwa [show 80 + (z - 80) = z by omega] at this
  by_cases h96 : z < 112
  · have := List.all_eq_true.mp oMt_chk96 (z - 96) (List.mem_range.mpr (by omega))
    rwa [show 96 + (z - 96) = z by omega] at this
  by_cases h112 : z < 128
  · have := List.all_eq_true.mp oMt_chk112 (z - 112) (List.mem_range.mpr (by omega))
    rwa [show 112 + (z - 112) = z by omega] at this
  by_cases h128 : z < 144
  · have := List.all_eq_true.mp oMt_chk128 (z - 128) (List.mem_range.mpr (by omega))
    rwa [show 128 + (z - 128) = z by omega] at this
  by_cases h144 : z < 160
  · have := List.all_eq_true.mp oMt_chk144 (z - 144) (List.mem_range.mpr (by omega))
    rwa [show 144 + (z - 144) = z by omega] at this
  by_cases h160 : z < 176
  · have := List.all_eq_true.mp oMt_chk160 (z - 160) (List.mem_range.mpr (by omega))
    rwa [show 160 + (z - 160) = z by omega] at this
  by_cases h176 : z < 192
  · have := List.all_eq_true.mp oMt_chk176 (z - 176) (List.mem_range.mpr (by omega))
    rwa [show 176 + (z - 176) = z by omega] at this
  by_cases h192 : z < 208
  · have := List.all_eq_true.mp oMt_chk192 (z - 192) (List.mem_range.mpr (by omega))
    rwa [show 192 + (z - 192) = z by omega] at this
  by_cases h208 : z < 224
  · have := List.all_eq_true.mp oMt_chk208 (z - 208) (List.mem_range.mpr (by omega))
    rwa [show 208 + (z - 208) = z by omega] at this
  by_cases h224 : z < 226
  · have := List.all_eq_true.mp oMt_chk224 (z - 224) (List.mem_range.mpr (by omega))
    rwa [show 224 + (z - 224) = z by omega] at this
  omega
theorem oMt_spec {z : Nat} (hz : z < 226) : Jvm.Cond.code (oMt z).1 (oMt z).2.1 (oMt z).2.2.1 (oMt z).2.2.2.1 ∈ oWds ∧ Jvm.Cond.initialized (oMt z).1.cls ∈ oWds ∧
    ((oMt z).2.2.2.2.2.2.1 = true → Jvm.Cond.static (oMt z).1 ∈ oWds) ∧
    ((oMt z).2.2.2.2.2.2.1 = false → Jvm.Cond.instanceMethod (oMt z).1 ∈ oWds ∧ ((oMt z).1.name = "<init>" ∨ Jvm.Cond.selects (oMt z).1.cls (oMt z).1 (oMt z).1 ∈ oWds)) ∧
    ((oMt z).1.cls ≠ "java/lang/invoke/MethodHandle" ∧ (oMt z).1.cls ≠ "java/lang/invoke/VarHandle" ∧ (parseMethodDescriptor (oMt z).1.desc).map (fun d => d.parameters.length) = some (oMt z).2.2.2.2.2.1) ∧
    plainName (oMt z).1.cls = true ∧ (oMt z).1.cls = oNm (oMt z).2.2.2.2.1 ∧ (oMt z).2.2.1 ≤ 20 := by
  have h := oMt_chk hz
  unfold oMtChk at h
  split at h
  · next pl hpl =>
    simp only [Bool.and_eq_true, decide_eq_true_eq] at h
    obtain ⟨⟨a1, a2⟩, ⟨a3, a4⟩, a5, a6, a7, a8, a9⟩ := h
    refine ⟨oWds_at a1 a2, oWds_at a3 a4, fun hs => ?_, fun hs => ?_, a6, a7, a8, a9⟩
    · rw [if_pos hs, Bool.and_eq_true, decide_eq_true_eq] at a5
      exact oWds_at a5.1 a5.2
    · rw [if_neg (by rw [hs]; decide), Bool.and_eq_true, Bool.and_eq_true, decide_eq_true_eq, Bool.or_eq_true, beq_iff_eq, Bool.and_eq_true, decide_eq_true_eq] at a5
      refine ⟨oWds_at a5.1.1 a5.1.2, ?_⟩
      rcases a5.2 with z1 | z1
      · exact Or.inl z1
      · exact Or.inr (oWds_at z1.1 z1.2)
  · cases h
/-- what is checked of a link -/
def oLkChk (q : Nat × Nat × Nat × Nat × Nat) : Bool := match q.2.2.1 with
  | 3 => decide (q.2.2.2.1 < 226) && oNest.contains (q.1, q.2.1, q.2.2.2.1)
  | 4 => decide (lw_tbl[q.2.2.2.2]? = some (.methodLink (oNm q.1) q.2.1 Lib.objectInit)) && oGood (.methodLink (oNm q.1) q.2.1 Lib.objectInit)
  | 5 => decide (lw_tbl[q.2.2.2.2]? = some (.methodLink (oNm q.1) q.2.1 arraycopyName)) && oGood (.methodLink (oNm q.1) q.2.1 arraycopyName)
  | 6 => decide (lw_tbl[q.2.2.2.2]? = some (.methodLink (oNm q.1) q.2.1 Lib.Math.max.name)) && oGood (.methodLink (oNm q.1) q.2.1 Lib.Math.max.name)
  | 7 => decide (lw_tbl[q.2.2.2.2]? = some (.methodLink (oNm q.1) q.2.1 Lib.Math.min.name)) && oGood (.methodLink (oNm q.1) q.2.1 Lib.Math.min.name)
  | _ => decide (q.2.2.2.1 < 226) && (decide (lw_tbl[q.2.2.2.2]? = some (.methodLink (oNm q.1) q.2.1 (oMt q.2.2.2.1).1)) && oGood (.methodLink (oNm q.1) q.2.1 (oMt q.2.2.2.1).1))
theorem oLk_chk : oLk.all oLkChk = true := by decide +kernel
theorem oLink_spec {own i k z : Nat} (h : oLink own i = some (k, z)) : (k < 3 → z < 226 ∧ Jvm.Cond.methodLink (oNm own) i (oMt z).1 ∈ oWds) ∧ (k = 3 → z < 226 ∧ (own, i, z) ∈ oNest) ∧ (k = 4 → Jvm.Cond.methodLink (oNm own) i Lib.objectInit ∈ oWds) ∧ (k = 5 → Jvm.Cond.methodLink (oNm own) i arraycopyName ∈ oWds) ∧ (k = 6 → Jvm.Cond.methodLink (oNm own) i Lib.Math.max.name ∈ oWds) ∧ (k = 7 → Jvm.Cond.methodLink (oNm own) i Lib.Math.min.name ∈ oWds) := by
  obtain ⟨p, hp⟩ := oFind3_spec h
  have h1 := List.all_eq_true.mp oLk_chk _ hp
  unfold oLkChk at h1
  dsimp only at h1
  split at h1
  · rw [Bool.and_eq_true, decide_eq_true_eq] at h1
    exact ⟨fun q => by omega, fun _ => ⟨h1.1, List.contains_iff_mem.mp h1.2⟩, fun q => by omega, fun q => by omega, fun q => by omega, fun q => by omega⟩
  · rw [Bool.and_eq_true, decide_eq_true_eq] at h1
    exact ⟨fun q => by omega, fun q => by omega, fun _ => oWds_at h1.1 h1.2, fun q => by omega, fun q => by omega, fun q => by omega⟩
  · rw [Bool.and_eq_true, decide_eq_true_eq] at h1
    exact ⟨fun q => by omega, fun q => by omega, fun q => by omega, fun _ => oWds_at h1.1 h1.2, fun q => by omega, fun q => by omega⟩
  · rw [Bool.and_eq_true, decide_eq_true_eq] at h1
    exact ⟨fun q => by omega, fun q => by omega, fun q => by omega, fun q => by omega, fun _ => oWds_at h1.1 h1.2, fun q => by omega⟩
  · rw [Bool.and_eq_true, decide_eq_true_eq] at h1
    exact ⟨fun q => by omega, fun q => by omega, fun q => by omega, fun q => by omega, fun q => by omega, fun _ => oWds_at h1.1 h1.2⟩
  · next n3 n4 n5 n6 n7 =>
    rw [Bool.and_eq_true, Bool.and_eq_true, decide_eq_true_eq, decide_eq_true_eq] at h1
    exact ⟨fun _ => ⟨h1.1, oWds_at h1.2.1 h1.2.2⟩, fun q => absurd q n3, fun q => absurd q n4, fun q => absurd q n5, fun q => absurd q n6, fun q => absurd q n7⟩
def oWs (y : Nat) : List Jvm.Cond := .code (oMt y).1 (oMt y).2.1 (oMt y).2.2.1 (oMt y).2.2.2.1 :: oWds
theorem oWs_good {z : Nat} (hz : z < 226) : GoodIn oWds (oWs z) := by
  intro w hw
  have key : ∀ w ∈ oWds, w ∈ oWds ∧ ((w.onTables && w.keeps) = true ∨ ∃ ty, w = .arrayClass ty) := fun w hw => ⟨hw, (oWds_good w hw).2⟩
  rcases List.mem_cons.mp hw with rfl | hw
  · exact key _ (oMt_spec hz).1
  · exact key w hw
def oRm (d mc ms : Nat) : Room := { frames := d, cells := mc, slots := ms, locals := 40 * d }
def oPre (B b : Nat) (D : va_G) (cA : Nat → ClassId) (as : List oV) (h : oH) : Array Value → State → Prop := va_Pc (as.map (oCv B b)) (fun U => oHp B b cA D h U.heap ∧ va_K D oCls (oTys cA) U ∧ oWk U)
def oPost (B b : Nat) (D : va_G) (cA : Nat → ClassId) (r : Option oV) (h' : oH) : Array Value → State → Outcome → State → Prop := fun _ st oc t => oc = .returned (r.map (oCv B b)) ∧ oHp B b cA D h' t.heap ∧ (∀ q : Nat, q < B → t.heap[q]? = st.heap[q]?) ∧ ∀ v, r = some v → oOkV v
/-- method y, with these arguments over this heap -/
def oMet (l : Launch) (B b : Nat) (D : va_G) (cA : Nat → ClassId) (d y : Nat) (as : List oV) (h : oH) (r : Option oV) (h' : oH) : Prop :=
  Met l (oMt y).1 (oWs y) (oRm d (oMk y as).1 (oMk y as).2) (oPre B b D cA as h) (oPost B b D cA r h') (oMk y as).1 (oMk y as).2 (fun q => B ≤ q) ∧ h'.1 = h.1 + (oMk y as).1 ∧ h'.2.1 = h.2.1 + (oMk y as).2
section OSF
variable {p : Program} {l : Launch} {e : Env} {R : Room} {s : State} {m : MethodId} {args : Array Value} {below : List Frame} {meth : Method} {c : Code} {H H0 : Heap} {locs : List Loc} {cells slots : Nat} {Q : State → Prop}
variable {y pc nL B b : Nat} {ls : Array Slot} {L S : List oV} {D : va_G} {cA : Nat → ClassId} {h : oH}
theorem oGoCall {mc ms : Nat} {g : JFrame} {rest : List Value} {Qa : State → Outcome → State → Prop} {free : Addr → Prop} (hr : va_Run p l e R s m args below meth c H locs cells slots mc ms g rest Qa free)
    (kk : ∀ (v : Option Value) (st₀ t : State) (L : List Loc), st₀.heap = H → (∀ q ∈ L, free q.base) → Qa st₀ (.returned v) t → W p l e R s m args below meth c t.heap (locs ++ L) (cells + mc) (slots + ms) Q { g with pc := g.pc + 3, stack := v.toList ++ rest }) : W p l e R s m args below meth c H locs cells slots Q g := by
  intro T hT X
  obtain ⟨v, st₀, t, T', L, h0, X', hL, e1, e2, hq, st⟩ := hr T hT X
  obtain ⟨t2, a1, b1⟩ := kk v st₀ t L h0 hL hq T' e1 X'
  exact ⟨t2, st t2 a1, b1⟩
theorem oFr_call {H1 : Heap} {L : List Loc} (hf : oFr B H0 H locs) (o : ∀ q : Nat, q < B → H1[q]? = H[q]?) (hL : ∀ q ∈ L, B ≤ q.base) : oFr B H0 H1 (locs ++ L) :=
  ⟨fun q hq => (o q hq).trans (hf.1 q hq), fun x hx => by
    rcases List.mem_append.mp hx with z | z
    · exact hf.2 x z
    · exact hL x z⟩
theorem oPre_ok {as : List oV} (hp : oHp B b cA D h H) (hK : va_K D oCls (oTys cA) s) (hWk : oWk s) : FrameBlind (oPre B b D cA as h) ∧ ∀ U : State, U.heap = H → s.WarmedH U.vm → oPre B b D cA as h (as.map (oCv B b)).toArray U := by
  refine ⟨fun a U g mk q => ?_, fun U hU hW => ⟨rfl, by rw [hU]; exact hp, va_K.moved hW.alike hK, oWk_warm hW hWk⟩⟩
  obtain ⟨q0, q1, q2, q3⟩ := q
  exact ⟨q0, q1, va_K.moved (u := U) (U := U.calling g mk a) (Vm.Alike.refl U.vm) q2, oWk_same (u := U) (U := U.calling g mk a) rfl q3⟩
/-- behind a call -/
theorem oBackW {n0 s0 d z : Nat} {lim : Nat × Nat} {as S' : List oV} {r : oR} {res : Option (Option oV × oH)} (hst : oSt B b nL ls L S) (hS' : ∀ v ∈ S', oOkV v) (hfr : oFr B H0 H locs) (hct : oCt R cells slots n0 s0 h lim) (hb : oBack lim pc L S' res = some r) {rv : Option oV} {h' : oH} (hres : res = some (rv, h')) (hM : oMet l B b D cA d z as h rv h')
    (hr : va_Run p l e R s m args below meth c H locs cells slots (oMk z as).1 (oMk z as).2 (F0 m pc ls (S.map (oCv B b))) (S'.map (oCv B b)) (oPost B b D cA rv h' (as.map (oCv B b)).toArray) (fun q => B ≤ q))
    (k : ∀ (pc' : Nat) (S' : List oV) (h' : oH) (cells' slots' : Nat), r = .inl (pc', L, S', h') → oCt R cells' slots' n0 s0 h' lim → oAfter p l e R s m args below meth c H0 cells' slots' Q nL B b D cA ls L pc' S' h') : W p l e R s m args below meth c H locs cells slots Q (F0 m pc ls (S.map (oCv B b))) := by
  obtain ⟨h1, h2, h3, h4⟩ := hst
  obtain ⟨t1, t2, t3, t4⟩ := hct
  obtain ⟨-, m1, m2⟩ := hM
  refine oGoCall hr fun v st₀ t LL hst0 hL hq => ?_
  obtain ⟨q1, q2, q3, q4⟩ := hq
  rw [hst0] at q3
  have hv : v = rv.map (oCv B b) := Outcome.returned.inj q1
  subst hv
  subst hres
  unfold oBack at hb
  cases rv with
  | none =>
    dsimp only at hb
    split at hb
    · next hl =>
      cases hb
      exact k _ _ _ _ _ rfl ⟨by omega, by omega, t3, t4⟩ _ _ q2 (oFr_call hfr q3 hL) ⟨h1, h2, h3, hS'⟩
    · cases hb
  | some w =>
    dsimp only at hb
    split at hb
    · next hl =>
      cases hb
      exact k _ _ _ _ _ rfl ⟨by omega, by omega, t3, t4⟩ _ _ q2 (oFr_call hfr q3 hL) ⟨h1, h2, h3, oAll1 (q4 w rfl) hS'⟩
    · cases hb
theorem oBack_lim {lim : Nat × Nat} {S' : List oV} {r : oR} {res : Option (Option oV × oH)} (hb : oBack lim pc L S' res = some r) : ∃ rv h', res = some (rv, h') ∧ h'.1 ≤ lim.1 ∧ h'.2.1 ≤ lim.2 := by
  unfold oBack at hb
  split at hb
  · next v h1 => split at hb
                 · next hl => exact ⟨_, _, rfl, hl⟩
                 · cases hb
  · next h1 => split at hb
               · next hl => exact ⟨_, _, rfl, hl⟩
               · cases hb
  · cases hb
theorem oTake_rev {S : List oV} {n : Nat} {v : oV} {S' : List oV} (h : S.drop n = v :: S') : S.map (oCv B b) = ((S.take n).reverse.map (oCv B b)).reverse ++ oCv B b v :: S'.map (oCv B b) := by
  rw [← List.map_reverse, List.reverse_reverse, ← List.map_cons, ← List.map_append, ← h, List.take_append_drop]
theorem oTake_rev0 {S : List oV} {n : Nat} : S.map (oCv B b) = ((S.take n).reverse.map (oCv B b)).reverse ++ (S.drop n).map (oCv B b) := by
  rw [← List.map_reverse, List.reverse_reverse, ← List.map_append, List.take_append_drop]
theorem oOk_take {S : List oV} {n : Nat} (h : ∀ v ∈ S, oOkV v) : ∀ v ∈ (S.take n).reverse, oOkV v := fun v hv => h v (List.mem_of_mem_take (List.mem_reverse.mp hv))
theorem oOk_drop {S : List oV} {n : Nat} (h : ∀ v ∈ S, oOkV v) : ∀ v ∈ S.drop n, oOkV v := fun v hv => h v (List.mem_of_mem_drop hv)
/-- System.arraycopy of one kind of numbers -/
theorem oCopyRow {cc : ByteArray} {mk : Int → Value} {ty : FieldType} {t0 a a0 n0 n1 : Nat} {c0 : ClassId} {f g : Nat → Int} {sp dp n : Int} {rest : List Value} {i : Nat} {own : String} (hx : p.tables.exec = Jvm.exec) (hb : c.code = cc) (hml : c.maxLocals = ls.size) (hown : s.vm.findClass own = some m.cls) (hlink : (Cond.methodLink own i arraycopyName).before args s = true)
    (hnat : (Cond.native arraycopyName).before args s = true) (hstat : (Cond.static arraycopyName).before args s = true) (hini : (Cond.initialized "java/lang/System").before args s = true) (hK : va_K D oCls (oTys cA) s) (ht0 : (oTys cA)[t0]? = some (c0, ty)) (hprim : refKind ty = false) (hfits : ∀ z, fits ty (mk z) = true) (htk : ∀ (U : State) (ci : ClassId) (z : Int), U.takes ci (mk z))
    (hc0 : H[a0]? = some (arrV c0 n0 (fun j => mk (f j)))) (hc1 : H[a]? = some (arrV c0 n1 (fun j => mk (g j)))) (hsp : oI32 sp) (hdp : oI32 dp) (hn : oI32 n) (g1 : 0 ≤ sp) (g2 : 0 ≤ dp) (g3 : 0 ≤ n) (g4 : sp + n ≤ n0) (g5 : dp + n ≤ n1)
    (hframes : 1 ≤ R.frames) (hlocals : (rest.map fun v => v.category).sum + (nativeFrameWords "java/lang/System" "arraycopy" 5 + 11) ≤ R.locals) (hdg : decode cc pc = .ok (.invokestatic i, 3))
    (kk : ∀ (H1 : Heap) (L1 : List Loc), H1.size = H.size → (∀ q : Nat, q ≠ a → H1[q]? = H[q]?) → H1[a]? = some (arrV c0 n1 (fun j => mk (va_cpy f g sp.toNat dp.toNat n.toNat j))) → (∀ q ∈ L1, q.base = a) → W p l e R s m args below meth c H1 (locs ++ L1) cells slots Q (F0 m (pc + 3) ls rest)) :
    W p l e R s m args below meth c H locs cells slots Q (F0 m pc ls (.int (Int32.ofInt n) :: .int (Int32.ofInt dp) :: .ref a :: .int (Int32.ofInt sp) :: .ref a0 :: rest)) := by
  intro T hT X
  obtain ⟨-, k0, hk0, cm0, hkk0⟩ := (hK.2 t0 _ ht0).1 n0 (fun j => mk (f j))
  have e1 : (Int32.ofInt sp).toInt = sp := oI32_ofInt hsp
  have e2 : (Int32.ofInt dp).toInt = dp := oI32_ofInt hdp
  have e3 : (Int32.ofInt n).toInt = n := oI32_ofInt hn
  have e4 := oI32_clamp hsp
  have e5 := oI32_clamp hdp
  have e6 := oI32_clamp hn
  have hs4 : sp.toNat + n.toNat ≤ n0 := by omega
  obtain ⟨vm', X', step⟩ := X.arraycopy hx hown hlink hnat hstat hini (src := a0) (dst := a) (cs := arrV c0 n0 (fun j => mk (f j))) (cd := arrV c0 n1 (fun j => mk (g j))) (srcPos := Int32.ofInt sp) (destPos := Int32.ofInt dp) (n := Int32.ofInt n) (by rw [hT]; exact hc0) (by rw [hT]; exact hc1)
    (fun _ h => by cases h) (fun _ h => by cases h) (fun h => by cases h) (fun h => by cases h) hk0 hk0 hkk0 hkk0 (by simp [hprim]) (fun z => by have := (oI32_lt0 hsp).mp z; omega) (fun z => by have := (oI32_lt0 hdp).mp z; omega) (fun z => by have := (oI32_lt0 hn).mp z; omega)
    (by rw [e1, e3, arrV_size]; omega) (by rw [e2, e3, arrV_size]; omega)
    (fun vm₁ _ j hj => by
      rw [e6] at hj
      have e : (arrV c0 n0 (fun j => mk (f j))).slots.getD ((Int32.ofInt sp).toNatClampNeg + j) .null = mk (f (sp.toNat + j)) := by
        rw [Array.getD_eq_getD_getElem?, e4, arrV_read _ _ (by omega)]
        rfl
      rw [e]
      exact ⟨hfits _, htk _ _ _⟩)
    (g := F0 m pc ls (.int (Int32.ofInt n) :: .int (Int32.ofInt dp) :: .ref a :: .int (Int32.ofInt sp) :: .ref a0 :: rest)) rfl (by rw [hml]) (rest := rest) rfl (by rw [hb]; exact hdg) hframes (by show 2 * 0 + _ + _ ≤ _; omega)
  have e7 : copied (arrV c0 n0 (fun j => mk (f j))) (arrV c0 n1 (fun j => mk (g j))) (Int32.ofInt sp) (Int32.ofInt dp) (Int32.ofInt n) = arrV c0 n1 (fun j => mk (va_cpy f g sp.toNat dp.toNat n.toNat j)) := by
    have := va_copied mk c0 c0 (n0 := n0) (n1 := n1) (sp := sp.toNat) (dp := dp.toNat) (n := n.toNat) f g hs4
    rw [← e4, ← e5, ← e6] at this ⊢
    exact this
  rw [e7] at X' step
  have hl : a < H.size := (Array.getElem?_eq_some_iff.mp hc1).1
  generalize hZ : arrV c0 n1 (fun j => mk (va_cpy f g sp.toNat dp.toNat n.toNat j)) = Z at X' step kk
  have hheap : ((T.setVm vm').setCell a Z).heap = H.setIfInBounds a Z := by rw [← hT]; rfl
  obtain ⟨t, a1, b1⟩ := kk (H.setIfInBounds a Z) _ (by simp) (fun q hq => by simp [Array.getElem?_setIfInBounds, Ne.symm hq]) (by simp [Array.getElem?_setIfInBounds, hl]) (fun q hq => by
    obtain ⟨z, -, hz⟩ := List.mem_map.mp hq
    rw [← hz]) _ hheap X'
  exact ⟨t, step t a1, b1⟩
end OSF
theorem oNat : Jvm.Cond.native arraycopyName ∈ oWds := List.mem_filter.mpr ⟨by decide +kernel, by decide +kernel⟩
theorem oStt : Jvm.Cond.static arraycopyName ∈ oWds := List.mem_filter.mpr ⟨by decide +kernel, by decide +kernel⟩
theorem oSys : Jvm.Cond.initialized "java/lang/System" ∈ oWds := List.mem_filter.mpr ⟨by decide +kernel, by decide +kernel⟩
theorem oObI : Jvm.Cond.instanceMethod Lib.objectInit ∈ oWds := List.mem_filter.mpr ⟨by decide +kernel, by decide +kernel⟩
theorem oObC : Jvm.Cond.code Lib.objectInit ⟨#[0xb1]⟩ 1 none ∈ oWds := List.mem_filter.mpr ⟨by decide +kernel, by decide +kernel⟩
theorem oMaS : Jvm.Cond.static Lib.Math.max.name ∈ oWds := List.mem_filter.mpr ⟨by decide +kernel, by decide +kernel⟩
theorem oMaC : Jvm.Cond.code Lib.Math.max.name Lib.Math.max.code 2 (some .int) ∈ oWds := List.mem_filter.mpr ⟨by decide +kernel, by decide +kernel⟩
theorem oMiS : Jvm.Cond.static Lib.Math.min.name ∈ oWds := List.mem_filter.mpr ⟨by decide +kernel, by decide +kernel⟩
theorem oMiC : Jvm.Cond.code Lib.Math.min.name Lib.Math.min.code 2 (some .int) ∈ oWds := List.mem_filter.mpr ⟨by decide +kernel, by decide +kernel⟩
theorem oMaI : Jvm.Cond.initialized "java/lang/Math" ∈ oWds := List.mem_filter.mpr ⟨by decide +kernel, by decide +kernel⟩
