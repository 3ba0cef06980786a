/-! three: the heap, reads and writes -/
def oGood (w : Jvm.Cond) : Bool := (w.onTables && w.keeps) || (match w with
  | .arrayClass _ => true
  | _ => false)
/-- the words that every method of ours stands on -/
def oWds : List Jvm.Cond := lw_tbl.filter oGood
theorem oWds_good : ∀ w ∈ oWds, w ∈ lw_tbl ∧ ((w.onTables && w.keeps) = true ∨ ∃ ty, w = .arrayClass ty) := by
  intro w hw
  obtain ⟨h1, h2⟩ := List.mem_filter.mp hw
  refine ⟨h1, ?_⟩
  unfold oGood at h2
  rw [Bool.or_eq_true] at h2
  rcases h2 with h | h
  · exact Or.inl h
  · split at h
    · next ty => exact Or.inr ⟨ty, rfl⟩
    · cases h
theorem oWds_in {w : Jvm.Cond} (h : w ∈ lw_tbl) (hg : oGood w = true) : w ∈ oWds := List.mem_filter.mpr ⟨h, hg⟩
theorem oWds_at {w : Jvm.Cond} {i : Nat} (h : lw_tbl[i]? = some w) (hg : oGood w = true) : w ∈ oWds := oWds_in (List.mem_of_getElem? h) hg
def oFlChk (q : Nat × Nat × Nat × Nat × Nat) : Bool := match oCls[q.2.2.1]? with
  | some r => decide (q.2.2.2.1 < r.2.2) && (decide (lw_tbl[q.2.2.2.2]? = some (.fieldLink (oNm q.1) q.2.1 (r.2.1 q.2.2.2.1).1 (r.2.1 q.2.2.2.1).2.1 (r.2.1 q.2.2.2.1).2.2.1)) && oGood (.fieldLink (oNm q.1) q.2.1 (r.2.1 q.2.2.2.1).1 (r.2.1 q.2.2.2.1).2.1 (r.2.1 q.2.2.2.1).2.2.1))
  | none => false
theorem oFl_chk : oFl.all oFlChk = true := by decide +kernel
theorem oFind3_spec {l : List (Nat × Nat × Nat × Nat × Nat)} {c i k z : Nat} (h : oFind3 l c i = some (k, z)) : ∃ p, (c, i, k, z, p) ∈ l := by
  unfold oFind3 at h
  split at h
  · next q hq =>
    have h1 := List.mem_of_find?_eq_some hq
    have h2 := List.find?_some hq
    simp only [Bool.and_eq_true, beq_iff_eq] at h2
    obtain ⟨a, b, c', d, e⟩ := q
    simp only [Option.some.injEq, Prod.mk.injEq] at h
    simp only at h2
    obtain ⟨rfl, rfl⟩ := h2
    obtain ⟨rfl, rfl⟩ := h
    exact ⟨e, h1⟩
  · cases h
theorem oFld_spec {own i ci k : Nat} (h : oFld own i = some (ci, k)) : ∃ r, oCls[ci]? = some r ∧ k < r.2.2 ∧ Jvm.Cond.fieldLink (oNm own) i (r.2.1 k).1 (r.2.1 k).2.1 (r.2.1 k).2.2.1 ∈ oWds := by
  obtain ⟨p, hp⟩ := oFind3_spec h
  have h1 := List.all_eq_true.mp oFl_chk _ hp
  unfold oFlChk at h1
  dsimp only at h1
  split at h1
  · next r hr =>
    simp only [Bool.and_eq_true, decide_eq_true_eq] at h1
    exact ⟨r, hr, h1.1, oWds_at h1.2.1 h1.2.2⟩
  · cases h1
def oClOk (ci : Nat) (r : vw_C) : Prop := (∀ w ∈ u_ws r.1 r.2.1 r.2.2, w ∈ oWds) ∧ (∀ k, k < r.2.2 → parseFieldDescriptor (r.2.1 k).2.2.1 = some (oTy ci k)) ∧ (∀ a, a < r.2.2 → ∀ b, b < r.2.2 → a ≠ b → (r.2.1 a).2.1 ≠ (r.2.1 b).2.1) ∧ (∀ k, k < r.2.2 → (r.2.1 k).1 = r.1) ∧ r.1 = oNm ci
theorem oWsX0 : ∀ w ∈ u_ws RX0 TX0 4, oGood w = true := by decide +kernel
theorem oOwX0 : ∀ k, k < 4 → (TX0 k).1 = RX0 := by decide +kernel
theorem oWsX1 : ∀ w ∈ u_ws RX1 TX1 7, oGood w = true := by decide +kernel
theorem oOwX1 : ∀ k, k < 7 → (TX1 k).1 = RX1 := by decide +kernel
theorem oWsX2 : ∀ w ∈ u_ws RX2 TX2 3, oGood w = true := by decide +kernel
theorem oOwX2 : ∀ k, k < 3 → (TX2 k).1 = RX2 := by decide +kernel
theorem oWsX3 : ∀ w ∈ u_ws RX3 TX3 5, oGood w = true := by decide +kernel
theorem oOwX3 : ∀ k, k < 5 → (TX3 k).1 = RX3 := by decide +kernel
theorem oWsX4 : ∀ w ∈ u_ws RX4 TX4 2, oGood w = true := by decide +kernel
theorem oOwX4 : ∀ k, k < 2 → (TX4 k).1 = RX4 := by decide +kernel
theorem oWsX5 : ∀ w ∈ u_ws RX5 TX5 6, oGood w = true := by decide +kernel
theorem oOwX5 : ∀ k, k < 6 → (TX5 k).1 = RX5 := by decide +kernel
theorem oWsX6 : ∀ w ∈ u_ws RX6 TX6 3, oGood w = true := by decide +kernel
theorem oOwX6 : ∀ k, k < 3 → (TX6 k).1 = RX6 := by decide +kernel
theorem oWsX7 : ∀ w ∈ u_ws RX7 TX7 3, oGood w = true := by decide +kernel
theorem oOwX7 : ∀ k, k < 3 → (TX7 k).1 = RX7 := by decide +kernel
theorem oWsX8 : ∀ w ∈ u_ws RX8 TX8 3, oGood w = true := by decide +kernel
theorem oOwX8 : ∀ k, k < 3 → (TX8 k).1 = RX8 := by decide +kernel
theorem oWsX9 : ∀ w ∈ u_ws RX9 TX9 6, oGood w = true := by decide +kernel
theorem oOwX9 : ∀ k, k < 6 → (TX9 k).1 = RX9 := by decide +kernel
theorem oWsX10 : ∀ w ∈ u_ws RX10 TX10 11, oGood w = true := by decide +kernel
theorem oOwX10 : ∀ k, k < 11 → (TX10 k).1 = RX10 := by decide +kernel
theorem oWsX11 : ∀ w ∈ u_ws RX11 TX11 24, oGood w = true := by decide +kernel
theorem oOwX11 : ∀ k, k < 24 → (TX11 k).1 = RX11 := by decide +kernel
theorem oCl_ok {ci : Nat} {r : vw_C} (h : oCls[ci]? = some r) : oClOk ci r := by
  match ci, h with
  | 0, h => cases h; exact ⟨fun w hw => oWds_in (inX0 w hw) (oWsX0 w hw), tyX0_ok, nmX0, oOwX0, rfl⟩
  | 1, h => cases h; exact ⟨fun w hw => oWds_in (inX1 w hw) (oWsX1 w hw), tyX1_ok, nmX1, oOwX1, rfl⟩
  | 2, h => cases h; exact ⟨fun w hw => oWds_in (inX2 w hw) (oWsX2 w hw), tyX2_ok, nmX2, oOwX2, rfl⟩
  | 3, h => cases h; exact ⟨fun w hw => oWds_in (inX3 w hw) (oWsX3 w hw), tyX3_ok, nmX3, oOwX3, rfl⟩
  | 4, h => cases h; exact ⟨fun w hw => oWds_in (inX4 w hw) (oWsX4 w hw), tyX4_ok, nmX4, oOwX4, rfl⟩
  | 5, h => cases h; exact ⟨fun w hw => oWds_in (inX5 w hw) (oWsX5 w hw), tyX5_ok, nmX5, oOwX5, rfl⟩
  | 6, h => cases h; exact ⟨fun w hw => oWds_in (inX6 w hw) (oWsX6 w hw), tyX6_ok, nmX6, oOwX6, rfl⟩
  | 7, h => cases h; exact ⟨fun w hw => oWds_in (inX7 w hw) (oWsX7 w hw), tyX7_ok, nmX7, oOwX7, rfl⟩
  | 8, h => cases h; exact ⟨fun w hw => oWds_in (inX8 w hw) (oWsX8 w hw), tyX8_ok, nmX8, oOwX8, rfl⟩
  | 9, h => cases h; exact ⟨fun w hw => oWds_in (inX9 w hw) (oWsX9 w hw), tyX9_ok, nmX9, oOwX9, rfl⟩
  | 10, h => cases h; exact ⟨fun w hw => oWds_in (inX10 w hw) (oWsX10 w hw), tyX10_ok, nmX10, oOwX10, rfl⟩
  | 11, h => cases h; exact ⟨fun w hw => oWds_in (inX11 w hw) (oWsX11 w hw), tyX11_ok, nmX11, oOwX11, rfl⟩
  | n + 12, h => simp [oCls] at h
def oKiChk (q : Nat × Nat × Int × Nat) : Bool := decide (lw_tbl[q.2.2.2]? = some (.constant (oNm q.1) q.2.1 (Int32.ofInt q.2.2.1))) && (oGood (.constant (oNm q.1) q.2.1 (Int32.ofInt q.2.2.1)) && decide (-2147483648 ≤ q.2.2.1 ∧ q.2.2.1 < 2147483648))
def oKlChk (q : Nat × Nat × Int × Nat) : Bool := decide (lw_tbl[q.2.2.2]? = some (.constantLong (oNm q.1) q.2.1 (Int64.ofInt q.2.2.1))) && (oGood (.constantLong (oNm q.1) q.2.1 (Int64.ofInt q.2.2.1)) && decide (-9223372036854775808 ≤ q.2.2.1 ∧ q.2.2.1 < 9223372036854775808))
theorem oKi_chk : oKi.all oKiChk = true := by decide +kernel
theorem oKl_chk : oKl.all oKlChk = true := by decide +kernel
theorem oKonI_spec {own i : Nat} {z : Int} (h : oKonI own i = some z) : Jvm.Cond.constant (oNm own) i (Int32.ofInt z) ∈ oWds ∧ oI32 z := by
  unfold oKonI at h
  split at h
  · next q hq =>
    have h1 := List.all_eq_true.mp oKi_chk _ (List.mem_of_find?_eq_some hq)
    have h2 := List.find?_some hq
    obtain ⟨a, b, c, d⟩ := q
    simp only [Bool.and_eq_true, beq_iff_eq] at h2
    obtain ⟨rfl, rfl⟩ := h2
    cases h
    unfold oKiChk at h1
    simp only [Bool.and_eq_true, decide_eq_true_eq] at h1
    exact ⟨oWds_at h1.1 h1.2.1, h1.2.2⟩
  · cases h
theorem oKonL_spec {own i : Nat} {z : Int} (h : oKonL own i = some z) : Jvm.Cond.constantLong (oNm own) i (Int64.ofInt z) ∈ oWds ∧ oI64 z := by
  unfold oKonL at h
  split at h
  · next q hq =>
    have h1 := List.all_eq_true.mp oKl_chk _ (List.mem_of_find?_eq_some hq)
    have h2 := List.find?_some hq
    obtain ⟨a, b, c, d⟩ := q
    simp only [Bool.and_eq_true, beq_iff_eq] at h2
    obtain ⟨rfl, rfl⟩ := h2
    cases h
    unfold oKlChk at h1
    simp only [Bool.and_eq_true, decide_eq_true_eq] at h1
    exact ⟨oWds_at h1.1 h1.2.1, h1.2.2⟩
  · cases h
/-- the rows' kinds -/
def oTys (cA : Nat → ClassId) : List (ClassId × FieldType) := [(cA 0, .int), (cA 1, .long), (cA 2, .byte), (cA 3, .object "OddPartners$Clause"), (cA 4, .array .long)]
/-- a cell as the machine has it -/
def oCe (B b : Nat) (cA : Nat → ClassId) (x : oC) : va_E := match x with
  | .inl (ci, fs) => .inr (ci, fs.map (oCv B b))
  | .inr (.inl (t, n, f)) => if t = 1 then .inl (cA 1, n, .inr (.inl (fun j => Int64.ofInt (f j)))) else .inl (cA t, n, .inl (fun j => Int32.ofInt (f j)))
  | .inr (.inr (t, n, f)) => .inl (cA t, n, .inr (.inr (.inr (.inr (fun j => (f j).map (fun a => B + a))))))
def oOkC (x : oC) : Prop := match x with
  | .inl (_, fs) => ∀ v ∈ fs, oOkV v
  | .inr (.inl (t, n, f)) => t < 3 ∧ n < 2147483648 ∧ ∀ j, if t = 1 then oI64 (f j) else oI32 (f j)
  | .inr (.inr (t, n, _)) => (t = 3 ∨ t = 4) ∧ n < 2147483648
def oHp (B b : Nat) (cA : Nat → ClassId) (D : va_G) (h : oH) (H : Heap) : Prop := H.size = B + h.1 ∧ ∀ k, k < h.1 → va_at D oCls (B + k, oCe B b cA (h.2.2 k)) H ∧ oOkC (h.2.2 k)
/-- what a walk has left alone: the cells below B that were there; what it wrote stands from B on -/
def oFr (B : Nat) (H0 H : Heap) (locs : List Loc) : Prop := (∀ q : Nat, q < B → H[q]? = H0[q]?) ∧ ∀ x ∈ locs, B ≤ x.base
theorem oFr_put {B a i : Nat} {H0 H H1 : Heap} {locs : List Loc} (hf : oFr B H0 H locs) (o : ∀ q : Nat, q ≠ B + a → H1[q]? = H[q]?) : oFr B H0 H1 (locs ++ [⟨B + a, i⟩]) := by
  refine ⟨fun q hq => (o q (by omega)).trans (hf.1 q hq), fun x hx => ?_⟩
  rcases List.mem_append.mp hx with h | h
  · exact hf.2 x h
  · rw [List.mem_singleton.mp h]
    exact Nat.le_add_right _ _
theorem oFr_new {B : Nat} {H0 H H1 : Heap} {locs : List Loc} (hf : oFr B H0 H locs) (hB : B ≤ H.size) (o : ∀ q : Nat, q < H.size → H1[q]? = H[q]?) : oFr B H0 H1 locs :=
  ⟨fun q hq => (o q (by omega)).trans (hf.1 q hq), hf.2⟩
theorem oHp_put {B b a : Nat} {cA : Nat → ClassId} {D : va_G} {h : oH} {H H1 : Heap} {x : oC} (hp : oHp B b cA D h H) (hz : H1.size = H.size) (o : ∀ q : Nat, q ≠ B + a → H1[q]? = H[q]?) (hx : va_at D oCls (B + a, oCe B b cA x) H1) (hok : oOkC x) : oHp B b cA D (h.1, h.2.1, oSet h.2.2 a x) H1 := by
  refine ⟨hz.trans hp.1, fun k hk => ?_⟩
  show va_at D oCls (B + k, oCe B b cA (oSet h.2.2 a x k)) H1 ∧ oOkC (oSet h.2.2 a x k)
  unfold oSet
  by_cases e : k = a
  · subst e
    rw [if_pos rfl]
    exact ⟨hx, hok⟩
  · rw [if_neg e]
    exact ⟨(hp.2 k hk).1.kept (o _ (by show B + k ≠ B + a; omega)), (hp.2 k hk).2⟩
theorem oHp_new {B b : Nat} {cA : Nat → ClassId} {D : va_G} {h : oH} {H H1 : Heap} {x : oC} {n : Nat} (hp : oHp B b cA D h H) (hz : H1.size = H.size + 1) (o : ∀ q : Nat, q < H.size → H1[q]? = H[q]?) (hx : va_at D oCls (B + h.1, oCe B b cA x) H1) (hok : oOkC x) : oHp B b cA D (h.1 + 1, n, oSet h.2.2 h.1 x) H1 := by
  refine ⟨by rw [hz, hp.1]; rfl, fun k hk => ?_⟩
  show va_at D oCls (B + k, oCe B b cA (oSet h.2.2 h.1 x k)) H1 ∧ oOkC (oSet h.2.2 h.1 x k)
  unfold oSet
  have hk' : k < h.1 + 1 := hk
  by_cases e : k = h.1
  · subst e
    rw [if_pos rfl]
    exact ⟨hx, hok⟩
  · rw [if_neg e]
    have hk2 : k < h.1 := by omega
    exact ⟨(hp.2 k hk2).1.kept (o _ (hp.2 k hk2).1.lt), (hp.2 k hk2).2⟩
theorem oHp_P {B b a : Nat} {cA : Nat → ClassId} {D : va_G} {h : oH} {H : Heap} (hp : oHp B b cA D h H) (ha : a < h.1) : va_P D oCls [(B + a, oCe B b cA (h.2.2 a))] H := by
  intro k q hk
  match k, hk with
  | 0, hk => cases hk; exact (hp.2 a ha).1
  | k + 1, hk => simp at hk
theorem oFits_spec {B b : Nat} {ty : FieldType} {v : oV} (h : oFits ty v = true) : narrow ty (oCv B b v) = oCv B b v ∧ fits ty (oCv B b v) = true := by
  unfold oFits at h
  split at h
  · exact ⟨rfl, rfl⟩
  · next x =>
    rcases of_decide_eq_true h with e | e <;> subst e
    · exact ⟨show narrow FieldType.boolean (.int (Int32.ofInt 0)) = .int (Int32.ofInt 0) by decide +kernel, rfl⟩
    · exact ⟨show narrow FieldType.boolean (.int (Int32.ofInt 1)) = .int (Int32.ofInt 1) by decide +kernel, rfl⟩
  · exact ⟨rfl, rfl⟩
  · exact ⟨rfl, rfl⟩
  · cases h
/-- the words that a method's tables don't carry by themselves: rows of references, constructors of nest mates -/
def oNest : List (Nat × Nat × Nat) := [(1, 11, 2), (9, 19, 6), (10, 37, 2), (10, 44, 8), (10, 54, 9), (10, 61, 10), (10, 68, 11)]
def oNestW (q : Nat × Nat × Nat) : Jvm.Cond := .methodLinkNest (oNm q.1) q.2.1 (oMt q.2.2).1 "OddPartners"
def oWk (s : State) : Prop := va_AO "OddPartners$Clause" s ∧ (Cond.arrayOver (.array .long)).before #[] s = true ∧ ∀ q ∈ oNest, va_Nw (oNestW q) s
/-- the walk's fixed frame: machine, bytes, tables -/
def oFx (p : Program) (s : State) (m : MethodId) (args : Array Value) (meth : Method) (c : Code) (y : Nat) (D : va_G) (cA : Nat → ClassId) : Prop :=
  p.tables.exec = Jvm.exec ∧ c.code = (oMt y).2.1 ∧ s.vm.findClass (oNm (oMt y).2.2.2.2.1) = some m.cls ∧ (∀ w ∈ oWds, w.before args s = true) ∧ va_K D oCls (oTys cA) s ∧ oWk s ∧ (oIni y = true → meth.name = (oMt y).1.name)
/-- the script, where there is one -/
def oSx (B b : Nat) (X : oXs) (s : State) (H0 : Heap) : Prop := X.1 = 0 ∨ (b < B ∧ va_X b (X.1 - 1) (fun j => Int32.ofInt (X.2 j)) s H0 ∧ 0 < X.1 ∧ ∀ j, oI32 (X.2 j))
section OSC
variable {p : Program} {l : Launch} {e : Env} {R : Room} {s : State} {m : MethodId} {args : Array Value} {below : List Frame} {meth : Method} {c : Code} {H H0 : Heap} {locs : List Loc} {cells slots : Nat} {Q : State → Prop}
variable {y pc nL B b : Nat} {ls : Array Slot} {L S : List oV} {D : va_G} {cA : Nat → ClassId} {h : oH} {X : oXs}
theorem oSim6 (hF : oFx p s m args meth c y D cA) (hX : oSx B b X s H0) (hst : oSt B b nL ls L S) (hp : oHp B b cA D h H) (hfr : oFr B H0 H locs) {q : Instr × Nat} (hdg : decode (oMt y).2.1 pc = .ok q) {r : oR} (hq : oG6 X (oMt y).2.2.2.2.1 q pc L S h = some r)
    (k : ∀ (pc' : Nat) (S' : List oV), r = .inl (pc', L, S', h) → oSt B b nL ls L S' → W p l e R s m args below meth c H locs cells slots Q (F0 m pc' ls (S'.map (oCv B b)))) : W p l e R s m args below meth c H locs cells slots Q (F0 m pc ls (S.map (oCv B b))) := by
  obtain ⟨hx, hb, hown, hts, hK, hWk, hnm⟩ := hF
  obtain ⟨h1, h2, h3, h4⟩ := hst
  have push : ∀ {n : Nat} {v : Option oV} {S' : List oV}, oPushH n pc L S' h v = some r → ∃ w, v = some w ∧ r = .inl (pc + n, L, w :: S', h) := by
    intro n v S' hh
    unfold oPushH at hh
    split at hh
    · next w => cases hh; exact ⟨w, rfl, rfl⟩
    · cases hh
  have el : ∀ {a kind : Nat} {i z : Int}, oEl h a kind i = some z → a < h.1 ∧ ∃ n f, h.2.2 a = .inr (.inl (kind, n, f)) ∧ 0 ≤ i ∧ i < n ∧ z = f i.toNat := by
    intro a kind i z hh
    unfold oEl at hh
    split at hh
    · next ha =>
      split at hh
      · next t n f hc =>
        split at hh
        · next hcc =>
          cases hh
          obtain ⟨rfl, g2, g3⟩ := hcc
          exact ⟨ha, n, f, hc, g2, g3, rfl⟩
        · cases hh
      · cases hh
    · cases hh
  have int : ∀ {v : Option Int} {w : oV}, oInt v = some w → ∃ z, v = some z ∧ w = .inl z := by
    intro v w hh
    unfold oInt at hh
    split at hh
    · next z => cases hh; exact ⟨z, rfl, rfl⟩
    · cases hh
  have long : ∀ {v : Option Int} {w : oV}, oLong v = some w → ∃ z, v = some z ∧ w = .inr (.inl z) := by
    intro v w hh
    unfold oLong at hh
    split at hh
    · next z => cases hh; exact ⟨z, rfl, rfl⟩
    · cases hh
  unfold oG6 at hq
  split at hq
  · next i a S' =>
    split at hq
    · next ci kf hfld =>
      obtain ⟨w, hw, rfl⟩ := push hq
      unfold oFldOf at hw
      split at hw
      · next ha =>
        split at hw
        · next c0 fs hc =>
          split at hw
          · next hci =>
            subst hci
            obtain ⟨⟨C, T, N⟩, g1, g2, g3⟩ := oFld_spec hfld
            obtain ⟨g4, g5, g6, g7, g8⟩ := oCl_ok g1
            have hP := oHp_P hp ha
            have hok := (hp.2 a ha).2
            rw [hc] at hP hok
            have kk := k _ _ rfl ⟨h1, h2, h3, oAll1 (hok w (List.mem_of_getElem? hw)) (oAllT h4).2⟩
            exact va_get hx hb hts g4 hown hK hP 0 (fs := fs.map (oCv B b)) rfl g1 kf g2 (hts _ g3) (fun x hx => hx) (v := oCv B b w) (by rw [List.getElem?_map, hw]; rfl) hdg kk
          · cases hw
        · cases hw
      · cases hw
    · cases hq
  · next i a S' =>
    obtain ⟨w, hw, rfl⟩ := push hq
    obtain ⟨z, hz, rfl⟩ := int hw
    obtain ⟨ha, n, f, hc, g1, g2, rfl⟩ := el hz
    have hP := oHp_P hp ha
    have hok := (hp.2 a ha).2
    rw [hc] at hP hok
    have o1 : oI32 i := (oAllT h4).1
    have o2 : oI32 (f i.toNat) := hok.2.2 i.toNat
    have kk := k _ _ rfl ⟨h1, h2, h3, oAll1 (P := oOkV) (v := .inl (f i.toNat)) o2 (oAllT (oAllT h4).2).2⟩
    rw [List.map_cons, ← oI32_clamp o1] at kk
    exact va_iald hx hb hK hP 0 0 rfl rfl (oIn o1 g1 g2) hdg kk
  · next i a S' =>
    obtain ⟨w, hw, rfl⟩ := push hq
    obtain ⟨z, hz, rfl⟩ := int hw
    obtain ⟨ha, n, f, hc, g1, g2, rfl⟩ := el hz
    have hP := oHp_P hp ha
    have hok := (hp.2 a ha).2
    rw [hc] at hP hok
    have o1 : oI32 i := (oAllT h4).1
    have o2 : oI32 (f i.toNat) := hok.2.2 i.toNat
    have kk := k _ _ rfl ⟨h1, h2, h3, oAll1 (P := oOkV) (v := .inl (f i.toNat)) o2 (oAllT (oAllT h4).2).2⟩
    rw [List.map_cons, ← oI32_clamp o1] at kk
    exact va_bald hx hb hK hP 0 2 rfl rfl (oIn o1 g1 g2) hdg kk
  · next i a S' =>
    obtain ⟨w, hw, rfl⟩ := push hq
    obtain ⟨z, hz, rfl⟩ := long hw
    obtain ⟨ha, n, f, hc, g1, g2, rfl⟩ := el hz
    have hP := oHp_P hp ha
    have hok := (hp.2 a ha).2
    rw [hc] at hP hok
    have o1 : oI32 i := (oAllT h4).1
    have o2 : oI64 (f i.toNat) := hok.2.2 i.toNat
    have kk := k _ _ rfl ⟨h1, h2, h3, oAll1 (P := oOkV) (v := .inr (.inl (f i.toNat))) o2 (oAllT (oAllT h4).2).2⟩
    rw [List.map_cons, ← oI32_clamp o1] at kk
    exact va_lald hx hb hK hP 0 1 rfl rfl (oIn o1 g1 g2) hdg kk
  · next i a S' =>
    obtain ⟨w, hw, rfl⟩ := push hq
    unfold oElR at hw
    split at hw
    · next ha =>
      split at hw
      · next t n f hc =>
        split at hw
        · next hcc =>
          obtain ⟨g1, g2⟩ := hcc
          have hat := (hp.2 a ha).1
          have hok := (hp.2 a ha).2
          rw [hc] at hat hok
          have o1 : oI32 i := (oAllT h4).1
          have hlt : i.toNat < n := by omega
          have hw2 : w = (match f i.toNat with | some r => .inr (.inr (.inl r)) | none => .inr (.inr (.inr 0))) := by
            revert hw
            cases f i.toNat <;> exact fun hw => (Option.some.inj hw).symm
          have hcv : oCv B b w = va_rf ((f i.toNat).map (fun a => B + a)) := by
            rw [hw2]
            cases f i.toNat <;> rfl
          have hokw : oOkV w := by
            rw [hw2]
            cases f i.toNat <;> exact trivial
          have kk := k _ _ rfl ⟨h1, h2, h3, oAll1 hokw (oAllT (oAllT h4).2).2⟩
          rw [List.map_cons, hcv] at kk
          have hcell : H[B + a]? = some (arrV (cA t) n (fun j => va_rf ((f j).map (fun a => B + a)))) := hat
          have key : ∀ (ty : FieldType), ty.isReference = true → (∃ t0 : Nat, (oTys cA)[t0]? = some (cA t, ty)) → W p l e R s m args below meth c H locs cells slots Q (F0 m pc ls (.int (Int32.ofInt i) :: .ref (B + a) :: S'.map (oCv B b))) := by
            intro ty hty ⟨t0, ht0⟩
            refine W.aald (ty := ty) hx hb hcell ((hK.2 t0 _ ht0).1 n _) hty (fun q => by cases q) ?_ ?_ rfl rfl hdg kk
            · rw [arrV_size]; exact oIn o1 g1 g2
            · rw [oI32_clamp o1, arrV_read _ _ hlt]
          rcases hok.1 with e | e
          · subst e; exact key _ rfl ⟨3, rfl⟩
          · subst e; exact key _ rfl ⟨4, rfl⟩
        · cases hw
      · cases hw
    · cases hw
  · next a S' =>
    obtain ⟨w, hw, rfl⟩ := push hq
    obtain ⟨z, hz, rfl⟩ := int hw
    unfold oLenOf at hz
    split at hz
    · next ha =>
      split at hz
      · next t n f hc =>
        split at hz
        · next hn =>
          cases hz
          have hP := oHp_P hp ha
          have hok := (hp.2 a ha).2
          rw [hc] at hP hok
          have o2 : oI32 (n : Int) := ⟨by omega, by omega⟩
          have kk := k _ _ rfl ⟨h1, h2, h3, oAll1 (P := oOkV) (v := .inl (n : Int)) o2 (oAllT h4).2⟩
          rw [List.map_cons] at kk
          have ht : t < 3 := hok.1
          match t, ht with
          | 0, _ => exact va_alen hx hb hK hP 0 0 rfl rfl rfl hdg kk
          | 1, _ => exact va_alen hx hb hK hP 0 1 rfl rfl rfl hdg kk
          | 2, _ => exact va_alen hx hb hK hP 0 2 rfl rfl rfl hdg kk
        · cases hz
      · cases hz
    · cases hz
  · next i S' =>
    split at hq
    · next hc =>
      cases hq
      rcases hX with h0 | ⟨g1, g2, g3, g4⟩
      · omega
      have o1 : oI32 i := (oAllT h4).1
      have kk := k _ _ rfl ⟨h1, h2, h3, oAll1 (P := oOkV) (v := .inl (X.2 i.toNat)) (g4 _) (oAllT (oAllT h4).2).2⟩
      rw [List.map_cons, ← oI32_clamp o1] at kk
      obtain ⟨scr, e1, e2, e3, e4, e5⟩ := g2
      have hlt : (Int32.ofInt i).toNatClampNeg < X.1 - 1 := by rw [oI32_clamp o1]; omega
      exact W.iald hx hb (by rw [hfr.1 b g1]; exact e1) e2 e3 (by rw [e4]; exact oIn o1 hc.1 (by omega)) (e5 _ hlt) rfl rfl hdg kk
    · cases hq
  · next S' =>
    split at hq
    · next hc =>
      cases hq
      rcases hX with h0 | ⟨g1, g2, g3, g4⟩
      · omega
      have o2 : oI32 ((X.1 - 1 : Nat) : Int) := ⟨by omega, by omega⟩
      have kk := k _ _ rfl ⟨h1, h2, h3, oAll1 (P := oOkV) (v := .inl ((X.1 - 1 : Nat) : Int)) o2 (oAllT h4).2⟩
      rw [List.map_cons] at kk
      obtain ⟨scr, e1, e2, e3, e4, e5⟩ := g2
      exact W.alen (n := Int32.ofInt ((X.1 - 1 : Nat) : Int)) hx hb (by rw [hfr.1 b g1]; exact e1) e2 (by rw [e4]; rfl) rfl rfl hdg kk
    · cases hq
  · next i S' =>
    obtain ⟨w, hw, rfl⟩ := push hq
    obtain ⟨z, hz, rfl⟩ := int hw
    obtain ⟨g1, g2⟩ := oKonI_spec hz
    exact lv_ldcw hx hb hown (hts _ g1) hdg (k _ _ rfl ⟨h1, h2, h3, oAll1 (P := oOkV) (v := .inl z) g2 h4⟩)
  · next i S' =>
    obtain ⟨w, hw, rfl⟩ := push hq
    obtain ⟨z, hz, rfl⟩ := long hw
    obtain ⟨g1, g2⟩ := oKonL_spec hz
    exact lv_ldc2 hx hb hown (hts _ g1) hdg (k _ _ rfl ⟨h1, h2, h3, oAll1 (P := oOkV) (v := .inr (.inl z)) g2 h4⟩)
  · cases hq
end OSC
