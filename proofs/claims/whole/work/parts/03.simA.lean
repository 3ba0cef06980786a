/-! WHAT THE SMALL MACHINE'S STEPS SAY OF THE MACHINE, one: values, locals, numbers, jumps. -/
/-- a value of the small machine as the machine has it: objects stand from cell B on, the script at b -/
def oCv (B b : Nat) (v : oV) : Value := match v with
  | .inl x => .int (Int32.ofInt x)
  | .inr (.inl x) => .long (Int64.ofInt x)
  | .inr (.inr (.inl a)) => .ref (B + a)
  | .inr (.inr (.inr 1)) => .ref b
  | .inr (.inr (.inr _)) => .null
def oOkV (v : oV) : Prop := match v with
  | .inl x => oI32 x
  | .inr (.inl x) => oI64 x
  | _ => True
/-- the locals that are known -/
def oLc (B b : Nat) : Nat → List oV → List (Nat × Value)
  | _, [] => []
  | i, v :: r => if oTag v = 3 then oLc B b (i + 1) r else (i, oCv B b v) :: oLc B b (i + 1) r
theorem oLc_mem {B b : Nat} {L : List oV} : ∀ {i : Nat} {q : Nat × Value}, q ∈ oLc B b i L ↔ ∃ (j : Nat) (v : oV), L[j]? = some v ∧ oTag v ≠ 3 ∧ q = (i + j, oCv B b v) := by
  induction L with
  | nil => intro i q; simp [oLc]
  | cons w r ih =>
    intro i q
    have hsplit : (∃ (j : Nat) (v : oV), (w :: r)[j]? = some v ∧ oTag v ≠ 3 ∧ q = (i + j, oCv B b v)) ↔ (oTag w ≠ 3 ∧ q = (i, oCv B b w)) ∨ ∃ (j : Nat) (v : oV), r[j]? = some v ∧ oTag v ≠ 3 ∧ q = (i + 1 + j, oCv B b v) := by
      constructor
      · rintro ⟨j, v, h1, h2, h3⟩
        cases j with
        | zero =>
          simp at h1
          subst h1
          exact Or.inl ⟨h2, by simpa using h3⟩
        | succ j =>
          refine Or.inr ⟨j, v, by simpa using h1, h2, ?_⟩
          rw [h3]
          congr 1
          omega
      · rintro (⟨h1, h2⟩ | ⟨j, v, h1, h2, h3⟩)
        · exact ⟨0, w, by simp, h1, by simpa using h2⟩
        · refine ⟨j + 1, v, by simpa using h1, h2, ?_⟩
          rw [h3]
          congr 1
          omega
    rw [hsplit]
    by_cases hw : oTag w = 3
    · simp only [oLc, if_pos hw, ih]
      simp [hw]
    · simp only [oLc, if_neg hw, List.mem_cons, ih]
      simp [hw]
theorem oCat_cv (B b : Nat) (v : oV) : (oCv B b v).category = oCat v := by
  rcases v with x | x | a | k
  · rfl
  · rfl
  · rfl
  · match k with
    | 0 => rfl
    | 1 => rfl
    | k + 2 => rfl
theorem oCats_cv (B b : Nat) (S : List oV) : ((S.map (oCv B b)).map fun v => v.category).sum = (S.map oCat).sum := by
  rw [List.map_map]
  congr 1
  apply List.map_congr_left
  intro v _
  exact oCat_cv B b v
theorem oI32_ofInt {z : Int} (h : oI32 z) : (Int32.ofInt z).toInt = z := Int32.toInt_ofInt_of_le h.1 h.2
theorem oI64_ofInt {z : Int} (h : oI64 z) : (Int64.ofInt z).toInt = z := Int64.toInt_ofInt_of_le h.1 h.2
theorem oI32_toInt (w : Int32) : oI32 w.toInt := ⟨w.le_toInt, w.toInt_lt⟩
theorem oI64_toInt (w : Int64) : oI64 w.toInt := ⟨w.le_toInt, w.toInt_lt⟩
theorem oI32_inj {x y : Int} (hx : oI32 x) (hy : oI32 y) : Int32.ofInt x = Int32.ofInt y ↔ x = y := by
  constructor
  · intro h
    rw [← oI32_ofInt hx, ← oI32_ofInt hy, h]
  · intro h
    rw [h]
theorem oI32_lt {x y : Int} (hx : oI32 x) (hy : oI32 y) : Int32.ofInt x < Int32.ofInt y ↔ x < y := by
  rw [Int32.lt_iff_toInt_lt, oI32_ofInt hx, oI32_ofInt hy]
theorem oI32_le {x y : Int} (hx : oI32 x) (hy : oI32 y) : Int32.ofInt x ≤ Int32.ofInt y ↔ x ≤ y := by
  rw [Int32.le_iff_toInt_le, oI32_ofInt hx, oI32_ofInt hy]
theorem oI32_0 : oI32 0 := ⟨by decide, by decide⟩
theorem oI32_lt0 {x : Int} (hx : oI32 x) : Int32.ofInt x < 0 ↔ x < 0 := oI32_lt hx oI32_0
theorem oI32_small {z : Int} (h1 : -32768 ≤ z) (h2 : z < 32768) : oI32 z := ⟨by omega, by omega⟩
theorem oI32_clamp {x : Int} (hx : oI32 x) : (Int32.ofInt x).toNatClampNeg = x.toNat := by
  have h := oI32_ofInt hx
  show (Int32.ofInt x).toInt.toNat = _
  rw [h]
theorem oIn {x : Int} {n : Nat} (hx : oI32 x) (h0 : 0 ≤ x) (hn : x < n) : vp_in (Int32.ofInt x) n := by
  rw [vp_in_iff, oI32_ofInt hx]
  exact ⟨h0, hn⟩
theorem oGetMap {B b : Nat} {L : List oV} {nL : Nat} {ls : Array Slot} (h : lv_has ls nL (oLc B b 0 L)) {i : Nat} {v : oV} (hv : L[i]? = some v) (ht : oTag v ≠ 3) : ls[i]? = some (.val (oCv B b v)) :=
  h.2.2 (i, oCv B b v) (oLc_mem.mpr ⟨i, v, hv, ht, by simp⟩)
theorem oLd_spec {L : List oV} {i t : Nat} {v : oV} (h : oLd L i t = some v) : L[i]? = some v ∧ oTag v = t := by
  unfold oLd at h
  split at h
  · next w hw =>
    split at h
    · next ht =>
      cases h
      exact ⟨hw, ht⟩
    · cases h
  · cases h
theorem oTag0 {v : oV} (h : oTag v = 0) : ∃ x, v = .inl x := by
  rcases v with x | x | a | k
  · exact ⟨x, rfl⟩
  · simp [oTag] at h
  · simp [oTag] at h
  · match k with
    | 0 => simp [oTag] at h
    | 1 => simp [oTag] at h
    | k + 2 => simp [oTag] at h
theorem oTag1 {v : oV} (h : oTag v = 1) : ∃ x, v = .inr (.inl x) := by
  rcases v with x | x | a | k
  · simp [oTag] at h
  · exact ⟨x, rfl⟩
  · simp [oTag] at h
  · match k with
    | 0 => simp [oTag] at h
    | 1 => simp [oTag] at h
    | k + 2 => simp [oTag] at h
theorem oTag2 {B b : Nat} {v : oV} (h : oTag v = 2) : ((∃ a, oCv B b v = .ref a) ∨ oCv B b v = .null) ∧ oOkV v ∧ oCat v = 1 := by
  rcases v with x | x | a | k
  · simp [oTag] at h
  · simp [oTag] at h
  · exact ⟨Or.inl ⟨_, rfl⟩, trivial, rfl⟩
  · match k with
    | 0 => exact ⟨Or.inr rfl, trivial, rfl⟩
    | 1 => exact ⟨Or.inl ⟨_, rfl⟩, trivial, rfl⟩
    | k + 2 => simp [oTag] at h
theorem oStL_spec {B b : Nat} {L L' : List oV} {i : Nat} {v : oV} (hs : oStL L i v = some L') : i < L.length ∧ L' = L.set i v ∧ ∀ q ∈ oLc B b 0 L', q ∈ (i, oCv B b v) :: (oLc B b 0 L).filter (fun q => !(q.1 == i) && !(q.1 + 1 == i && q.2.category == 2)) := by
  unfold oStL at hs
  split at hs
  · next hc =>
    obtain ⟨h1, h2, h3⟩ := hc
    cases hs
    refine ⟨h1, rfl, fun q hq => ?_⟩
    obtain ⟨j, w, hj, ht, rfl⟩ := oLc_mem.mp hq
    rw [Nat.zero_add]
    by_cases e : j = i
    · subst e
      rw [List.getElem?_set_self h1] at hj
      cases hj
      exact List.mem_cons_self
    · rw [List.getElem?_set_ne (fun z => e z.symm)] at hj
      refine List.mem_cons_of_mem _ (List.mem_filter.mpr ⟨oLc_mem.mpr ⟨j, w, hj, ht, by simp⟩, ?_⟩)
      have e2 : ¬ (j + 1 = i ∧ (oCv B b w).category = 2) := by
        rintro ⟨z1, z2⟩
        apply h2
        rw [oCat_cv] at z2
        rw [show i - 1 = j by omega, List.getElem?_map, hj]
        simp [z2]
      simp only [Bool.and_eq_true, Bool.not_eq_true', beq_eq_false_iff_ne, ne_eq, Bool.and_eq_false_iff]
      refine ⟨e, ?_⟩
      by_cases z1 : j + 1 = i
      · exact Or.inr (fun z2 => e2 ⟨z1, z2⟩)
      · exact Or.inl z1
  · cases hs
theorem oHas_sub {ls : Array Slot} {nL : Nat} {l l' : List (Nat × Value)} (h : lv_has ls nL l) (hs : ∀ q ∈ l', q ∈ l) : lv_has ls nL l' := ⟨h.1, h.2.1, fun q hq => h.2.2 q (hs q hq)⟩
theorem oAll1 {P : oV → Prop} {v : oV} {S : List oV} (h1 : P v) (h2 : ∀ w ∈ S, P w) : ∀ w ∈ v :: S, P w := by
  intro w hw
  rcases List.mem_cons.mp hw with rfl | hw
  · exact h1
  · exact h2 w hw
theorem oAllT {P : oV → Prop} {v : oV} {S : List oV} (h : ∀ w ∈ v :: S, P w) : P v ∧ ∀ w ∈ S, P w := ⟨h v List.mem_cons_self, fun w hw => h w (List.mem_cons_of_mem _ hw)⟩
theorem oAllSet {P : oV → Prop} {v : oV} {L : List oV} {i : Nat} (h1 : P v) (h2 : ∀ w ∈ L, P w) : ∀ w ∈ L.set i v, P w := by
  intro w hw
  rcases List.mem_or_eq_of_mem_set hw with h | h
  · exact h2 w h
  · rw [h]; exact h1
theorem oJmp_spec {pc t : Nat} {off : Int} (h : oJmp pc off = some t) : (pc : Int) + off = (t : Int) := by
  unfold oJmp at h
  split at h
  · next hc =>
    cases h
    omega
  · cases h
/-- the state of a walk: locals and stack as the small machine has them -/
def oSt (B b : Nat) (nL : Nat) (ls : Array Slot) (L S : List oV) : Prop := lv_has ls nL (oLc B b 0 L) ∧ L.length = nL ∧ (∀ v ∈ L, oOkV v) ∧ ∀ v ∈ S, oOkV v
theorem oCvI {B b : Nat} {z : Int} {w : Int32} (h : z = w.toInt) : oCv B b (.inl z) = .int w := by
  subst h
  show Value.int (Int32.ofInt w.toInt) = _
  rw [Int32.ofInt_toInt]
theorem oCvAdd (B b : Nat) (x y : Int) : oCv B b (.inl (oAdd x y)) = .int (Int32.ofInt x + Int32.ofInt y) := oCvI rfl
theorem oCvSub (B b : Nat) (x y : Int) : oCv B b (.inl (oSub x y)) = .int (Int32.ofInt x - Int32.ofInt y) := oCvI rfl
theorem oCvMul (B b : Nat) (x y : Int) : oCv B b (.inl (oMul x y)) = .int (Int32.ofInt x * Int32.ofInt y) := oCvI rfl
theorem oCvDiv (B b : Nat) (x y : Int) : oCv B b (.inl (oDiv x y)) = .int (Int32.ofInt x / Int32.ofInt y) := oCvI rfl
theorem oCvRem (B b : Nat) (x y : Int) : oCv B b (.inl (oRem x y)) = .int (Int32.ofInt x - Int32.ofInt x / Int32.ofInt y * Int32.ofInt y) := oCvI rfl
theorem oCvAnd (B b : Nat) (x y : Int) : oCv B b (.inl (oAnd x y)) = .int (Int32.ofInt x &&& Int32.ofInt y) := oCvI rfl
theorem oCvOr (B b : Nat) (x y : Int) : oCv B b (.inl (oOr x y)) = .int (Int32.ofInt x ||| Int32.ofInt y) := oCvI rfl
theorem oCvXor (B b : Nat) (x y : Int) : oCv B b (.inl (oXor x y)) = .int (Int32.ofInt x ^^^ Int32.ofInt y) := oCvI rfl
theorem oCvShl (B b : Nat) (x y : Int) : oCv B b (.inl (oShl x y)) = .int (Int32.ofInt x <<< (Int32.ofInt y &&& 31)) := oCvI rfl
theorem oCvShr (B b : Nat) (x y : Int) : oCv B b (.inl (oShr x y)) = .int (Int32.ofInt x >>> (Int32.ofInt y &&& 31)) := oCvI rfl
theorem oCvUshr (B b : Nat) (x y : Int) : oCv B b (.inl (oUshr x y)) = .int (((Int32.ofInt x).toUInt32 >>> ((Int32.ofInt y).toUInt32 &&& Int32.toUInt32 31)).toInt32) := oCvI rfl
theorem oCvNeg (B b : Nat) (x : Int) : oCv B b (.inl (oNeg x)) = .int (-Int32.ofInt x) := oCvI rfl
section OSA
variable {p : Program} {l : Launch} {e : Env} {R : Room} {s : State} {m : MethodId} {args : Array Value} {below : List Frame} {meth : Method} {c : Code} {H : Heap} {locs : List Loc} {cells slots : Nat} {Q : State → Prop}
variable {cc : ByteArray} {pc nL B b : Nat} {ls : Array Slot} {L S : List oV}
theorem oSim1 (hx : p.tables.exec = Jvm.exec) (hb : c.code = cc) (hst : oSt B b nL ls L S) {q : Instr × Nat} (hdg : decode cc pc = .ok q) {r : oP} (hq : oG1 q pc L S = some r)
    (k : ∀ ls' : Array Slot, oSt B b nL ls' r.2.1 r.2.2 → W p l e R s m args below meth c H locs cells slots Q (F0 m r.1 ls' (r.2.2.map (oCv B b)))) : W p l e R s m args below meth c H locs cells slots Q (F0 m pc ls (S.map (oCv B b))) := by
  obtain ⟨h1, h2, h3, h4⟩ := hst
  have push : ∀ {n : Nat} {v : Option oV}, oPush n pc L S v = some r → ∃ w, v = some w ∧ r = (pc + n, L, w :: S) := by
    intro n v h
    unfold oPush at h
    split at h
    · next w => cases h; exact ⟨w, rfl, rfl⟩
    · cases h
  unfold oG1 at hq
  split at hq
  · next n =>
    split at hq
    · next hc =>
      cases hq
      exact lv_iconst hx hb hdg rfl (k ls ⟨h1, h2, h3, oAll1 (P := oOkV) (v := .inl n) hc h4⟩)
    · cases hq
  · next n =>
    split at hq
    · next hc =>
      cases hq
      refine lv_bipush hx hb hdg ?_ (k ls ⟨h1, h2, h3, oAll1 (P := oOkV) (v := .inl n) (oI32_small (by omega) (by omega)) h4⟩)
      rw [← Int32.toInt_inj, Int8.toInt_toInt32, Int8.toInt_ofInt_of_le hc.1 hc.2, oI32_ofInt (oI32_small (by omega) (by omega))]
    · cases hq
  · next n =>
    split at hq
    · next hc =>
      cases hq
      refine lv_sipush hx hb hdg ?_ (k ls ⟨h1, h2, h3, oAll1 (P := oOkV) (v := .inl n) (oI32_small hc.1 hc.2) h4⟩)
      rw [← Int32.toInt_inj, Int16.toInt_toInt32, Int16.toInt_ofInt_of_le hc.1 hc.2, oI32_ofInt (oI32_small hc.1 hc.2)]
    · cases hq
  · next n =>
    cases hq
    refine lv_lconst hx hb hdg ?_ (k ls ⟨h1, h2, h3, oAll1 (P := oOkV) (v := .inr (.inl _)) ?_ h4⟩)
    · match n with
      | 0 => rfl
      | 1 => rfl
    · match n with
      | 0 => exact ⟨by decide, by decide⟩
      | 1 => exact ⟨by decide, by decide⟩
  · obtain ⟨w, hw, rfl⟩ := push hq
    obtain ⟨g1, g2⟩ := oLd_spec hw
    obtain ⟨x, rfl⟩ := oTag0 g2
    exact lv_iload_n hx hb hdg rfl (oGetMap h1 g1 (by simp [oTag])) (k ls ⟨h1, h2, h3, oAll1 (P := oOkV) (v := .inl x) (h3 _ (List.mem_of_getElem? g1)) h4⟩)
  · obtain ⟨w, hw, rfl⟩ := push hq
    obtain ⟨g1, g2⟩ := oLd_spec hw
    obtain ⟨x, rfl⟩ := oTag0 g2
    exact lv_iload hx hb hdg (oGetMap h1 g1 (by simp [oTag])) (k ls ⟨h1, h2, h3, oAll1 (P := oOkV) (v := .inl x) (h3 _ (List.mem_of_getElem? g1)) h4⟩)
  · obtain ⟨w, hw, rfl⟩ := push hq
    obtain ⟨g1, g2⟩ := oLd_spec hw
    obtain ⟨x, rfl⟩ := oTag1 g2
    exact lv_lload_n hx hb hdg rfl (oGetMap h1 g1 (by simp [oTag])) (k ls ⟨h1, h2, h3, oAll1 (P := oOkV) (v := .inr (.inl x)) (h3 _ (List.mem_of_getElem? g1)) h4⟩)
  · obtain ⟨w, hw, rfl⟩ := push hq
    obtain ⟨g1, g2⟩ := oLd_spec hw
    obtain ⟨x, rfl⟩ := oTag1 g2
    exact lv_lload hx hb hdg (oGetMap h1 g1 (by simp [oTag])) (k ls ⟨h1, h2, h3, oAll1 (P := oOkV) (v := .inr (.inl x)) (h3 _ (List.mem_of_getElem? g1)) h4⟩)
  · obtain ⟨w, hw, rfl⟩ := push hq
    obtain ⟨g1, g2⟩ := oLd_spec hw
    obtain ⟨g3, g4, g5⟩ := oTag2 (B := B) (b := b) g2
    have kk := k ls ⟨h1, h2, h3, oAll1 (P := oOkV) (v := w) g4 h4⟩
    have g6 := oGetMap h1 g1 (by rw [g2]; decide)
    rw [List.map_cons] at kk
    rcases g3 with ⟨a, g3⟩ | g3
    · rw [g3] at kk g6
      exact lv_aload_n hx hb hdg rfl g6 kk
    · rw [g3] at kk g6
      exact lv_aload_nN hx hb hdg rfl g6 kk
  · obtain ⟨w, hw, rfl⟩ := push hq
    obtain ⟨g1, g2⟩ := oLd_spec hw
    obtain ⟨g3, g4, g5⟩ := oTag2 (B := B) (b := b) g2
    have kk := k ls ⟨h1, h2, h3, oAll1 (P := oOkV) (v := w) g4 h4⟩
    have g6 := oGetMap h1 g1 (by rw [g2]; decide)
    rw [List.map_cons] at kk
    rcases g3 with ⟨a, g3⟩ | g3
    · rw [g3] at kk g6
      exact lv_aload hx hb hdg g6 kk
    · rw [g3] at kk g6
      exact lv_aloadN hx hb hdg g6 kk
  · cases hq
theorem oSim2 (hx : p.tables.exec = Jvm.exec) (hb : c.code = cc) (hst : oSt B b nL ls L S) {q : Instr × Nat} (hdg : decode cc pc = .ok q) {r : oP} (hq : oG2 q pc L S = some r)
    (k : ∀ ls' : Array Slot, oSt B b nL ls' r.2.1 r.2.2 → W p l e R s m args below meth c H locs cells slots Q (F0 m r.1 ls' (r.2.2.map (oCv B b)))) : W p l e R s m args below meth c H locs cells slots Q (F0 m pc ls (S.map (oCv B b))) := by
  obtain ⟨h1, h2, h3, h4⟩ := hst
  have store : ∀ {n i : Nat} {v : oV} {S' : List oV}, oStore n pc L S' i v = some r → ∃ L', oStL L i v = some L' ∧ r = (pc + n, L', S') := by
    intro n i v S' h
    unfold oStore at h
    split at h
    · next L' hL => cases h; exact ⟨L', hL, rfl⟩
    · cases h
  unfold oG2 at hq
  split at hq
  · obtain ⟨L', g1, rfl⟩ := store hq
    obtain ⟨g2, g3, g4⟩ := oStL_spec (B := B) (b := b) g1
    obtain ⟨o1, o2⟩ := oAllT h4
    refine lv_istore_n hx hb hdg rfl h1 (by omega) rfl (fun ls' hl => k ls' ⟨oHas_sub hl g4, ?_, ?_, o2⟩)
    · rw [g3, List.length_set]; exact h2
    · rw [g3]; exact oAllSet o1 h3
  · obtain ⟨L', g1, rfl⟩ := store hq
    obtain ⟨g2, g3, g4⟩ := oStL_spec (B := B) (b := b) g1
    obtain ⟨o1, o2⟩ := oAllT h4
    refine lv_istore hx hb hdg h1 (by omega) rfl (fun ls' hl => k ls' ⟨oHas_sub hl g4, ?_, ?_, o2⟩)
    · rw [g3, List.length_set]; exact h2
    · rw [g3]; exact oAllSet o1 h3
  · split at hq
    · next ht =>
      obtain ⟨L', g1, rfl⟩ := store hq
      obtain ⟨g2, g3, g4⟩ := oStL_spec (B := B) (b := b) g1
      obtain ⟨o1, o2⟩ := oAllT h4
      have kk : ∀ ls' : Array Slot, lv_has ls' nL _ → _ := fun ls' hl => k ls' ⟨oHas_sub hl g4, by rw [g3, List.length_set]; exact h2, by rw [g3]; exact oAllSet o1 h3, o2⟩
      rw [List.map_cons]
      rcases (oTag2 (B := B) (b := b) ht).1 with ⟨a, g5⟩ | g5
      · rw [g5] at kk ⊢
        exact lv_astore_n hx hb hdg rfl h1 (by omega) rfl kk
      · rw [g5] at kk ⊢
        exact lv_astore_nN hx hb hdg rfl h1 (by omega) rfl kk
    · cases hq
  · split at hq
    · next ht =>
      obtain ⟨L', g1, rfl⟩ := store hq
      obtain ⟨g2, g3, g4⟩ := oStL_spec (B := B) (b := b) g1
      obtain ⟨o1, o2⟩ := oAllT h4
      have kk : ∀ ls' : Array Slot, lv_has ls' nL _ → _ := fun ls' hl => k ls' ⟨oHas_sub hl g4, by rw [g3, List.length_set]; exact h2, by rw [g3]; exact oAllSet o1 h3, o2⟩
      rw [List.map_cons]
      rcases (oTag2 (B := B) (b := b) ht).1 with ⟨a, g5⟩ | g5
      · rw [g5] at kk ⊢
        exact lv_astore hx hb hdg h1 (by omega) rfl kk
      · rw [g5] at kk ⊢
        exact lv_astoreN hx hb hdg h1 (by omega) rfl kk
    · cases hq
  · split at hq
    · next x hxl =>
      obtain ⟨L', g1, rfl⟩ := store hq
      obtain ⟨g2, g3, g4⟩ := oStL_spec (B := B) (b := b) g1
      obtain ⟨kx, hkx⟩ := List.getElem?_of_mem (oLc_mem.mpr ⟨_, .inl x, hxl, by simp [oTag], rfl⟩ : _ ∈ oLc B b 0 L)
      rw [Nat.zero_add] at hkx
      refine lv_iinc hx hb hdg h1 hkx (v := Int32.ofInt (oAdd x _)) ?_ (by omega) rfl (fun ls' hl => k ls' ⟨oHas_sub hl g4, ?_, ?_, h4⟩)
      · unfold oAdd; rw [Int32.ofInt_toInt]
      · rw [g3, List.length_set]; exact h2
      · rw [g3]; exact oAllSet (oI32_toInt _) h3
    · cases hq
  · split at hq
    · next hc =>
      cases hq
      obtain ⟨o1, o2⟩ := oAllT h4
      refine lv_dup hx hb hdg ?_ (k ls ⟨h1, h2, h3, oAll1 (P := oOkV) o1 h4⟩)
      rw [oCat_cv]; exact hc.1
    · cases hq
  · split at hq
    · next hc =>
      cases hq
      obtain ⟨o1, o2⟩ := oAllT h4
      refine lv_pop hx hb hdg ?_ (k ls ⟨h1, h2, h3, o2⟩)
      rw [oCat_cv]; exact hc
    · cases hq
  · split at hq
    · next hc =>
      cases hq
      obtain ⟨o1, o2⟩ := oAllT h4
      obtain ⟨o3, o4⟩ := oAllT o2
      refine lv_dup2_11 hx hb hdg ?_ ?_ (k ls ⟨h1, h2, h3, oAll1 (P := oOkV) o1 (oAll1 (P := oOkV) o3 h4)⟩)
      · rw [oCat_cv]; exact hc.1
      · rw [oCat_cv]; exact hc.2
    · cases hq
  · cases hq
theorem oSim3 (hx : p.tables.exec = Jvm.exec) (hb : c.code = cc) (hst : oSt B b nL ls L S) {q : Instr × Nat} (hdg : decode cc pc = .ok q) {r : oP} (hq : oG3 q pc L S = some r)
    (k : ∀ ls' : Array Slot, oSt B b nL ls' r.2.1 r.2.2 → W p l e R s m args below meth c H locs cells slots Q (F0 m r.1 ls' (r.2.2.map (oCv B b)))) : W p l e R s m args below meth c H locs cells slots Q (F0 m pc ls (S.map (oCv B b))) := by
  obtain ⟨h1, h2, h3, h4⟩ := hst
  have two : ∀ {x y : oV} {S' : List oV} {w : Int32}, (∀ v ∈ y :: x :: S', oOkV v) → (∀ v ∈ (.inl w.toInt :: S' : List oV), oOkV v) := by
    intro x y S' w h
    exact oAll1 (P := oOkV) (v := .inl w.toInt) (oI32_toInt w) (oAllT (oAllT h).2).2
  have ne0 : ∀ {y : Int}, oI32 y → ¬ y = 0 → ¬ Int32.ofInt y = 0 := fun hy h z => h ((oI32_inj hy oI32_0).mp z)
  unfold oG3 at hq
  split at hq
  · cases hq; have kk := k ls ⟨h1, h2, h3, two h4⟩; rw [List.map_cons, oCvAdd] at kk; exact lv_iadd hx hb hdg kk
  · cases hq; have kk := k ls ⟨h1, h2, h3, two h4⟩; rw [List.map_cons, oCvSub] at kk; exact lv_isub hx hb hdg kk
  · cases hq; have kk := k ls ⟨h1, h2, h3, two h4⟩; rw [List.map_cons, oCvMul] at kk; exact lv_imul hx hb hdg kk
  · split at hq
    · cases hq
    · next hy => cases hq; have kk := k ls ⟨h1, h2, h3, two h4⟩; rw [List.map_cons, oCvDiv] at kk; exact lv_idiv hx hb hdg (ne0 (oAllT h4).1 hy) kk
  · split at hq
    · cases hq
    · next hy => cases hq; have kk := k ls ⟨h1, h2, h3, two h4⟩; rw [List.map_cons, oCvRem] at kk; exact lv_irem hx hb hdg (ne0 (oAllT h4).1 hy) kk
  · cases hq; have kk := k ls ⟨h1, h2, h3, oAll1 (P := oOkV) (v := .inl _) (oI32_toInt _) (oAllT h4).2⟩; rw [List.map_cons, oCvNeg] at kk; exact lv_ineg hx hb hdg kk
  · cases hq; have kk := k ls ⟨h1, h2, h3, two h4⟩; rw [List.map_cons, oCvAnd] at kk; exact lv_iand hx hb hdg kk
  · cases hq; have kk := k ls ⟨h1, h2, h3, two h4⟩; rw [List.map_cons, oCvOr] at kk; exact lv_ior hx hb hdg kk
  · cases hq; have kk := k ls ⟨h1, h2, h3, two h4⟩; rw [List.map_cons, oCvXor] at kk; exact lv_ixor hx hb hdg kk
  · cases hq; have kk := k ls ⟨h1, h2, h3, two h4⟩; rw [List.map_cons, oCvShl] at kk; exact lv_ishl hx hb hdg kk
  · cases hq; have kk := k ls ⟨h1, h2, h3, two h4⟩; rw [List.map_cons, oCvShr] at kk; exact lv_ishr hx hb hdg kk
  · cases hq; have kk := k ls ⟨h1, h2, h3, two h4⟩; rw [List.map_cons, oCvUshr] at kk; exact lv_iushr hx hb hdg rfl kk
  · cases hq
end OSA
