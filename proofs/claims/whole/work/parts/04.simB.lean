/-! two: longs, conversions, jumps -/
theorem oCvL {B b : Nat} {z : Int} {w : Int64} (h : z = w.toInt) : oCv B b (.inr (.inl z)) = .long w := by
  subst h
  show Value.long (Int64.ofInt w.toInt) = _
  rw [Int64.ofInt_toInt]
theorem oCvL2i (B b : Nat) (x : Int) : oCv B b (.inl (oL2i x)) = .int (Int64.ofInt x).toInt32 := oCvI rfl
theorem oCvI2b (B b : Nat) (x : Int) : oCv B b (.inl (oI2b x)) = .int (Int32.ofInt x).toInt8.toInt32 := oCvI rfl
theorem oCvI2s (B b : Nat) (x : Int) : oCv B b (.inl (oI2s x)) = .int (Int32.ofInt x).toInt16.toInt32 := oCvI rfl
theorem oCvLand (B b : Nat) (x y : Int) : oCv B b (.inr (.inl (oLand x y))) = .long (Int64.ofInt x &&& Int64.ofInt y) := oCvL rfl
theorem oCvLor (B b : Nat) (x y : Int) : oCv B b (.inr (.inl (oLor x y))) = .long (Int64.ofInt x ||| Int64.ofInt y) := oCvL rfl
theorem oCvLshl (B b : Nat) (x y : Int) : oCv B b (.inr (.inl (oLshl x y))) = .long (Int64.ofInt x <<< ((Int32.ofInt y).toInt64 &&& 63)) := oCvL rfl
theorem oI64_of32 {z : Int} (h : oI32 z) : oI64 z := ⟨by have := h.1; omega, by have := h.2; omega⟩
theorem oI64_inj {x y : Int} (hx : oI64 x) (hy : oI64 y) : Int64.ofInt x = Int64.ofInt y ↔ x = y := by
  constructor
  · intro h
    rw [← oI64_ofInt hx, ← oI64_ofInt hy, h]
  · intro h
    rw [h]
theorem oI64_lt {x y : Int} (hx : oI64 x) (hy : oI64 y) : Int64.ofInt x < Int64.ofInt y ↔ x < y := by
  rw [Int64.lt_iff_toInt_lt, oI64_ofInt hx, oI64_ofInt hy]
theorem oCvLcmp {B b : Nat} {x y : Int} (hx : oI64 x) (hy : oI64 y) : oCv B b (.inl (oLcmp x y)) = .int (lg_cmp (Int64.ofInt x) (Int64.ofInt y)) := by
  refine oCvI ?_
  unfold oLcmp lg_cmp
  simp only [oI64_lt hy hx, oI64_inj hx hy]
  by_cases h1 : y < x
  · simp [h1]
  · by_cases h2 : x = y
    · simp [h2]
    · simp [h1, h2]
theorem oLcmp_ok (x y : Int) : oI32 (oLcmp x y) := by
  unfold oLcmp
  split
  · exact ⟨by decide, by decide⟩
  · split
    · exact ⟨by decide, by decide⟩
    · exact ⟨by decide, by decide⟩
section OSJ
variable {p : Program} {l : Launch} {e : Env} {R : Room} {s : State} {m : MethodId} {args : Array Value} {below : List Frame} {meth : Method} {c : Code} {H : Heap} {locs : List Loc} {cells slots : Nat} {Q : State → Prop}
variable {cc : ByteArray} {pc : Nat} {ls : Array Slot} {rest : List Value}
theorem lv_if_eqF (hexec : p.tables.exec = Jvm.exec) (hb : c.code = cc) {x : Int32} {off : Int} (hdg : decode cc pc = .ok (.ifCond .eq off, 3)) (hP : ¬ (x = 0)) (kf : W p l e R s m args below meth c H locs cells slots Q (F0 m (pc + 3) ls rest)) : W p l e R s m args below meth c H locs cells slots Q (F0 m pc ls (.int x :: rest)) := by
  intro T hT X
  obtain ⟨t, a, b⟩ := kf T hT X
  refine ⟨t, ?_, b⟩
  jvm_step X.here [X.here.top, hexec, hb, hdg, Op.ifCond.holds, hP]
  exact a
theorem lv_if_neF (hexec : p.tables.exec = Jvm.exec) (hb : c.code = cc) {x : Int32} {off : Int} (hdg : decode cc pc = .ok (.ifCond .ne off, 3)) (hP : x = 0) (kf : W p l e R s m args below meth c H locs cells slots Q (F0 m (pc + 3) ls rest)) : W p l e R s m args below meth c H locs cells slots Q (F0 m pc ls (.int x :: rest)) := by
  intro T hT X
  obtain ⟨t, a, b⟩ := kf T hT X
  refine ⟨t, ?_, b⟩
  jvm_step X.here [X.here.top, hexec, hb, hdg, Op.ifCond.holds, hP]
  exact a
theorem lv_if_ltF (hexec : p.tables.exec = Jvm.exec) (hb : c.code = cc) {x : Int32} {off : Int} (hdg : decode cc pc = .ok (.ifCond .lt off, 3)) (hP : ¬ (x < 0)) (kf : W p l e R s m args below meth c H locs cells slots Q (F0 m (pc + 3) ls rest)) : W p l e R s m args below meth c H locs cells slots Q (F0 m pc ls (.int x :: rest)) := by
  intro T hT X
  obtain ⟨t, a, b⟩ := kf T hT X
  refine ⟨t, ?_, b⟩
  jvm_step X.here [X.here.top, hexec, hb, hdg, Op.ifCond.holds, hP]
  exact a
theorem lv_if_geF (hexec : p.tables.exec = Jvm.exec) (hb : c.code = cc) {x : Int32} {off : Int} (hdg : decode cc pc = .ok (.ifCond .ge off, 3)) (hP : ¬ (0 ≤ x)) (kf : W p l e R s m args below meth c H locs cells slots Q (F0 m (pc + 3) ls rest)) : W p l e R s m args below meth c H locs cells slots Q (F0 m pc ls (.int x :: rest)) := by
  intro T hT X
  obtain ⟨t, a, b⟩ := kf T hT X
  refine ⟨t, ?_, b⟩
  jvm_step X.here [X.here.top, hexec, hb, hdg, Op.ifCond.holds, hP]
  exact a
theorem lv_if_gtF (hexec : p.tables.exec = Jvm.exec) (hb : c.code = cc) {x : Int32} {off : Int} (hdg : decode cc pc = .ok (.ifCond .gt off, 3)) (hP : ¬ (0 < x)) (kf : W p l e R s m args below meth c H locs cells slots Q (F0 m (pc + 3) ls rest)) : W p l e R s m args below meth c H locs cells slots Q (F0 m pc ls (.int x :: rest)) := by
  intro T hT X
  obtain ⟨t, a, b⟩ := kf T hT X
  refine ⟨t, ?_, b⟩
  jvm_step X.here [X.here.top, hexec, hb, hdg, Op.ifCond.holds, hP]
  exact a
theorem lv_if_leF (hexec : p.tables.exec = Jvm.exec) (hb : c.code = cc) {x : Int32} {off : Int} (hdg : decode cc pc = .ok (.ifCond .le off, 3)) (hP : ¬ (x ≤ 0)) (kf : W p l e R s m args below meth c H locs cells slots Q (F0 m (pc + 3) ls rest)) : W p l e R s m args below meth c H locs cells slots Q (F0 m pc ls (.int x :: rest)) := by
  intro T hT X
  obtain ⟨t, a, b⟩ := kf T hT X
  refine ⟨t, ?_, b⟩
  jvm_step X.here [X.here.top, hexec, hb, hdg, Op.ifCond.holds, hP]
  exact a
theorem lv_icmp_eqF (hexec : p.tables.exec = Jvm.exec) (hb : c.code = cc) {x y : Int32} {off : Int} (hdg : decode cc pc = .ok (.if_icmp .eq off, 3)) (hP : ¬ (x = y)) (kf : W p l e R s m args below meth c H locs cells slots Q (F0 m (pc + 3) ls rest)) : W p l e R s m args below meth c H locs cells slots Q (F0 m pc ls (.int y :: .int x :: rest)) := by
  intro T hT X
  obtain ⟨t, a, b⟩ := kf T hT X
  refine ⟨t, ?_, b⟩
  jvm_step X.here [X.here.top, hexec, hb, hdg, Op.if_icmp.holds, hP]
  exact a
theorem lv_icmp_neF (hexec : p.tables.exec = Jvm.exec) (hb : c.code = cc) {x y : Int32} {off : Int} (hdg : decode cc pc = .ok (.if_icmp .ne off, 3)) (hP : x = y) (kf : W p l e R s m args below meth c H locs cells slots Q (F0 m (pc + 3) ls rest)) : W p l e R s m args below meth c H locs cells slots Q (F0 m pc ls (.int y :: .int x :: rest)) := by
  intro T hT X
  obtain ⟨t, a, b⟩ := kf T hT X
  refine ⟨t, ?_, b⟩
  jvm_step X.here [X.here.top, hexec, hb, hdg, Op.if_icmp.holds, hP]
  exact a
theorem lv_icmp_ltF (hexec : p.tables.exec = Jvm.exec) (hb : c.code = cc) {x y : Int32} {off : Int} (hdg : decode cc pc = .ok (.if_icmp .lt off, 3)) (hP : ¬ (x < y)) (kf : W p l e R s m args below meth c H locs cells slots Q (F0 m (pc + 3) ls rest)) : W p l e R s m args below meth c H locs cells slots Q (F0 m pc ls (.int y :: .int x :: rest)) := by
  intro T hT X
  obtain ⟨t, a, b⟩ := kf T hT X
  refine ⟨t, ?_, b⟩
  jvm_step X.here [X.here.top, hexec, hb, hdg, Op.if_icmp.holds, hP]
  exact a
theorem lv_icmp_geF (hexec : p.tables.exec = Jvm.exec) (hb : c.code = cc) {x y : Int32} {off : Int} (hdg : decode cc pc = .ok (.if_icmp .ge off, 3)) (hP : ¬ (y ≤ x)) (kf : W p l e R s m args below meth c H locs cells slots Q (F0 m (pc + 3) ls rest)) : W p l e R s m args below meth c H locs cells slots Q (F0 m pc ls (.int y :: .int x :: rest)) := by
  intro T hT X
  obtain ⟨t, a, b⟩ := kf T hT X
  refine ⟨t, ?_, b⟩
  jvm_step X.here [X.here.top, hexec, hb, hdg, Op.if_icmp.holds, hP]
  exact a
theorem lv_icmp_gtF (hexec : p.tables.exec = Jvm.exec) (hb : c.code = cc) {x y : Int32} {off : Int} (hdg : decode cc pc = .ok (.if_icmp .gt off, 3)) (hP : ¬ (y < x)) (kf : W p l e R s m args below meth c H locs cells slots Q (F0 m (pc + 3) ls rest)) : W p l e R s m args below meth c H locs cells slots Q (F0 m pc ls (.int y :: .int x :: rest)) := by
  intro T hT X
  obtain ⟨t, a, b⟩ := kf T hT X
  refine ⟨t, ?_, b⟩
  jvm_step X.here [X.here.top, hexec, hb, hdg, Op.if_icmp.holds, hP]
  exact a
theorem lv_icmp_leF (hexec : p.tables.exec = Jvm.exec) (hb : c.code = cc) {x y : Int32} {off : Int} (hdg : decode cc pc = .ok (.if_icmp .le off, 3)) (hP : ¬ (x ≤ y)) (kf : W p l e R s m args below meth c H locs cells slots Q (F0 m (pc + 3) ls rest)) : W p l e R s m args below meth c H locs cells slots Q (F0 m pc ls (.int y :: .int x :: rest)) := by
  intro T hT X
  obtain ⟨t, a, b⟩ := kf T hT X
  refine ⟨t, ?_, b⟩
  jvm_step X.here [X.here.top, hexec, hb, hdg, Op.if_icmp.holds, hP]
  exact a
end OSJ
section OSB
variable {p : Program} {l : Launch} {e : Env} {R : Room} {s : State} {m : MethodId} {args : Array Value} {below : List Frame} {meth : Method} {c : Code} {H : Heap} {locs : List Loc} {cells slots : Nat} {Q : State → Prop}
variable {cc : ByteArray} {pc nL B b : Nat} {ls : Array Slot} {L S : List oV}
theorem oSim4 (hx : p.tables.exec = Jvm.exec) (hb : c.code = cc) (hst : oSt B b nL ls L S) {q : Instr × Nat} (hdg : decode cc pc = .ok q) {r : oP} (hq : oG4 q pc L S = some r)
    (k : ∀ ls' : Array Slot, oSt B b nL ls' r.2.1 r.2.2 → W p l e R s m args below meth c H locs cells slots Q (F0 m r.1 ls' (r.2.2.map (oCv B b)))) : W p l e R s m args below meth c H locs cells slots Q (F0 m pc ls (S.map (oCv B b))) := by
  obtain ⟨h1, h2, h3, h4⟩ := hst
  unfold oG4 at hq
  split at hq
  · next x S' =>
    cases hq
    obtain ⟨o1, o2⟩ := oAllT h4
    refine lv_i2l hx hb hdg ?_ (k ls ⟨h1, h2, h3, oAll1 (P := oOkV) (v := .inr (.inl x)) (oI64_of32 o1) o2⟩)
    rw [← Int64.toInt_inj, Int32.toInt_toInt64, oI32_ofInt o1, oI64_ofInt (oI64_of32 o1)]
  · cases hq; have kk := k ls ⟨h1, h2, h3, oAll1 (P := oOkV) (v := .inl _) (oI32_toInt _) (oAllT h4).2⟩; rw [List.map_cons, oCvL2i] at kk; exact lv_l2i hx hb hdg rfl kk
  · cases hq; have kk := k ls ⟨h1, h2, h3, oAll1 (P := oOkV) (v := .inl _) (oI32_toInt _) (oAllT h4).2⟩; rw [List.map_cons, oCvI2b] at kk; exact lv_i2b hx hb hdg rfl kk
  · cases hq; have kk := k ls ⟨h1, h2, h3, oAll1 (P := oOkV) (v := .inl _) (oI32_toInt _) (oAllT h4).2⟩; rw [List.map_cons, oCvI2s] at kk; exact lv_i2s hx hb hdg rfl kk
  · cases hq; have kk := k ls ⟨h1, h2, h3, oAll1 (P := oOkV) (v := .inr (.inl _)) (oI64_toInt _) (oAllT (oAllT h4).2).2⟩; rw [List.map_cons, oCvLand] at kk; exact lv_land hx hb hdg kk
  · cases hq; have kk := k ls ⟨h1, h2, h3, oAll1 (P := oOkV) (v := .inr (.inl _)) (oI64_toInt _) (oAllT (oAllT h4).2).2⟩; rw [List.map_cons, oCvLor] at kk; exact lv_lor hx hb hdg kk
  · cases hq; have kk := k ls ⟨h1, h2, h3, oAll1 (P := oOkV) (v := .inr (.inl _)) (oI64_toInt _) (oAllT (oAllT h4).2).2⟩; rw [List.map_cons, oCvLshl] at kk; exact lv_lshl hx hb hdg rfl kk
  · cases hq
    obtain ⟨o1, o2⟩ := oAllT h4
    obtain ⟨o3, o4⟩ := oAllT o2
    have kk := k ls ⟨h1, h2, h3, oAll1 (P := oOkV) (v := .inl _) (oLcmp_ok _ _) o4⟩
    rw [List.map_cons, oCvLcmp o3 o1] at kk
    exact W.lcmp hx hb hdg kk
  · cases hq
theorem oSim5 (hx : p.tables.exec = Jvm.exec) (hb : c.code = cc) (hst : oSt B b nL ls L S) {q : Instr × Nat} (hdg : decode cc pc = .ok q) {r : oP} (hq : oG5 q pc L S = some r)
    (k : ∀ ls' : Array Slot, oSt B b nL ls' r.2.1 r.2.2 → W p l e R s m args below meth c H locs cells slots Q (F0 m r.1 ls' (r.2.2.map (oCv B b)))) : W p l e R s m args below meth c H locs cells slots Q (F0 m pc ls (S.map (oCv B b))) := by
  obtain ⟨h1, h2, h3, h4⟩ := hst
  have to : ∀ {o : Option Nat} {S' : List oV}, oTo L S' o = some r → ∃ t, o = some t ∧ r = (t, L, S') := by
    intro o S' h
    unfold oTo at h
    split at h
    · next t => cases h; exact ⟨t, rfl, rfl⟩
    · cases h
  unfold oG5 at hq
  split at hq
  · obtain ⟨t, ht, rfl⟩ := to hq
    exact lv_goto hx hb hdg (oJmp_spec ht) (k ls ⟨h1, h2, h3, h4⟩)
  · next cc0 off x S' =>
    obtain ⟨o1, o2⟩ := oAllT h4
    have hx0 : oI32 x := o1
    split at hq
    · next hc =>
      obtain ⟨t, ht, rfl⟩ := to hq
      have kk := k ls ⟨h1, h2, h3, o2⟩
      have hj := oJmp_spec ht
      cases cc0
      · have hc' : x = 0 := by simpa [oTst] using hc
        exact lv_if_eq hx hb hdg hj (fun _ => kk) (fun z => absurd ((oI32_inj hx0 oI32_0).mpr hc') z)
      · have hc' : ¬ x = 0 := by simpa [oTst] using hc
        exact lv_if_ne hx hb hdg hj (fun _ => kk) (fun z => absurd ((oI32_inj hx0 oI32_0).mp z) hc')
      · have hc' : x < 0 := by simpa [oTst] using hc
        exact lv_if_lt hx hb hdg hj (fun _ => kk) (fun z => absurd ((oI32_lt hx0 oI32_0).mpr hc') z)
      · have hc' : 0 ≤ x := by simpa [oTst] using hc
        exact lv_if_ge hx hb hdg hj (fun _ => kk) (fun z => absurd ((oI32_le oI32_0 hx0).mpr hc') z)
      · have hc' : 0 < x := by simpa [oTst] using hc
        exact lv_if_gt hx hb hdg hj (fun _ => kk) (fun z => absurd ((oI32_lt oI32_0 hx0).mpr hc') z)
      · have hc' : x ≤ 0 := by simpa [oTst] using hc
        exact lv_if_le hx hb hdg hj (fun _ => kk) (fun z => absurd ((oI32_le hx0 oI32_0).mpr hc') z)
    · next hc =>
      cases hq
      have kk := k ls ⟨h1, h2, h3, o2⟩
      cases cc0
      · have hc' : ¬ x = 0 := by simpa [oTst] using hc
        exact lv_if_eqF hx hb hdg (fun y => hc' ((oI32_inj hx0 oI32_0).mp y)) kk
      · have hc' : x = 0 := by simpa [oTst] using hc
        exact lv_if_neF hx hb hdg ((oI32_inj hx0 oI32_0).mpr hc') kk
      · have hc' : ¬ x < 0 := by simpa [oTst] using hc
        exact lv_if_ltF hx hb hdg (fun y => hc' ((oI32_lt hx0 oI32_0).mp y)) kk
      · have hc' : ¬ 0 ≤ x := by simpa [oTst] using hc
        exact lv_if_geF hx hb hdg (fun y => hc' ((oI32_le oI32_0 hx0).mp y)) kk
      · have hc' : ¬ 0 < x := by simpa [oTst] using hc
        exact lv_if_gtF hx hb hdg (fun y => hc' ((oI32_lt oI32_0 hx0).mp y)) kk
      · have hc' : ¬ x ≤ 0 := by simpa [oTst] using hc
        exact lv_if_leF hx hb hdg (fun y => hc' ((oI32_le hx0 oI32_0).mp y)) kk
  · next cc0 off y x S' =>
    obtain ⟨o1, o2⟩ := oAllT h4
    obtain ⟨o3, o4⟩ := oAllT o2
    have hy0 : oI32 y := o1
    have hx0 : oI32 x := o3
    split at hq
    · next hc =>
      obtain ⟨t, ht, rfl⟩ := to hq
      have kk := k ls ⟨h1, h2, h3, o4⟩
      have hj := oJmp_spec ht
      cases cc0
      · have hc' : x = y := by simpa [oTst] using hc
        exact lv_icmp_eq hx hb hdg hj (fun _ => kk) (fun z => absurd ((oI32_inj hx0 hy0).mpr hc') z)
      · have hc' : ¬ x = y := by simpa [oTst] using hc
        exact lv_icmp_ne hx hb hdg hj (fun _ => kk) (fun z => absurd ((oI32_inj hx0 hy0).mp z) hc')
      · have hc' : x < y := by simpa [oTst] using hc
        exact lv_icmp_lt hx hb hdg hj (fun _ => kk) (fun z => absurd ((oI32_lt hx0 hy0).mpr hc') z)
      · have hc' : y ≤ x := by simpa [oTst] using hc
        exact lv_icmp_ge hx hb hdg hj (fun _ => kk) (fun z => absurd ((oI32_le hy0 hx0).mpr hc') z)
      · have hc' : y < x := by simpa [oTst] using hc
        exact lv_icmp_gt hx hb hdg hj (fun _ => kk) (fun z => absurd ((oI32_lt hy0 hx0).mpr hc') z)
      · have hc' : x ≤ y := by simpa [oTst] using hc
        exact lv_icmp_le hx hb hdg hj (fun _ => kk) (fun z => absurd ((oI32_le hx0 hy0).mpr hc') z)
    · next hc =>
      cases hq
      have kk := k ls ⟨h1, h2, h3, o4⟩
      cases cc0
      · have hc' : ¬ x = y := by simpa [oTst] using hc
        exact lv_icmp_eqF hx hb hdg (fun z => hc' ((oI32_inj hx0 hy0).mp z)) kk
      · have hc' : x = y := by simpa [oTst] using hc
        exact lv_icmp_neF hx hb hdg ((oI32_inj hx0 hy0).mpr hc') kk
      · have hc' : ¬ x < y := by simpa [oTst] using hc
        exact lv_icmp_ltF hx hb hdg (fun z => hc' ((oI32_lt hx0 hy0).mp z)) kk
      · have hc' : ¬ y ≤ x := by simpa [oTst] using hc
        exact lv_icmp_geF hx hb hdg (fun z => hc' ((oI32_le hy0 hx0).mp z)) kk
      · have hc' : ¬ y < x := by simpa [oTst] using hc
        exact lv_icmp_gtF hx hb hdg (fun z => hc' ((oI32_lt hy0 hx0).mp z)) kk
      · have hc' : ¬ x ≤ y := by simpa [oTst] using hc
        exact lv_icmp_leF hx hb hdg (fun z => hc' ((oI32_le hx0 hy0).mp z)) kk
  · obtain ⟨t, ht, rfl⟩ := to hq
    exact lv_ifnonnull hx hb hdg (oJmp_spec ht) (k ls ⟨h1, h2, h3, (oAllT h4).2⟩)
  · cases hq
    exact lv_ifnonnullN hx hb hdg (k ls ⟨h1, h2, h3, (oAllT h4).2⟩)
  · next d lo hi offs len x S' =>
    obtain ⟨o1, o2⟩ := oAllT h4
    have ex : (Int32.ofInt x).toInt = x := oI32_ofInt o1
    split at hq
    · next hc =>
      obtain ⟨t, ht, rfl⟩ := to hq
      exact lv_tableOut hx hb hdg (by rw [ex]; exact hc) (oJmp_spec ht) (k ls ⟨h1, h2, h3, o2⟩)
    · next hc =>
      split at hq
      · next off ho =>
        obtain ⟨t, ht, rfl⟩ := to hq
        exact lv_tableIn hx hb hdg (by rw [ex]; exact fun z => hc (Or.inl z)) (by rw [ex]; exact fun z => hc (Or.inr z)) (by rw [ex]; exact ho) (oJmp_spec ht) (k ls ⟨h1, h2, h3, o2⟩)
      · cases hq
  · next d ps len x S' =>
    obtain ⟨o1, o2⟩ := oAllT h4
    have ex : (Int32.ofInt x).toInt = x := oI32_ofInt o1
    split at hq
    · next hc =>
      obtain ⟨t, ht, rfl⟩ := to hq
      exact lv_lookup hx hb hdg hc (by rw [ex]) (oJmp_spec ht) (k ls ⟨h1, h2, h3, o2⟩)
    · cases hq
  · cases hq
end OSB
