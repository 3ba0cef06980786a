/-! five: what is made -/
theorem oAc0 : Jvm.Cond.arrayClass .int ∈ oWds := oWds_at (i := 110) (by decide +kernel) rfl
theorem oAc1 : Jvm.Cond.arrayClass .long ∈ oWds := oWds_at (i := 236) (by decide +kernel) rfl
theorem oAc2 : Jvm.Cond.arrayClass .byte ∈ oWds := oWds_at (i := 197) (by decide +kernel) rfl
theorem oClC : Jvm.Cond.classLink "OddPartners$Text" 13 "OddPartners$Clause" ∈ oWds := oWds_at (i := 173) (by decide +kernel) (by decide +kernel)
theorem oClJ : Jvm.Cond.classLink "OddPartnersModel" 48 "[[J" ∈ oWds := oWds_at (i := 952) (by decide +kernel) (by decide +kernel)
def oNwChk (q : Nat × Nat × Nat × Nat × Nat × Nat) : Bool := match oCls[q.2.2.1]? with
  | some r => (decide (lw_tbl[q.2.2.2.1]? = some (.classLink (oNm q.1) q.2.1 r.1)) && oGood (.classLink (oNm q.1) q.2.1 r.1)) && ((decide (lw_tbl[q.2.2.2.2.1]? = some (.instantiable r.1 r.2.2)) && oGood (.instantiable r.1 r.2.2)) && (decide (lw_tbl[q.2.2.2.2.2]? = some (.initialized r.1)) && oGood (.initialized r.1)))
  | none => false
theorem oNw_chk : oNw.all oNwChk = true := by decide +kernel
theorem oNewC_spec {own i ci : Nat} (h : oNewC own i = some ci) : ∃ r, oCls[ci]? = some r ∧ Jvm.Cond.classLink (oNm own) i r.1 ∈ oWds ∧ Jvm.Cond.instantiable r.1 r.2.2 ∈ oWds ∧ Jvm.Cond.initialized r.1 ∈ oWds := by
  unfold oNewC at h
  split at h
  · next q hq =>
    have h1 := List.all_eq_true.mp oNw_chk _ (List.mem_of_find?_eq_some hq)
    have h2 := List.find?_some hq
    obtain ⟨a, b, c, d, e, f⟩ := q
    simp only [Bool.and_eq_true, beq_iff_eq] at h2
    obtain ⟨rfl, rfl⟩ := h2
    cases h
    unfold oNwChk at h1
    dsimp only at h1
    split at h1
    · next r hr =>
      simp only [Bool.and_eq_true, decide_eq_true_eq] at h1
      obtain ⟨⟨g1, g2⟩, ⟨g3, g4⟩, g5, g6⟩ := h1
      exact ⟨r, hr, oWds_at g1 g2, oWds_at g3 g4, oWds_at g5 g6⟩
    · cases h1
  · cases h
def oDfOk (ty : FieldType) : Bool := match ty with
  | .int => true
  | .boolean => true
  | .object _ => true
  | .array _ => true
  | _ => false
theorem oDf_chk : ((List.range 12).all fun ci => (List.range (oLen ci)).all fun k => oDfOk (oTy ci k)) = true := by decide +kernel
theorem oDf_cv {B b : Nat} {ty : FieldType} (h : oDfOk ty = true) : oCv B b (oDflt ty) = defaultValue ty := by
  unfold oDfOk at h
  split at h
  · rfl
  · rfl
  · rfl
  · rfl
  · cases h
theorem oDf_ok (ty : FieldType) : oOkV (oDflt ty) := by
  unfold oDflt
  split
  · exact oI32_0
  · exact oI32_0
  · trivial
theorem oDf_at {B b ci k : Nat} (h1 : ci < 12) (h2 : k < oLen ci) : oCv B b (oDflt (oTy ci k)) = defaultValue (oTy ci k) :=
  oDf_cv (List.all_eq_true.mp (List.all_eq_true.mp oDf_chk ci (List.mem_range.mpr h1)) k (List.mem_range.mpr h2))
theorem oI64_0 : oI64 0 := ⟨by decide, by decide⟩
section OSE
variable {p : Program} {l : Launch} {e : Env} {R : Room} {s : State} {m : MethodId} {args : Array Value} {below : List Frame} {meth : Method} {c : Code} {H H0 : Heap} {locs : List Loc} {cells slots : Nat} {Q : State → Prop}
variable {y pc nL B b : Nat} {ls : Array Slot} {L S : List oV} {D : va_G} {cA : Nat → ClassId} {h : oH}
/-- new T[6][60] -/
theorem oMna {cc : ByteArray} {rest : List Value} (hx : p.tables.exec = Jvm.exec) (hb : c.code = cc) (hown : s.vm.findClass "OddPartnersModel" = some m.cls) (hts : ∀ w ∈ oWds, w.before args s = true) (hK : va_K D oCls (oTys cA) s) (hWk : oWk s) (hdg : decode cc pc = .ok (.multianewarray 48 2, 4)) (hcells : cells + 7 ≤ R.cells) (hslots : slots + 366 ≤ R.slots)
    (kk : ∀ H' : Heap, H'.size = H.size + 7 → (∀ q : Nat, q < H.size → H'[q]? = H[q]?) → H'[H.size]? = some (arrV (cA 4) 6 (fun j => va_rf (if j < 6 then some (H.size + 1 + j) else none))) → (∀ j : Nat, j < 6 → H'[H.size + 1 + j]? = some (arrV (cA 1) 60 (fun _ => .long 0))) →
      W p l e R s m args below meth c H' locs (cells + 7) (slots + 366) Q (F0 m (pc + 4) ls (.ref H.size :: rest))) : W p l e R s m args below meth c H locs cells slots Q (F0 m pc ls (.int 60 :: .int 6 :: rest)) := by
  intro T hT Xs
  have hcl : (Jvm.Cond.classLink "OddPartnersModel" 48 ("[" ++ (FieldType.array .long).toString)).before args s = true := hts _ oClJ
  have hov : (Jvm.Cond.arrayOver (.array .long)).before args s = true := over_moved (Vm.Alike.refl _) hWk.2.1
  have e6 : (6 : Int32).toNatClampNeg = 6 := by decide
  have e60 : (60 : Int32).toNatClampNeg = 60 := by decide
  obtain ⟨vm₁, c4, comp, -, fA, fC, -, -, X', step⟩ := Jvm.Stand.multianewarray2F Xs hx hown hcl hov (hts _ oAc1) (g := F0 m pc ls (.int 60 :: .int 6 :: rest)) rfl (by rw [hb]; exact hdg) rfl (by decide) (by decide) (by decide) (by rw [e60]; decide) (by decide) (by decide) (by decide) (by rw [e6]; omega) (by rw [e6, e60]; omega)
  have h4 : c4 = cA 4 := Option.some.inj (fA.symm.trans (hK.2 4 _ rfl).2)
  have h1 : comp = cA 1 := Option.some.inj (fC.symm.trans (hK.2 1 _ rfl).2)
  subst h4
  subst h1
  rw [e6, e60] at X' step
  generalize hF : Jvm.Free.Multi.fill (T.setVm vm₁) (cA 4) (cA 1) 6 60 (defaultValue .long) 6 = F at X' step
  have hTh : (T.setVm vm₁).heap = H := hT
  obtain ⟨f1, f2, -, -⟩ := Jvm.Free.Multi.fill_facts (T.setVm vm₁) (cA 4) (cA 1) 6 60 (defaultValue .long) 6
  rw [hF, hTh] at f1 f2
  have hold : ∀ x : Nat, x < H.size → F.heap[x]? = H[x]? := fun x hx => by
    have := Jvm.Free.Multi.fill_old (T.setVm vm₁) (cA 4) (cA 1) 6 60 (defaultValue .long) (a := x) (by rw [hTh]; exact hx) 6
    rw [hF, hTh] at this
    exact this
  have hrow : ∀ j : Nat, j < 6 → F.heap[H.size + 1 + j]? = some (arrV (cA 1) 60 (fun _ => .long 0)) := fun j hj => by
    have := Jvm.Free.Multi.fill_inner (T.setVm vm₁) (cA 4) (cA 1) 6 60 (defaultValue .long) 6 j hj
    rw [hF, hTh] at this
    rw [this, ← arrV_new]
    rfl
  have hout : ∀ i : Nat, Jvm.Free.Multi.outerC (cA 4) 6 H.size i = arrV (cA 4) 6 (fun j => va_rf (if j < i then some (H.size + 1 + j) else none)) := by
    intro i
    induction i with
    | zero =>
      show ({ cls := cA 4, slots := Array.replicate 6 .null, vm := .none } : Cell) = _
      rw [arrV_new]
      refine congrArg (arrV (cA 4) 6) (funext fun j => ?_)
      simp [va_rf]
    | succ i ih =>
      show (Jvm.Free.Multi.outerC (cA 4) 6 H.size i).setSlot i (.ref (H.size + 1 + i)) = _
      rw [ih, arrV_store]
      refine congrArg (arrV (cA 4) 6) (funext fun j => ?_)
      by_cases e : j = i
      · subst e
        simp [updV, va_rf]
      · by_cases h : j < i
        · simp [updV, e, h, Nat.lt_succ_of_lt h]
        · simp [updV, e, h, show ¬ j < i + 1 by omega]
  rw [hout] at f2
  obtain ⟨t, a1, b1⟩ := kk F.heap (by rw [f1]) hold f2 hrow F rfl (by
    have e1 : cells + 1 + 6 = cells + 7 := by omega
    have e2 : slots + 6 + 6 * 60 = slots + 366 := by omega
    rw [e1, e2] at X'
    exact X')
  refine ⟨t, step t ?_, b1⟩
  have e : T.heap.size = H.size := by rw [hT]
  rw [e]
  exact a1
/-- how many cells and slots there are, and may be -/
def oCt (R : Room) (cells slots n0 s0 : Nat) (h : oH) (lim : Nat × Nat) : Prop := cells + n0 = h.1 ∧ slots + s0 = h.2.1 ∧ lim.1 ≤ R.cells + n0 ∧ lim.2 ≤ R.slots + s0
theorem oSim8 {n0 s0 : Nat} {lim : Nat × Nat} (hF : oFx p s m args meth c y D cA) (hst : oSt B b nL ls L S) (hp : oHp B b cA D h H) (hfr : oFr B H0 H locs) (hct : oCt R cells slots n0 s0 h lim) {q : Instr × Nat} (hdg : decode (oMt y).2.1 pc = .ok q) {r : oR} (hq : oG8 lim (oMt y).2.2.2.2.1 q pc L S h = some r)
    (k : ∀ (pc' : Nat) (S' : List oV) (h' : oH) (cells' slots' : Nat), r = .inl (pc', L, S', h') → oCt R cells' slots' n0 s0 h' lim → oAfter p l e R s m args below meth c H0 cells' slots' Q nL B b D cA ls L pc' S' h') : W p l e R s m args below meth c H locs cells slots Q (F0 m pc ls (S.map (oCv B b))) := by
  obtain ⟨hx, hb, hown, hts, hK, hWk, hnm⟩ := hF
  obtain ⟨h1, h2, h3, h4⟩ := hst
  obtain ⟨t1, t2, t3, t4⟩ := hct
  have hBs : H.size = B + h.1 := hp.1
  have make : ∀ {n k0 : Nat} {S' : List oV} {x : oC}, oMake lim n pc L S' h k0 x = some r → (h.1 + 1 ≤ lim.1 ∧ h.2.1 + k0 ≤ lim.2) ∧ r = .inl (pc + n, L, .inr (.inr (.inl h.1)) :: S', (h.1 + 1, h.2.1 + k0, oSet h.2.2 h.1 x)) := by
    intro n k0 S' x hh
    unfold oMake at hh
    split at hh
    · next hc => cases hh; exact ⟨hc, rfl⟩
    · cases hh
  have prim : ∀ (at0 : ArrayType) (t : Nat) (ty : FieldType) (z : Int) (S' : List oV) (f0 : Nat → Int), newarray.typeOf at0 = ty → (∀ w ∈ S', oOkV w) → oI32 z → Jvm.Cond.arrayClass ty ∈ oWds → (oTys cA)[t]? = some (cA t, ty) → (∀ ci, va_RA s ci ty → s.vm.findClass ("[" ++ ty.toString) = some ci) → decode (oMt y).2.1 pc = .ok (.newarray at0, 2) → 0 ≤ z ∧ z < 1000 → componentBytes ty ≤ 8 → (h.1 + 1 ≤ lim.1 ∧ h.2.1 + z.toNat ≤ lim.2) → r = .inl (pc + 2, L, .inr (.inr (.inl h.1)) :: S', (h.1 + 1, h.2.1 + z.toNat, oSet h.2.2 h.1 (.inr (.inl (t, z.toNat, f0))))) →
      (oCe B b cA (.inr (.inl (t, z.toNat, f0))) = oCe B b cA (.inr (.inl (t, z.toNat, f0))) → ∀ H' : Heap, H'[H.size]? = some (arrV (cA t) z.toNat (fun _ => defaultValue ty)) → va_at D oCls (H.size, oCe B b cA (.inr (.inl (t, z.toNat, f0)))) H') → oOkC (.inr (.inl (t, z.toNat, f0))) →
      W p l e R s m args below meth c H locs cells slots Q (F0 m pc ls (.int (Int32.ofInt z) :: S'.map (oCv B b))) := by
    intro at0 t ty z S' f0 hty hS' hz hw ht hra hd hzz hcb hlim hr hat hok
    subst hty
    refine va_newaK hx hb (hts _ hw) rfl hd rfl (fun q => by have := (oI32_lt0 hz).mp q; omega) (oI32_clamp hz) ?_ ?_ ?_ hBs fun H' ci e1 e2 e3 e4 e5 => ?_
    · calc z.toNat * componentBytes (newarray.typeOf at0) ≤ 1000 * 8 := Nat.mul_le_mul (by omega) hcb
        _ ≤ 536870912 := by decide
    · omega
    · omega
    · have hci : ci = cA t := Option.some.inj (e5.symm.trans (hra _ ((hK.2 t _ ht).2)))
      subst hci
      have e2' : H'.size = H.size + 1 := by rw [e2, hBs]
      have e3' : ∀ q : Nat, q < H.size → H'[q]? = H[q]? := fun q hq => e3 q (by rw [← hBs]; exact hq)
      rw [← hBs] at e1
      have kk := k _ _ _ (cells + 1) (slots + z.toNat) hr ⟨by show cells + 1 + n0 = h.1 + 1; omega, by show slots + z.toNat + s0 = h.2.1 + z.toNat; omega, t3, t4⟩ H' locs (oHp_new hp e2' e3' (by rw [← hBs]; exact hat rfl H' e1) hok) (oFr_new hfr (by omega) e3') ⟨h1, h2, h3, oAll1 (P := oOkV) (v := .inr (.inr (.inl h.1))) trivial hS'⟩
      exact kk
  unfold oG8 at hq
  split at hq
  · next i S' =>
    split at hq
    · next ci hnew =>
      obtain ⟨hlim, rfl⟩ := make hq
      obtain ⟨⟨C, T, N⟩, g1, g2, g3, g4⟩ := oNewC_spec hnew
      obtain ⟨c1, c2, c3, c4, c5⟩ := oCl_ok g1
      have hN : oLen ci = N := by unfold oLen; rw [g1]
      have hci : ci < 12 := by
        have := (List.getElem?_eq_some_iff.mp g1).1
        exact this
      have hKn := hK.1 ci _ g1
      refine W.newcK hx hb hown (hts _ g2) (hts _ g3) (hts _ g4) rfl hdg (by omega) (by show slots + N ≤ R.slots; omega) hKn.2.1 hBs fun H' kC hkC e1 e2 e3 => ?_
      have e2' : H'.size = H.size + 1 := by rw [e2, hBs]
      have e3' : ∀ q : Nat, q < H.size → H'[q]? = H[q]? := fun q hq => e3 q (by rw [← hBs]; exact hq)
      have kk := k _ _ _ (cells + 1) (slots + N) rfl ⟨by show cells + 1 + n0 = h.1 + 1; omega, by show slots + N + s0 = h.2.1 + oLen ci; omega, t3, t4⟩ H' locs (oHp_new hp e2' e3' ?_ ?_) (oFr_new hfr (by omega) e3') ⟨h1, h2, h3, oAll1 (P := oOkV) (v := .inr (.inr (.inl h.1))) trivial h4⟩
      · exact kk
      · refine ⟨_, g1, (u_born (oTy ci) hts c1 hKn hkC e1 c2).to fun j hj => ?_⟩
        have hj' : j < N := hj
        show defaultValue (oTy ci j) = vp_V (((List.range (oLen ci)).map (fun k => oDflt (oTy ci k))).map (oCv B b)) j
        unfold vp_V
        rw [List.getD_eq_getElem?_getD, List.getElem?_map, List.getElem?_map, List.getElem?_range (by omega)]
        show defaultValue (oTy ci j) = oCv B b (oDflt (oTy ci j))
        exact (oDf_at hci (by omega)).symm
      · intro v hv
        obtain ⟨j, -, rfl⟩ := List.mem_map.mp hv
        exact oDf_ok _
    · cases hq
  · next z S' =>
    split at hq
    · next hc =>
      obtain ⟨hlim, hr⟩ := make hq
      obtain ⟨o1, o2⟩ := oAllT h4
      exact prim .int 0 .int z S' _ rfl o2 o1 oAc0 rfl (fun ci q => q) hdg hc (by decide) hlim hr (fun _ H' z1 => z1) ⟨by omega, by omega, fun j => oI32_0⟩
    · cases hq
  · next z S' =>
    split at hq
    · next hc =>
      obtain ⟨hlim, hr⟩ := make hq
      obtain ⟨o1, o2⟩ := oAllT h4
      exact prim .long 1 .long z S' _ rfl o2 o1 oAc1 rfl (fun ci q => q) hdg hc (by decide) hlim hr (fun _ H' z1 => z1) ⟨by omega, by omega, fun j => oI64_0⟩
    · cases hq
  · next z S' =>
    split at hq
    · next hc =>
      obtain ⟨hlim, hr⟩ := make hq
      obtain ⟨o1, o2⟩ := oAllT h4
      exact prim .byte 2 .byte z S' _ rfl o2 o1 oAc2 rfl (fun ci q => q) hdg hc (by decide) hlim hr (fun _ H' z1 => z1) ⟨by omega, by omega, fun j => oI32_0⟩
    · cases hq
  · next z S' =>
    split at hq
    · next hc =>
      obtain ⟨hlim, hr⟩ := make hq
      obtain ⟨hown9, hz0, hz1⟩ := hc
      obtain ⟨o1, o2⟩ := oAllT h4
      have hz : oI32 z := o1
      rw [hown9] at hown
      refine W.anew hx hb hown (hts _ oClC) (va_AO.use hWk.1) rfl hdg rfl (fun q => by have := (oI32_lt0 hz).mp q; omega) (by rw [oI32_clamp hz]; omega) (by omega) (by rw [oI32_clamp hz]; omega) fun ci kA comp f1 f2 f3 f4 => ?_
      obtain ⟨kA2, comp2, -, -, -, hk3⟩ := (hK.2 3 _ rfl).2
      have hci : ci = cA 3 := Option.some.inj (f1.symm.trans hk3)
      subst hci
      rw [oI32_clamp hz]
      generalize hH1 : H.push ({ cls := cA 3, slots := Array.replicate z.toNat .null, vm := .none } : Cell) = H1
      have z1 : H1.size = H.size + 1 := by rw [← hH1, Array.size_push]
      have e1 : H1[H.size]? = some (arrV (cA 3) z.toNat (fun _ => .null)) := by rw [← hH1, Array.getElem?_push_size, ← arrV_new]
      have o3 : ∀ q : Nat, q < H.size → H1[q]? = H[q]? := fun q hq => by rw [← hH1, Array.getElem?_push, if_neg (Nat.ne_of_lt hq)]
      have kk := k _ _ _ (cells + 1) (slots + z.toNat) hr ⟨by show cells + 1 + n0 = h.1 + 1; omega, by show slots + z.toNat + s0 = h.2.1 + z.toNat; omega, t3, t4⟩ H1 locs (oHp_new hp z1 o3 (by rw [← hBs]; exact e1) ⟨Or.inl rfl, by omega⟩) (oFr_new hfr (by omega) o3) ⟨h1, h2, h3, oAll1 (P := oOkV) (v := .inr (.inr (.inl h.1))) trivial o2⟩
      rw [List.map_cons] at kk
      rw [hBs]
      exact kk
    · cases hq
  · next k0 n S' =>
    split at hq
    · next hc =>
      obtain ⟨hown11, rfl, rfl, hl1, hl2⟩ := hc
      cases hq
      rw [hown11] at hown
      refine oMna hx hb hown hts hK hWk hdg (by omega) (by omega) fun H' z1 z2 z3 z4 => ?_
      have hp' : oHp B b cA D (h.1 + 7, h.2.1 + 366, fun q => if q = h.1 then .inr (.inr (4, 6, fun j => if j < 6 then some (h.1 + 1 + j) else none)) else if h.1 < q ∧ q < h.1 + 7 then .inr (.inl (1, 60, fun _ => 0)) else h.2.2 q) H' := by
        refine ⟨by show H'.size = B + (h.1 + 7); omega, fun q hq => ?_⟩
        have hq' : q < h.1 + 7 := hq
        by_cases e1 : q = h.1
        · subst e1
          dsimp only
          rw [if_pos rfl]
          refine ⟨?_, Or.inr rfl, by decide⟩
          show H'[B + h.1]? = some (arrV (cA 4) 6 (fun j => va_rf ((if j < 6 then some (h.1 + 1 + j) else none : Option Nat).map (fun a => B + a))))
          rw [← hBs, z3, hBs]
          congr 2
          funext j
          by_cases hj : j < 6
          · rw [if_pos hj, if_pos hj]
            exact congrArg Value.ref (show (B + h.1 + 1 + j : Nat) = B + (h.1 + 1 + j) by omega)
          · rw [if_neg hj, if_neg hj]
            rfl
        · by_cases e2 : h.1 < q
          · dsimp only
            rw [if_neg e1, if_pos ⟨e2, hq'⟩]
            refine ⟨?_, by decide, by decide, fun j => oI64_0⟩
            show H'[B + q]? = some (arrV (cA 1) 60 (fun _ => .long (Int64.ofInt 0)))
            have := z4 (q - h.1 - 1) (by omega)
            rw [show H.size + 1 + (q - h.1 - 1) = B + q by omega] at this
            exact this
          · dsimp only
            rw [if_neg e1, if_neg (fun z => e2 z.1)]
            have hlt : q < h.1 := by omega
            exact ⟨(hp.2 q hlt).1.kept (z2 _ (hp.2 q hlt).1.lt), (hp.2 q hlt).2⟩
      have kk := k _ _ _ (cells + 7) (slots + 366) rfl ⟨by show cells + 7 + n0 = h.1 + 7; omega, by show slots + 366 + s0 = h.2.1 + 366; omega, t3, t4⟩ H' locs hp' (oFr_new hfr (by omega) z2) ⟨h1, h2, h3, oAll1 (P := oOkV) (v := .inr (.inr (.inl h.1))) trivial (oAllT (oAllT h4).2).2⟩
      rw [List.map_cons] at kk
      rw [hBs]
      exact kk
    · cases hq
  · cases hq
end OSE
