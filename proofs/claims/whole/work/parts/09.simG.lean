/-! seven: one call, one end, a whole run -/
/-- what is called by invokevirtual is no constructor -/
def oMtVirt (z : Nat) : Bool := (oMt z).1.name != "<init>"
theorem oLk_virt0 : (oLk.all fun q => q.2.2.1 != 0 || oMtVirt q.2.2.2.1) = true := by decide +kernel
theorem oLk_virt {own i z : Nat} (h : oLink own i = some (0, z)) : oMtVirt z = true := by
  obtain ⟨p, hp⟩ := oFind3_spec h
  have := List.all_eq_true.mp oLk_virt0 _ hp
  simpa using this
section OSG
variable {p : Program} {l : Launch} {e : Env} {R : Room} {s : State} {m : MethodId} {args : Array Value} {below : List Frame} {meth : Method} {c : Code} {H H0 : Heap} {locs : List Loc} {cells slots : Nat} {Q : State → Prop}
variable {y pc nL B b : Nat} {ls : Array Slot} {L S : List oV} {D : va_G} {cA : Nat → ClassId} {h : oH}
theorem oLimW {n0 s0 : Nat} {lim : Nat × Nat} {mc ms : Nat} {h' : oH} (hct : oCt R cells slots n0 s0 h lim) (e1 : h'.1 = h.1 + mc) (e2 : h'.2.1 = h.2.1 + ms) (l1 : h'.1 ≤ lim.1) (l2 : h'.2.1 ≤ lim.2) : cells + mc ≤ R.cells ∧ slots + ms ≤ R.slots := by
  obtain ⟨t1, t2, t3, t4⟩ := hct
  exact ⟨by omega, by omega⟩
theorem oSim9 {call : oCall} {n0 s0 d : Nat} {lim : Nat × Nat} (hcall : ∀ z as h rv h', call z as h = some (rv, h') → z < 226 → (∀ v ∈ as, oOkV v) → oMet l B b D cA d z as h rv h') (hRf : d + 1 ≤ R.frames) (hRl : 40 * (d + 1) ≤ R.locals) (hml : c.maxLocals = nL) (hF : oFx p s m args meth c y D cA) (hst : oSt B b nL ls L S) (hp : oHp B b cA D h H) (hfr : oFr B H0 H locs) (hct : oCt R cells slots n0 s0 h lim) {q : Instr × Nat} (hdg : decode (oMt y).2.1 pc = .ok q) {r : oR} (hq : oG9 call lim (oMt y).2.2.2.2.1 (oIni y) q pc L S h = some r)
    (k : ∀ (pc' : Nat) (S' : List oV) (h' : oH) (cells' slots' : Nat), r = .inl (pc', L, S', h') → oCt R cells' slots' n0 s0 h' lim → oAfter p l e R s m args below meth c H0 cells' slots' Q nL B b D cA ls L pc' S' h') : W p l e R s m args below meth c H locs cells slots Q (F0 m pc ls (S.map (oCv B b))) := by
  have hF0 := hF
  have hst0 := hst
  have hct0 := hct
  obtain ⟨hx, hb, hown, hts, hK, hWk, hnm⟩ := hF
  obtain ⟨h1, h2, h3, h4⟩ := hst
  obtain ⟨t1, t2, t3, t4⟩ := hct
  have fix : CallFix p m c (oMt y).2.1 nL s args oWds (oNm (oMt y).2.2.2.2.1) := ⟨hx, hb, hml, hown, hts⟩
  have roomOf : ∀ {z : Nat} {mc ms : Nat}, z < 226 → (oRm d mc ms).frames + 1 ≤ R.frames ∧ 8 + ((oMt z).2.2.1 + 11) + (oRm d mc ms).locals ≤ R.locals := by
    intro z mc ms hz
    obtain ⟨-, -, -, -, -, -, -, a8⟩ := oMt_spec hz
    refine ⟨hRf, ?_⟩
    show 8 + ((oMt z).2.2.1 + 11) + 40 * d ≤ R.locals
    omega
  have small : ∀ {S' : List oV}, oSmall S' = true → (((S'.map (oCv B b)).map fun v => v.category).sum ≤ 8) := by
    intro S' hs
    rw [oCats_cv]
    exact of_decide_eq_true hs
  have recv : ∀ {a ci : Nat} {fs : List oV}, a < h.1 → h.2.2 a = .inl (ci, fs) → ∃ cell : Cell, H[B + a]? = some cell ∧ cell.vm.isStatics = false ∧ s.vm.findClass (oNm ci) = some cell.cls := by
    intro a ci fs ha hc
    obtain ⟨rr, e1, -⟩ := by
      have := (hp.2 a ha).1
      rw [hc] at this
      exact this
    have hP := oHp_P hp ha
    rw [hc] at hP
    have := va_recv hK hP e1 (q0 := 0) rfl
    rw [(oCl_ok e1).2.2.2.2] at this
    exact this
  unfold oG9 at hq
  split at hq
  · next i =>
    split at hq
    · next z hlk =>
      split at hq
      · next a S' hdrop =>
        split at hq
        · next ci fs hc =>
          split at hq
          · next hcc =>
            obtain ⟨c1, c2, c3, c4, c5⟩ := hcc
            obtain ⟨rv, h', hres, l1, l2⟩ := oBack_lim hq
            obtain ⟨k1, -, -, -, -, -⟩ := oLink_spec hlk
            obtain ⟨hz, hml2⟩ := k1 (by omega)
            obtain ⟨a1, a2, a3, a4, a5, a6, a7, a8⟩ := oMt_spec hz
            obtain ⟨b1, b2⟩ := a4 c5
            have hsel : Jvm.Cond.selects (oMt z).1.cls (oMt z).1 (oMt z).1 ∈ oWds ∨ (oMt z).1.name = "<init>" := by
              rcases b2 with z1 | z1
              · exact Or.inr z1
              · exact Or.inl z1
            have hasok : ∀ v ∈ ((.inr (.inr (.inl a)) : oV) :: (S.take (oMt z).2.2.2.2.2.1).reverse), oOkV v := oAll1 (P := oOkV) (v := .inr (.inr (.inl a))) trivial (oOk_take h4)
            have hM := hcall z _ _ _ _ hres hz hasok
            have hS'ok : ∀ v ∈ S', oOkV v := (oAllT (by rw [← hdrop]; exact oOk_drop h4)).2
            have hpre := oPre_ok (B := B) (b := b) (as := (.inr (.inr (.inl a)) : oV) :: (S.take (oMt z).2.2.2.2.2.1).reverse) hp hK hWk
            rcases hsel with hsel | hsel
            · have cw : CallW R s args (oNm (oMt y).2.2.2.2.1) (oMt z).1.cls i (oMt z).1 (oMt z).2.1 (oMt z).2.2.1 (oMt z).2.2.2.1 (oWs z) (oRm d (oMk z ((.inr (.inr (.inl a)) : oV) :: (S.take (oMt z).2.2.2.2.2.1).reverse)).1 (oMk z ((.inr (.inr (.inl a)) : oV) :: (S.take (oMt z).2.2.2.2.2.1).reverse)).2) (oMk z ((.inr (.inr (.inl a)) : oV) :: (S.take (oMt z).2.2.2.2.2.1).reverse)).1 (oMk z ((.inr (.inr (.inl a)) : oV) :: (S.take (oMt z).2.2.2.2.2.1).reverse)).2 (oMt z).2.2.2.2.2.1 := ⟨callB_of (oMt z).2.2.2.2.2.1 hts (oWs_good hz) rfl rfl rfl (hts _ a2) (hts _ hml2) a5 (roomOf hz), hts _ b1, hts _ hsel⟩
              have hrun := va_runV (e := e) (l := l) (locs := locs) (below := below) (meth := meth) (H := H) (cells := cells) (slots := slots) fix hM.1 cw (b := B + a) (As := ((S.take (oMt z).2.2.2.2.2.1).reverse).map (oCv B b)) (rest := S'.map (oCv B b)) (g := F0 m pc ls (S.map (oCv B b))) ⟨hpre.1, by rw [a7, ← c2]; exact recv c1 hc, hpre.2⟩ rfl (by rw [List.length_map, List.length_reverse]; exact c3) h1.1 (oTake_rev hdrop) (lv_room (small c4)) hdg (oLimW hct0 hM.2.1 hM.2.2 l1 l2)
              exact oBackW hst0 hS'ok hfr hct0 hq hres hM hrun k
            · exfalso
              have : oMtVirt z = true := oLk_virt hlk
              unfold oMtVirt at this
              rw [hsel] at this
              exact absurd this (by decide)
          · cases hq
        · cases hq
      · cases hq
    · cases hq
  · next i =>
    split at hq
    · next z hlk =>
      split at hq
      · next hcc =>
        obtain ⟨c3, c4, c5⟩ := hcc
        obtain ⟨rv, h', hres, l1, l2⟩ := oBack_lim hq
        obtain ⟨k1, -, -, -, -, -⟩ := oLink_spec hlk
        obtain ⟨hz, hml2⟩ := k1 (by omega)
        obtain ⟨a1, a2, a3, a4, a5, a6, a7, a8⟩ := oMt_spec hz
        have b1 := a3 c5
        have hM := hcall z _ _ _ _ hres hz (oOk_take h4)
        have hpre := oPre_ok (B := B) (b := b) (as := (S.take (oMt z).2.2.2.2.2.1).reverse) hp hK hWk
        have cw : CallB R s args (oNm (oMt y).2.2.2.2.1) i (oMt z).1 (oMt z).2.1 (oMt z).2.2.1 (oMt z).2.2.2.1 (oWs z) (oRm d (oMk z ((S.take (oMt z).2.2.2.2.2.1).reverse)).1 (oMk z ((S.take (oMt z).2.2.2.2.2.1).reverse)).2) (oMk z ((S.take (oMt z).2.2.2.2.2.1).reverse)).1 (oMk z ((S.take (oMt z).2.2.2.2.2.1).reverse)).2 (oMt z).2.2.2.2.2.1 ∧ (Cond.static (oMt z).1).before args s = true := ⟨callB_of (oMt z).2.2.2.2.2.1 hts (oWs_good hz) rfl rfl rfl (hts _ a2) (hts _ hml2) a5 (roomOf hz), hts _ b1⟩
        have hrun := va_runS (e := e) (l := l) (locs := locs) (below := below) (meth := meth) (H := H) (cells := cells) (slots := slots) fix hM.1 cw (As := ((S.take (oMt z).2.2.2.2.2.1).reverse).map (oCv B b)) (rest := (S.drop (oMt z).2.2.2.2.2.1).map (oCv B b)) (g := F0 m pc ls (S.map (oCv B b))) hpre rfl (by rw [List.length_map, List.length_reverse]; exact c3) h1.1 oTake_rev0 (lv_room (small c4)) hdg (oLimW hct0 hM.2.1 hM.2.2 l1 l2)
        exact oBackW hst0 (oOk_drop h4) hfr hct0 hq hres hM hrun k
      · cases hq
    · next z hlk =>
      obtain ⟨-, -, -, k5, -, -⟩ := oLink_spec hlk
      split at hq
      · next n dp b0 sp a0 S' =>
        split at hq
        · next hsm =>
          unfold oGoH at hq
          split at hq
          · next f1 hcp =>
            cases hq
            unfold oCopy at hcp
            split at hcp
            · next hcc =>
              obtain ⟨c1, c2, c3, c4, c5⟩ := hcc
              split at hcp
              · next t n0' f t1' n1' g hc0 hc1 =>
                split at hcp
                · next hcd =>
                  obtain ⟨rfl, d2, d3, d4⟩ := hcd
                  cases hcp
                  obtain ⟨o1, o2⟩ := oAllT h4
                  obtain ⟨o3, o4⟩ := oAllT o2
                  obtain ⟨-, o5⟩ := oAllT o4
                  obtain ⟨o6, o7⟩ := oAllT o5
                  obtain ⟨-, o8⟩ := oAllT o7
                  have hat0 := (hp.2 a0 c1).1
                  have hat1 := (hp.2 b0 c2).1
                  have hok0 := (hp.2 a0 c1).2
                  have hok1 := (hp.2 b0 c2).2
                  rw [hc0] at hat0 hok0
                  rw [hc1] at hat1 hok1
                  have hnf : nativeFrameWords "java/lang/System" "arraycopy" 5 ≤ 10 := by decide +kernel
                  have hfr1 : 1 ≤ R.frames := by omega
                  have hlo1 : ((S'.map (oCv B b)).map fun v => v.category).sum + (nativeFrameWords "java/lang/System" "arraycopy" 5 + 11) ≤ R.locals := by
                    have := small hsm
                    omega
                  have hj : ∀ j : Nat, (if dp ≤ (j : Int) ∧ (j : Int) < dp + n then f (sp.toNat + (j - dp.toNat)) else g j) = va_cpy f g sp.toNat dp.toNat n.toNat j := by
                    intro j
                    unfold va_cpy
                    by_cases hin : dp ≤ (j : Int) ∧ (j : Int) < dp + n
                    · rw [if_pos hin, if_pos (by omega)]
                    · rw [if_neg hin, if_neg (by omega)]
                  have tt : t = 0 ∨ t = 1 := by omega
                  have fin : ∀ (H1 : Heap) (L1 : List Loc), H1.size = H.size → (∀ q : Nat, q ≠ B + b0 → H1[q]? = H[q]?) → va_at D oCls (B + b0, oCe B b cA (.inr (.inl (t, n1', fun j => if dp ≤ (j : Int) ∧ (j : Int) < dp + n then f (sp.toNat + (j - dp.toNat)) else g j)))) H1 → (∀ q ∈ L1, q.base = B + b0) → W p l e R s m args below meth c H1 (locs ++ L1) cells slots Q (F0 m (pc + 3) ls (S'.map (oCv B b))) := by
                    intro H1 L1 z1 z2 z3 z4
                    refine k _ _ _ cells slots rfl ⟨t1, t2, t3, t4⟩ H1 _ (oHp_put hp z1 z2 z3 ⟨hok1.1, hok1.2.1, fun j => ?_⟩) (oFr_call hfr (fun q hq => z2 q (by omega)) (fun q hq => by rw [z4 q hq]; exact Nat.le_add_right _ _)) ⟨h1, h2, h3, o8⟩
                    dsimp only
                    have f0 := hok0.2.2 (sp.toNat + (j - dp.toNat))
                    have g0 := hok1.2.2 j
                    by_cases hin : dp ≤ (j : Int) ∧ (j : Int) < dp + n
                    · rw [if_pos hin]; exact f0
                    · rw [if_neg hin]; exact g0
                  rcases tt with tt | tt
                  · subst tt
                    refine oCopyRow (mk := fun z => .int (Int32.ofInt z)) (ty := .int) (t0 := 0) hx hb (by rw [hml]; exact h1.1.symm) hown (hts _ (k5 rfl)) (hts _ oNat) (hts _ oStt) (hts _ oSys) hK rfl rfl (fun _ => rfl) (fun _ _ _ => trivial) hat0 hat1 o6 o3 o1 c3 c4 c5 d3 d4 hfr1 hlo1 hdg fun H1 L1 z1 z2 z3 z4 => fin H1 L1 z1 z2 ?_ z4
                    show H1[B + b0]? = some (arrV (cA 0) n1' (fun j => .int (Int32.ofInt (if dp ≤ (j : Int) ∧ (j : Int) < dp + n then f (sp.toNat + (j - dp.toNat)) else g j))))
                    rw [z3]
                    congr 2
                    funext j
                    rw [hj]
                  · subst tt
                    refine oCopyRow (mk := fun z => .long (Int64.ofInt z)) (ty := .long) (t0 := 1) hx hb (by rw [hml]; exact h1.1.symm) hown (hts _ (k5 rfl)) (hts _ oNat) (hts _ oStt) (hts _ oSys) hK rfl rfl (fun _ => rfl) (fun _ _ _ => trivial) hat0 hat1 o6 o3 o1 c3 c4 c5 d3 d4 hfr1 hlo1 hdg fun H1 L1 z1 z2 z3 z4 => fin H1 L1 z1 z2 ?_ z4
                    show H1[B + b0]? = some (arrV (cA 1) n1' (fun j => .long (Int64.ofInt (if dp ≤ (j : Int) ∧ (j : Int) < dp + n then f (sp.toNat + (j - dp.toNat)) else g j))))
                    rw [z3]
                    congr 2
                    funext j
                    rw [hj]
                · cases hcp
              · cases hcp
            · cases hcp
          · cases hq
        · cases hq
      · cases hq
    · next z hlk =>
      obtain ⟨-, -, -, -, k6, -⟩ := oLink_spec hlk
      split at hq
      · next y0 x0 S' =>
        split at hq
        · next hsm =>
          cases hq
          obtain ⟨hsm0, hsm1, hsm2⟩ := hsm
          obtain ⟨o1, o2⟩ := oAllT h4
          obtain ⟨o3, o4⟩ := oAllT o2
          have hy0 : oI32 y0 := o1
          have hx0 : oI32 x0 := o3
          have hok : oI32 (if x0 < y0 then y0 else x0) := by split <;> assumption
          have kk := k _ _ _ cells slots rfl ⟨t1, t2, t3, t4⟩ H locs hp hfr ⟨h1, h2, h3, oAll1 (P := oOkV) (v := .inl _) hok o4⟩
          have e1 : oCv B b (.inl (if x0 < y0 then y0 else x0)) = .int (if Int32.ofInt x0 < Int32.ofInt y0 then Int32.ofInt y0 else Int32.ofInt x0) := by
            by_cases hlt : x0 < y0
            · rw [if_pos hlt, if_pos ((oI32_lt hx0 hy0).mpr hlt)]; rfl
            · rw [if_neg hlt, if_neg (fun z => hlt ((oI32_lt hx0 hy0).mp z))]; rfl
          rw [List.map_cons, e1] at kk
          exact va_mmax hx hb (by rw [hml]; exact h1.1.symm) hown (hts _ (k6 rfl)) (hts _ oMaS) (hts _ oMaI) (hts _ oMaC) (by omega) (by have := small hsm0; omega) (by omega) (by omega) hdg kk
        · cases hq
      · cases hq
    · next z hlk =>
      obtain ⟨-, -, -, -, -, k7⟩ := oLink_spec hlk
      split at hq
      · next y0 x0 S' =>
        split at hq
        · next hsm =>
          cases hq
          obtain ⟨hsm0, hsm1, hsm2⟩ := hsm
          obtain ⟨o1, o2⟩ := oAllT h4
          obtain ⟨o3, o4⟩ := oAllT o2
          have hy0 : oI32 y0 := o1
          have hx0 : oI32 x0 := o3
          have hok : oI32 (if y0 < x0 then y0 else x0) := by split <;> assumption
          have kk := k _ _ _ cells slots rfl ⟨t1, t2, t3, t4⟩ H locs hp hfr ⟨h1, h2, h3, oAll1 (P := oOkV) (v := .inl _) hok o4⟩
          have e1 : oCv B b (.inl (if y0 < x0 then y0 else x0)) = .int (if Int32.ofInt y0 < Int32.ofInt x0 then Int32.ofInt y0 else Int32.ofInt x0) := by
            by_cases hlt : y0 < x0
            · rw [if_pos hlt, if_pos ((oI32_lt hy0 hx0).mpr hlt)]; rfl
            · rw [if_neg hlt, if_neg (fun z => hlt ((oI32_lt hy0 hx0).mp z))]; rfl
          rw [List.map_cons, e1] at kk
          exact va_mmin hx hb (by rw [hml]; exact h1.1.symm) hown (hts _ (k7 rfl)) (hts _ oMiS) (hts _ oMaI) (hts _ oMiC) (by omega) (by have := small hsm0; omega) (by omega) (by omega) hdg kk
        · cases hq
      · cases hq
    · cases hq
  · next i =>
    split at hq
    · next z hlk =>
      obtain ⟨-, -, k4, -, -, -⟩ := oLink_spec hlk
      split at hq
      · next a S' =>
        split at hq
        · next hcc =>
          cases hq
          have kk := k _ _ _ cells slots rfl ⟨t1, t2, t3, t4⟩ H locs hp hfr ⟨h1, h2, h3, (oAllT h4).2⟩
          refine W.objInit hx hb hown (hts _ (k4 rfl)) (hts _ oObI) (hts _ oObC) (g := F0 m pc ls _) rfl (by rw [hml]; exact h1.1) (a := B + a) (rest := S'.map (oCv B b)) rfl hdg (by omega) ?_ kk
          have e1 := lv_room (m := m) (pc := pc) (ls := ls) (rest := (oCv B b (.inr (.inr (.inl a)))) :: S'.map (oCv B b)) (small hcc.1)
          have e2 : 2 * (F0 m pc ls ((oCv B b (.inr (.inr (.inl a)))) :: S'.map (oCv B b))).monitorRoom + ((S'.map (oCv B b)).map fun v => v.category).sum + 12 ≤ 8 + 12 := Nat.add_le_add_right e1 12
          exact Nat.le_trans e2 (by omega)
        · cases hq
      · cases hq
    · next kd z hn4 hlk =>
      split at hq
      · next a S' hdrop =>
        split at hq
        · next ci fs hc =>
          split at hq
          · next hcc =>
            obtain ⟨c0, c1, c2, c3, c4, c5, c6, c7⟩ := hcc
            obtain ⟨rv, h', hres, l1, l2⟩ := oBack_lim hq
            obtain ⟨k1, k3, -, -, -, -⟩ := oLink_spec hlk
            have hz : z < 226 := by
              rcases c0 with rfl | rfl
              · exact (k1 (by omega)).1
              · exact (k3 rfl).1
            obtain ⟨a1, a2, a3, a4, a5, a6, a7, a8⟩ := oMt_spec hz
            obtain ⟨b1, b2⟩ := a4 c5
            have hasok : ∀ v ∈ ((.inr (.inr (.inl a)) : oV) :: (S.take (oMt z).2.2.2.2.2.1).reverse), oOkV v := oAll1 (P := oOkV) (v := .inr (.inr (.inl a))) trivial (oOk_take h4)
            have hM := hcall z _ _ _ _ hres hz hasok
            have hS'ok : ∀ v ∈ S', oOkV v := (oAllT (by rw [← hdrop]; exact oOk_drop h4)).2
            have hpre := oPre_ok (B := B) (b := b) (as := (.inr (.inr (.inl a)) : oV) :: (S.take (oMt z).2.2.2.2.2.1).reverse) hp hK hWk
            have hw : oWs z = Cond.code (oMt z).1 (oMt z).2.1 (oMt z).2.2.1 none :: oWds := by unfold oWs; rw [c7]
            rcases c0 with rfl | rfl
            · have hml2 := (k1 (by omega)).2
              have cw := cwI (R := R) (rm := oRm d (oMk z ((.inr (.inr (.inl a)) : oV) :: (S.take (oMt z).2.2.2.2.2.1).reverse)).1 (oMk z ((.inr (.inr (.inl a)) : oV) :: (S.take (oMt z).2.2.2.2.2.1).reverse)).2) (own := oNm (oMt y).2.2.2.2.1) (index := i) (oMt z).2.2.2.2.2.1 hts (oWs_good hz) hw rfl rfl (hts _ a2) (hts _ hml2) (hts _ b1) c6 a5 (roomOf hz)
              have hrun := va_runI (e := e) (l := l) (locs := locs) (below := below) (meth := meth) (H := H) (cells := cells) (slots := slots) fix hM.1 cw (b := B + a) (As := ((S.take (oMt z).2.2.2.2.2.1).reverse).map (oCv B b)) (rest := S'.map (oCv B b)) (g := F0 m pc ls (S.map (oCv B b))) hpre rfl (by rw [List.length_map, List.length_reverse]; exact c3) h1.1 (oTake_rev hdrop) (lv_room (small c4)) hdg (oLimW hct0 hM.2.1 hM.2.2 l1 l2)
              exact oBackW hst0 hS'ok hfr hct0 hq hres hM hrun k
            · have hnest := hWk.2.2 _ (k3 rfl).2
              have cw : va_CN R s args (oNm (oMt y).2.2.2.2.1) i (oMt z).1 "OddPartners" (oMt z).2.1 (oMt z).2.2.1 none (oWs z) (oRm d (oMk z ((.inr (.inr (.inl a)) : oV) :: (S.take (oMt z).2.2.2.2.2.1).reverse)).1 (oMk z ((.inr (.inr (.inl a)) : oV) :: (S.take (oMt z).2.2.2.2.2.1).reverse)).2) _ _ (oMt z).2.2.2.2.2.1 ∧ (oMt z).1.name = "<init>" ∧ (Cond.instanceMethod (oMt z).1).before args s = true :=
                ⟨va_cnB (oMt z).2.2.2.2.2.1 hts (oWs_good hz) hw rfl rfl hnest (hts _ a2) a5 (roomOf hz), c6, hts _ b1⟩
              have hrun := va_runIN (e := e) (l := l) (locs := locs) (below := below) (meth := meth) (H := H) (cells := cells) (slots := slots) fix hM.1 cw (b := B + a) (As := ((S.take (oMt z).2.2.2.2.2.1).reverse).map (oCv B b)) (rest := S'.map (oCv B b)) (g := F0 m pc ls (S.map (oCv B b))) hpre rfl (by rw [List.length_map, List.length_reverse]; exact c3) h1.1 (oTake_rev hdrop) (lv_room (small c4)) hdg (oLimW hct0 hM.2.1 hM.2.2 l1 l2)
              exact oBackW hst0 hS'ok hfr hct0 hq hres hM hrun k
          · cases hq
        · cases hq
      · cases hq
    · cases hq
  · cases hq
end OSG
