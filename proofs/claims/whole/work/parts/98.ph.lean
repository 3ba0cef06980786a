/-! the law: from its first place -/
/-- from here, at any heap, the law's body ends with 1 -/
def lR (L : Nat) (f : Nat → Int) (pc : Nat) (Ls S : List oV) (h : oH) : Prop := ∃ (n k : Nat) (h' : oH), oRun (oExec n 60) (L + 1, f) (600000, 7302249) 226 k pc Ls S h = some (some (.inl 1), h')
section LRE
variable {L : Nat} {f : Nat → Int} {p : Nat} {Ls S : List oV} {h : oH}
theorem lR_go {pc' : Nat} {L' S' : List oV} {h1 : oH} (hs : ∀ call : oCall, oStep call (L + 1, f) (600000, 7302249) 226 p Ls S h = some (.inl (pc', L', S', h1))) (g : lR L f pc' L' S' h1) : lR L f p Ls S h := by
  obtain ⟨n, k, h', hr⟩ := g
  refine ⟨n, k + 1, h', ?_⟩
  unfold oRun
  rw [hs]
  exact hr
theorem lR_new {i ci : Nat} (hf : oFet 226 p = some (.new i, 3)) (hn : oNewC 12 i = some ci) (hl : h.1 + 1 ≤ 600000 ∧ h.2.1 + oLen ci ≤ 7302249) (g : lR L f (p + 3) Ls (.inr (.inr (.inl h.1)) :: S) (cNw ci h)) : lR L f p Ls S h := by
  refine lR_go (fun call => (oStep_of hf).trans ?_) g
  have e8 : oG8 (600000, 7302249) (oMt 226).2.2.2.2.1 (.new i, 3) p Ls S h = some (.inl (p + 3, Ls, .inr (.inr (.inl h.1)) :: S, cNw ci h)) := by
    show (match oNewC (oMt 226).2.2.2.2.1 i with
      | some ci => oMake (600000, 7302249) 3 p Ls S h (oLen ci) (.inl (ci, (List.range (oLen ci)).map (fun k => oDflt (oTy ci k))))
      | none => none) = _
    rw [own_226, hn]
    exact if_pos hl
  unfold oIns
  rw [e8]
  rfl
theorem lR_dup {a : Nat} (hf : oFet 226 p = some (.dup, 1)) (g : lR L f (p + 1) Ls (.inr (.inr (.inl a)) :: .inr (.inr (.inl a)) :: S) h) : lR L f p Ls (.inr (.inr (.inl a)) :: S) h := lR_go (fun call => (oStep_of hf).trans (oIns2 (r := (p + 1, Ls, .inr (.inr (.inl a)) :: .inr (.inr (.inl a)) :: S)) rfl rfl)) g
theorem lR_con {i z a ci n0 : Nat} {fs : List oV} {h1 : oH} (hf : oFet 226 p = some (.invokespecial i, 3)) (hl : oLink 12 i = some (2, z)) (hz : (oMt z).2.2.2.2.1 = ci ∧ (oMt z).2.2.2.2.2.1 = 0 ∧ (oMt z).2.2.2.2.2.2.1 = false) (hnm : (oMt z).1.name = "<init>" ∧ (oMt z).2.2.2.1 = none) (ha : a < h.1) (hc : h.2.2 a = .inl (ci, fs)) (hs : oSmall S = true) (hm : oExec n0 60 z [.inr (.inr (.inl a))] h = some (none, h1)) (hr : h1.1 ≤ 600000 ∧ h1.2.1 ≤ 7302249) (g : lR L f (p + 3) Ls S h1) : lR L f p Ls (.inr (.inr (.inl a)) :: S) h := by
  obtain ⟨z1, z2, z3⟩ := hz
  obtain ⟨n, k, h', hrun⟩ := g
  have hr2 := oRun_mono (call' := oExec (max n n0) 60) (fun z as h r => oExec_mono (Nat.le_max_left n n0)) (Nat.le_refl k) hrun
  have hst : oStep (oExec (max n n0) 60) (L + 1, f) (600000, 7302249) 226 p Ls (.inr (.inr (.inl a)) :: S) h = some (.inl (p + 3, Ls, S, h1)) := by
    have e9 : oG9 (oExec (max n n0) 60) (600000, 7302249) (oMt 226).2.2.2.2.1 (oIni 226) (.invokespecial i, 3) p Ls (.inr (.inr (.inl a)) :: S) h = some (.inl (p + 3, Ls, S, h1)) := by
      show (match oLink (oMt 226).2.2.2.2.1 i with
        | some (4, _) => match (Sum.inr (Sum.inr (Sum.inl a)) :: S : List oV) with
          | .inr (.inr (.inl _)) :: S' => if oSmall S' = true ∧ oIni 226 = true then (some (.inl (p + 3, Ls, S', h)) : Option oR) else none
          | _ => none
        | some (k, z) => match (Sum.inr (Sum.inr (Sum.inl a)) :: S : List oV).drop (oMt z).2.2.2.2.2.1 with
          | .inr (.inr (.inl a')) :: S' => match h.2.2 a' with
            | .inl (ci, _) => if (k = 2 ∨ k = 3) ∧ a' < h.1 ∧ ci = (oMt z).2.2.2.2.1 ∧ ((Sum.inr (Sum.inr (Sum.inl a)) :: S : List oV).take (oMt z).2.2.2.2.2.1).length = (oMt z).2.2.2.2.2.1 ∧ oSmall S' = true ∧ (oMt z).2.2.2.2.2.2.1 = false ∧ (oMt z).1.name = "<init>" ∧ (oMt z).2.2.2.1 = none then oBack (600000, 7302249) p Ls S' (oExec (max n n0) 60 z (.inr (.inr (.inl a')) :: ((Sum.inr (Sum.inr (Sum.inl a)) :: S : List oV).take (oMt z).2.2.2.2.2.1).reverse) h) else none
            | _ => none
          | _ => none
        | _ => none) = _
      rw [own_226, hl]
      show (match (Sum.inr (Sum.inr (Sum.inl a)) :: S : List oV).drop (oMt z).2.2.2.2.2.1 with
          | .inr (.inr (.inl a')) :: S' => match h.2.2 a' with
            | .inl (ci, _) => if (2 = 2 ∨ 2 = 3) ∧ a' < h.1 ∧ ci = (oMt z).2.2.2.2.1 ∧ ((Sum.inr (Sum.inr (Sum.inl a)) :: S : List oV).take (oMt z).2.2.2.2.2.1).length = (oMt z).2.2.2.2.2.1 ∧ oSmall S' = true ∧ (oMt z).2.2.2.2.2.2.1 = false ∧ (oMt z).1.name = "<init>" ∧ (oMt z).2.2.2.1 = none then oBack (600000, 7302249) p Ls S' (oExec (max n n0) 60 z (.inr (.inr (.inl a')) :: ((Sum.inr (Sum.inr (Sum.inl a)) :: S : List oV).take (oMt z).2.2.2.2.2.1).reverse) h) else none
            | _ => none
          | _ => none) = _
      rw [z2]
      dsimp only [List.drop, List.take]
      rw [hc]
      dsimp only
      have hcond : ((2 : Nat) = 2 ∨ (2 : Nat) = 3) ∧ a < h.1 ∧ ci = (oMt z).2.2.2.2.1 ∧ ([] : List oV).length = 0 ∧ oSmall S = true ∧ (oMt z).2.2.2.2.2.2.1 = false ∧ (oMt z).1.name = "<init>" ∧ (oMt z).2.2.2.1 = none := ⟨Or.inl rfl, ha, z1.symm, rfl, hs, z3, hnm.1, hnm.2⟩
      refine (if_pos hcond).trans ?_
      show oBack (600000, 7302249) p Ls S (oExec (max n n0) 60 z [.inr (.inr (.inl a))] h) = _
      rw [oExec_mono (Nat.le_max_right n n0) hm]
      exact if_pos hr
    rw [oStep_of hf]
    unfold oIns
    rw [e9]
    rfl
  refine ⟨max n n0, k + 1, h', ?_⟩
  unfold oRun
  rw [hst]
  exact hr2
end LRE
theorem cNw_at {ci a : Nat} {h : oH} (e : h.1 = a) : (cNw ci h).2.2 a = .inl (ci, (List.range (oLen ci)).map (fun k => oDflt (oTy ci k))) := by
  subst e
  exact if_pos rfl
theorem cNw_1 {ci : Nat} {h : oH} : (cNw ci h).1 = h.1 + 1 := rfl
theorem cCon {L : Nat} {f : Nat → Int} (g : lE L f 18 (lLs 0) [] (oStOf cH4)) : lR L f 0 [.inr (.inr (.inr 1)), .inr (.inr (.inr 2)), .inr (.inr (.inr 2)), .inr (.inr (.inr 2))] [] cH0 := by
  have hck := cChk_ok
  simp only [Bool.and_eq_true] at hck
  obtain ⟨⟨⟨k1, k2⟩, -⟩, -⟩ := hck
  unfold cChk at k1
  simp only [Bool.and_eq_true, decide_eq_true_eq] at k1
  obtain ⟨⟨⟨⟨⟨i1, i2⟩, a2⟩, b2⟩, a4⟩, b4⟩ := k1
  have e1 : cR1 = some (none, cH2) := by
    unfold cH2
    unfold cIsN at i1
    split at i1
    · next h he => rw [he]
    · cases i1
  have e2 : cR2 = some (none, cH4) := by
    unfold cH4
    unfold cIsN at i2
    split at i2
    · next h he => rw [he]
    · cases i2
  unfold cR1 at e1
  unfold cR2 at e2
  have N0 : oNice cH0 := ⟨fun _ _ => rfl, fun _ _ _ _ he => by cases he⟩
  have N1 : oNice (cNw 10 cH0) := oNice_new N0 (fun _ _ _ he => by cases he)
  have N2 : oNice cH2 := oNice_exec N1 e1
  have N3 : oNice (cNw 11 cH2) := oNice_new N2 (fun _ _ _ he => by cases he)
  have N4 : oNice cH4 := oNice_exec N3 e2
  have e4 : cH4 = oHb (oStOf cH4) := oStOf_ok N4 a4 b4 (fun q hq => List.all_eq_true.mp k2 q (List.mem_range.mpr hq))
  refine lR_new (ci := 10) f_226_0 (by decide +kernel) (show (0 : Nat) + 1 ≤ 600000 ∧ (0 : Nat) + oLen 10 ≤ 7302249 by decide +kernel) ?_
  refine lR_dup f_226_3 ?_
  refine lR_con (z := 0) (ci := 10) (n0 := 400) (h1 := cH2) f_226_4 (by decide +kernel) (by decide +kernel) (by decide +kernel) (show (0 : Nat) < 0 + 1 by decide) rfl rfl e1 (by omega) ?_
  refine lR_go (fun call => (oStep_of f_226_7).trans (oIns2 (r := (8, [.inr (.inr (.inr 1)), .inr (.inr (.inl 0)), .inr (.inr (.inr 2)), .inr (.inr (.inr 2))], [])) rfl rfl)) ?_
  have l11 : oLen 11 ≤ 100 := by decide +kernel
  refine lR_new (ci := 11) f_226_8 (by decide +kernel) (by omega) ?_
  rw [a2]
  refine lR_dup f_226_11 ?_
  have hc : (cNw 11 cH2).2.2 68 = .inl (11, (List.range (oLen 11)).map (fun k => oDflt (oTy 11 k))) := cNw_at a2
  refine lR_con (z := 141) (ci := 11) (n0 := 400) (h1 := cH4) f_226_12 (by decide +kernel) (by decide +kernel) (by decide +kernel) (by rw [cNw_1, a2]; decide) hc rfl e2 (by omega) ?_
  rw [e4]
  refine lR_go (fun call => (oStep_of f_226_15).trans (oIns2 (r := (16, [.inr (.inr (.inr 1)), .inr (.inr (.inl 0)), .inr (.inr (.inl 68)), .inr (.inr (.inr 2))], [])) rfl rfl)) ?_
  refine lR_go (fun call => (oStep_of f_226_16).trans (oIns1 (r := (17, [.inr (.inr (.inr 1)), .inr (.inr (.inl 0)), .inr (.inr (.inl 68)), .inr (.inr (.inr 2))], [.inl 0])) rfl)) ?_
  refine lR_go (fun call => (oStep_of f_226_17).trans (oIns2 (r := (18, lLs 0, [])) rfl rfl)) ?_
  exact g
theorem cInv : Inv (oStOf cH4) := by
  have hck := cChk_ok
  simp only [Bool.and_eq_true] at hck
  obtain ⟨⟨-, k3⟩, k4⟩ := hck
  unfold cChk3 cZ at k3
  unfold cChk4 cRow at k4
  simp only [Bool.and_eq_true, decide_eq_true_eq] at k3
  simp only [Bool.and_eq_true, List.all_eq_true, List.mem_range, decide_eq_true_eq] at k4
  obtain ⟨⟨⟨⟨⟨⟨⟨⟨⟨⟨⟨⟨z1, z2⟩, z3⟩, z4⟩, z5⟩, z6⟩, z7⟩, z8⟩, z9⟩, za⟩, zb⟩, zc⟩, zd⟩ := k3
  obtain ⟨⟨⟨⟨⟨⟨⟨r69, r3⟩, r4⟩, r5⟩, r52⟩, r53⟩, r79⟩, r80⟩ := k4
  generalize oStOf cH4 = σ at *
  have g0 : ∀ k, k < 116 → ¬ (50 ≤ k ∧ k < 57) → σ.2 69 k = 0 := fun k hk hn => by rw [r69 k hk, if_neg hn]
  have g1 : ∀ k, 50 ≤ k → k < 57 → σ.2 69 k = -1 := fun k hk hn => by rw [r69 k (by omega), if_pos ⟨hk, hn⟩]
  have w0 : ∀ i j, nW (gW (σ.2 69)) i j = 0 := fun i j => by
    rw [nW_ext (g := gW (σ.2 69)) (h := fun _ => 0) (fun k hk => g0 (1 + k) (by omega) (by omega))]
    unfold nW
    split <;> rfl
  have m0 : ∀ p, nM (gM (σ.2 69)) p = -1 := fun p => by
    rw [nM_ext (g := gM (σ.2 69)) (h := fun _ => -1) (fun k hk => g1 (50 + k) (by omega) (by omega))]
    unfold nM
    split <;> rfl
  have a0 := g0 0 (by omega) (by omega)
  have a64 := g0 64 (by omega) (by omega)
  have a71 := g0 71 (by omega) (by omega)
  have a82 := g0 82 (by omega) (by omega)
  have a99 := g0 99 (by omega) (by omega)
  refine ⟨⟨⟨?_, ?_, ?_, ?_, ⟨?_, ?_⟩, ⟨?_, ?_⟩, ⟨?_, ?_⟩, ?_, ?_⟩, ?_⟩, ⟨?_, Or.inl zd, by omega, by omega, by omega, by omega⟩, ⟨by omega, by omega, fun k hk => by omega⟩, ?_⟩
  · rw [z1, a0]
  · exact fun k hk => (r3 k hk).trans (g0 (1 + k) (by omega) (by omega)).symm
  · exact fun k hk => (r4 k hk).trans (g1 (50 + k) (by omega) (by omega)).symm
  · exact fun k hk => (r5 k hk).trans (g0 (57 + k) (by omega) (by omega)).symm
  · exact z2.trans a64.symm
  · exact fun k hk => by omega
  · exact z3.trans a71.symm
  · exact fun k hk => by omega
  · exact z4.trans a82.symm
  · exact fun k hk => by omega
  · exact z5.trans a99.symm
  · exact fun k hk => by omega
  · refine ⟨by omega, ⟨fun i j => by rw [w0]; decide, fun i j => by rw [w0, w0], fun i => w0 i i, fun i j _ => w0 i j⟩, ⟨fun p => by rw [m0]; decide, fun p hp => by rw [m0] at hp; omega⟩, fun p hp => by rw [g0 (57 + p) (by omega) (by omega)]; decide, ⟨by omega, by omega, fun k hk => by omega⟩, ⟨by omega, by omega, fun k hk => by omega⟩, by omega, by omega, by omega, fun k hk => by omega⟩
  · rw [zc, zd]
  · intro t ht
    refine ⟨(r52 t ht).trans (r79 t ht).symm, (r53 t ht).trans (r80 t ht).symm, ?_, ?_, fun _ => r53 t ht, fun k hk => ?_⟩
    · rw [r53 t ht]; decide
    · rw [r52 t ht]; decide
    · rw [r53 t ht] at hk; omega
theorem oLaw_ok : oLawOk := by
  intro L f hL hf
  exact cCon (law_loop hL hf (L + 6) 0 _ (by omega) (by omega) cInv)

