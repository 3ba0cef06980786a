/-! four: writes -/
section OSD
variable {p : Program} {l : Launch} {e : Env} {R : Room} {s : State} {m : MethodId} {args : Array Value} {below : List Frame} {meth : Method} {c : Code} {H H0 : Heap} {locs : List Loc} {cells slots : Nat} {Q : State → Prop}
variable {y pc nL B b : Nat} {ls : Array Slot} {L S : List oV} {D : va_G} {cA : Nat → ClassId} {h : oH}
/-- what stands behind a write -/
def oAfter (p : Program) (l : Launch) (e : Env) (R : Room) (s : State) (m : MethodId) (args : Array Value) (below : List Frame) (meth : Method) (c : Code) (H0 : Heap) (cells slots : Nat) (Q : State → Prop) (nL B b : Nat) (D : va_G) (cA : Nat → ClassId) (ls : Array Slot) (L : List oV) (pc' : Nat) (S' : List oV) (h' : oH) : Prop :=
  ∀ (H' : Heap) (locs' : List Loc), oHp B b cA D h' H' → oFr B H0 H' locs' → oSt B b nL ls L S' → W p l e R s m args below meth c H' locs' cells slots Q (F0 m pc' ls (S'.map (oCv B b)))
theorem oUpd_i (f : Nat → Int) (i : Nat) (x : Int) : (fun j => Value.int (Int32.ofInt (oUp f i x j))) = updV (fun j => Value.int (Int32.ofInt (f j))) i (.int (Int32.ofInt x)) := by
  funext j
  unfold oUp updV
  by_cases e : j = i
  · subst e; simp
  · simp [e]
theorem oUpd_l (f : Nat → Int) (i : Nat) (x : Int) : (fun j => Value.long (Int64.ofInt (oUp f i x j))) = updV (fun j => Value.long (Int64.ofInt (f j))) i (.long (Int64.ofInt x)) := by
  funext j
  unfold oUp updV
  by_cases e : j = i
  · subst e; simp
  · simp [e]
theorem oUpd_r (B : Nat) (f : Nat → Option Nat) (i r : Nat) : (fun j => va_rf ((oUp f i (some r) j).map (fun a => B + a))) = updV (fun j => va_rf ((f j).map (fun a => B + a))) i (.ref (B + r)) := by
  funext j
  unfold oUp updV
  by_cases e : j = i
  · subst e; simp [va_rf]
  · simp [e]
theorem oSim7 (hF : oFx p s m args meth c y D cA) (hst : oSt B b nL ls L S) (hp : oHp B b cA D h H) (hfr : oFr B H0 H locs) {q : Instr × Nat} (hdg : decode (oMt y).2.1 pc = .ok q) {r : oR} (hq : oG7 (oMt y).2.2.2.2.1 (oIni y) q pc L S h = some r)
    (k : ∀ (pc' : Nat) (S' : List oV) (f' : Nat → oC), r = .inl (pc', L, S', (h.1, h.2.1, f')) → oAfter p l e R s m args below meth c H0 cells slots Q nL B b D cA ls L pc' S' (h.1, h.2.1, f')) : W p l e R s m args below meth c H locs cells slots Q (F0 m pc ls (S.map (oCv B b))) := by
  obtain ⟨hx, hb, hown, hts, hK, hWk, hnm⟩ := hF
  obtain ⟨h1, h2, h3, h4⟩ := hst
  have go : ∀ {n : Nat} {v : Option (Nat → oC)} {S' : List oV}, oGoH n pc L S' h v = some r → ∃ w, v = some w ∧ r = .inl (pc + n, L, S', (h.1, h.2.1, w)) := by
    intro n v S' hh
    unfold oGoH at hh
    split at hh
    · next w => cases hh; exact ⟨w, rfl, rfl⟩
    · cases hh
  have el : ∀ {a kind : Nat} {i z : Int} {w : Nat → oC}, oPutE h a kind i z = some w → a < h.1 ∧ ∃ n f, h.2.2 a = .inr (.inl (kind, n, f)) ∧ 0 ≤ i ∧ i < n ∧ w = oSet h.2.2 a (.inr (.inl (kind, n, oUp f i.toNat z))) := by
    intro a kind i z w hh
    unfold oPutE at hh
    split at hh
    · next ha =>
      split at hh
      · next t n f hc =>
        split at hh
        · next hcc =>
          cases hh
          obtain ⟨rfl, g2, g3⟩ := hcc
          exact ⟨ha, n, f, hc, g2, g3, rfl⟩
        · cases hh
      · cases hh
    · cases hh
  unfold oG7 at hq
  split at hq
  · next i v a S' =>
    split at hq
    · next ci kf hfld =>
      split at hq
      · next hcond =>
        obtain ⟨c1, c2, c3⟩ := hcond
        obtain ⟨w, hw, rfl⟩ := go hq
        unfold oPutF at hw
        split at hw
        · next ha =>
          split at hw
          · next c0 fs hc =>
            split at hw
            · next hci =>
              obtain ⟨rfl, hkl⟩ := hci
              cases hw
              obtain ⟨⟨C, T, N⟩, g1, g2, g3⟩ := oFld_spec hfld
              obtain ⟨g4, g5, g6, g7, g8⟩ := oCl_ok g1
              have hat := (hp.2 a ha).1
              have hok := (hp.2 a ha).2
              rw [hc] at hat hok
              obtain ⟨rr, e1, cell, q1, q2, q3, q4⟩ := hat
              have hr : rr = (C, T, N) := Option.some.inj (e1.symm.trans g1)
              subst hr
              obtain ⟨o1, o2⟩ := oAllT h4
              obtain ⟨n1, n2⟩ := oFits_spec (B := B) (b := b) c1
              have hap := va_apart (own := oNm (oMt y).2.2.2.2.1) hts g4 (oTy c0) g5 g6 hK g1
              obtain ⟨hS, hfc, kC, hkC, hkind⟩ := hK.1 c0 _ g1
              obtain ⟨cf, kf2, fi, f, hi, hsl⟩ := hS kf g2
              have hlay := hts _ (g4 _ (u_in_lay g2))
              have hsf := (u_facts hfc hkC (u_lays hts g4 g2) hi).1
              have hfin : oFin c0 kf = (T kf).2.2.2 := by unfold oFin; rw [g1]
              have done : ∀ H' : Heap, H'[B + a]? = some (cell.setSlot (D.2 c0 kf) (oCv B b v)) → H'.size = H.size → (∀ q : Nat, q ≠ B + a → H'[q]? = H[q]?) → W p l e R s m args below meth c H' (locs ++ [⟨B + a, D.2 c0 kf⟩]) cells slots Q (F0 m (pc + 3) ls (S'.map (oCv B b))) := by
                intro H' z1 z2 z3
                refine k _ _ _ rfl H' _ (oHp_put hp z2 z3 ?_ ?_) (oFr_put hfr z3) ⟨h1, h2, h3, (oAllT o2).2⟩
                · have e2 := t_set q4 hap g2 (oCv B b v)
                  refine ⟨_, g1, t_OB.to (V := updV (vp_V (fs.map (oCv B b))) kf (oCv B b v)) ⟨_, z1, q2, q3, e2⟩ (fun j _ => ?_)⟩
                  rw [vp_updV_set (by rw [List.length_map]; exact hkl), List.map_set]
                · exact oAllSet o1 hok
              by_cases hf : (T kf).2.2.2 = true
              · unfold u_lay at hlay
                rw [if_pos hf] at hlay
                have c4 : oIni y = true ∧ c0 = (oMt y).2.2.2.2.1 := by
                  rcases c3 with z | z
                  · rw [hfin, hf] at z; cases z
                  · exact z
                have hnm2 : meth.name = "<init>" := by
                  rw [hnm c4.1]
                  have := c4.1
                  unfold oIni at this
                  exact beq_iff_eq.mp this
                have hcf : m.cls = cf := by
                  obtain ⟨_, _, c', _, _, _, -, -, hf', -, -, -, hown2, -⟩ := Cond.laysFinal_spec hlay
                  have e1 : c' = cf := by have := hi.symm.trans hf'; simp at this; exact this.1.symm
                  have e3 : (T kf).1 = oNm (oMt y).2.2.2.2.1 := by rw [g7 kf g2, ← c4.2]; exact g8
                  rw [e3] at hown2
                  rw [← e1]; exact Option.some.inj (hown.symm.trans hown2)
                have h6 := u_fits hfc hkC hkind (Or.inr hlay) hi (g5 kf g2) n1 n2
                refine W.putFinK hx hb hown (hts _ g3) hi hsf hcf hnm2 (by rw [q2]; exact h6) q1 q3 (by rw [hsl]; exact k2_hasslot (q4 kf g2)) rfl rfl hdg fun H' z1 z2 z3 => ?_
                rw [hsl] at z1 ⊢
                exact done H' z1 z2 z3
              · unfold u_lay at hlay
                rw [if_neg hf] at hlay
                have h6 := u_store hfc hkC hkind hlay hi (g5 kf g2) n1 n2
                refine W.putK hx hb (f := f) ⟨hown, hts _ g3, ⟨_, _, _, hi⟩, hsf⟩ (by rw [q2]; exact h6) q1 q3 (by rw [hsl]; exact k2_hasslot (q4 kf g2)) rfl rfl hdg fun H' z1 z2 z3 => ?_
                rw [hsl] at z1 ⊢
                exact done H' z1 z2 z3
            · cases hw
          · cases hw
        · cases hw
      · cases hq
    · cases hq
  · next x i a S' =>
    obtain ⟨w, hw, rfl⟩ := go hq
    obtain ⟨ha, n, f, hc, g1, g2, rfl⟩ := el hw
    have hat := (hp.2 a ha).1
    have hok := (hp.2 a ha).2
    rw [hc] at hat hok
    obtain ⟨o1, o2⟩ := oAllT h4
    obtain ⟨o3, o4⟩ := oAllT o2
    have hi0 : oI32 i := o3
    have hcell : H[B + a]? = some (arrV (cA 0) n (fun j => .int (Int32.ofInt (f j)))) := hat
    refine W.iast hx hb hcell ((hK.2 0 _ rfl).1 n _) (fun q => by cases q) (by rw [arrV_size]; exact oIn hi0 g1 g2) rfl rfl hdg fun H' z1 z2 z3 => ?_
    refine k _ _ _ rfl H' _ (oHp_put hp z2 z3 ?_ ?_) (oFr_put hfr z3) ⟨h1, h2, h3, (oAllT o4).2⟩
    · show H'[B + a]? = some (arrV (cA 0) n (fun j => Value.int (Int32.ofInt (oUp f i.toNat x j))))
      rw [z1, arrV_store, oI32_clamp hi0, oUpd_i]
    · refine ⟨by omega, hok.2.1, fun j => ?_⟩
      show oI32 (oUp f i.toNat x j)
      unfold oUp
      split
      · exact o1
      · exact hok.2.2 j
  · next x i a S' =>
    obtain ⟨w, hw, rfl⟩ := go hq
    obtain ⟨ha, n, f, hc, g1, g2, rfl⟩ := el hw
    have hat := (hp.2 a ha).1
    have hok := (hp.2 a ha).2
    rw [hc] at hat hok
    obtain ⟨o1, o2⟩ := oAllT h4
    obtain ⟨o3, o4⟩ := oAllT o2
    have hi0 : oI32 i := o3
    have hcell : H[B + a]? = some (arrV (cA 2) n (fun j => .int (Int32.ofInt (f j)))) := hat
    refine W.bast hx hb hcell ((hK.2 2 _ rfl).1 n _) (fun q => by cases q) (by rw [arrV_size]; exact oIn hi0 g1 g2) rfl rfl hdg fun H' z1 z2 z3 => ?_
    refine k _ _ _ rfl H' _ (oHp_put hp z2 z3 ?_ ?_) (oFr_put hfr z3) ⟨h1, h2, h3, (oAllT o4).2⟩
    · show H'[B + a]? = some (arrV (cA 2) n (fun j => Value.int (Int32.ofInt (oUp f i.toNat (oI2b x) j))))
      rw [z1, arrV_store, oI32_clamp hi0, oUpd_i]
      congr 3
      show Value.int (Int32.ofInt x).toInt8.toInt32 = _
      unfold oI2b
      rw [Int32.ofInt_toInt]
    · refine ⟨by omega, hok.2.1, fun j => ?_⟩
      show oI32 (oUp f i.toNat (oI2b x) j)
      unfold oUp
      split
      · exact oI32_toInt _
      · exact hok.2.2 j
  · next x i a S' =>
    obtain ⟨w, hw, rfl⟩ := go hq
    obtain ⟨ha, n, f, hc, g1, g2, rfl⟩ := el hw
    have hat := (hp.2 a ha).1
    have hok := (hp.2 a ha).2
    rw [hc] at hat hok
    obtain ⟨o1, o2⟩ := oAllT h4
    obtain ⟨o3, o4⟩ := oAllT o2
    have hi0 : oI32 i := o3
    have hcell : H[B + a]? = some (arrV (cA 1) n (fun j => .long (Int64.ofInt (f j)))) := hat
    refine W.last hx hb hcell ((hK.2 1 _ rfl).1 n _) (fun q => by cases q) (by rw [arrV_size]; exact oIn hi0 g1 g2) rfl rfl hdg fun H' z1 z2 z3 => ?_
    refine k _ _ _ rfl H' _ (oHp_put hp z2 z3 ?_ ?_) (oFr_put hfr z3) ⟨h1, h2, h3, (oAllT o4).2⟩
    · show H'[B + a]? = some (arrV (cA 1) n (fun j => Value.long (Int64.ofInt (oUp f i.toNat x j))))
      rw [z1, arrV_store, oI32_clamp hi0, oUpd_l]
    · refine ⟨by omega, hok.2.1, fun j => ?_⟩
      show oI64 (oUp f i.toNat x j)
      unfold oUp
      split
      · exact o1
      · exact hok.2.2 j
  · next rr i a S' =>
    obtain ⟨w, hw, rfl⟩ := go hq
    unfold oPutR at hw
    split at hw
    · next ha =>
      obtain ⟨ha, hr⟩ := ha
      split at hw
      · next n f vs hc hcr =>
        split at hw
        · next hcc =>
          cases hw
          obtain ⟨g1, g2⟩ := hcc
          have hat := (hp.2 a ha).1
          have hok := (hp.2 a ha).2
          have har := (hp.2 rr hr).1
          rw [hc] at hat hok
          rw [hcr] at har
          obtain ⟨o1, o2⟩ := oAllT h4
          obtain ⟨o3, o4⟩ := oAllT o2
          have hi0 : oI32 i := o3
          have hcell : H[B + a]? = some (arrV (cA 3) n (fun j => va_rf ((f j).map (fun a => B + a)))) := hat
          obtain ⟨rx, e1, cellV, x1, x2, x3, -⟩ := har
          have hrx : rx = (RX0, TX0, 4) := (Option.some.inj e1).symm
          subst hrx
          have hcls := (hK.1 0 (RX0, TX0, 4) rfl).2
          obtain ⟨kA, comp, k1, k2, k3, -⟩ := (hK.2 3 _ rfl).2
          have hcomp : comp = D.1 0 := Option.some.inj (k3.symm.trans hcls.1)
          subst hcomp
          obtain ⟨kC, hkC, -⟩ := hcls.2
          have hin := oIn hi0 g1 g2
          refine W.aast hx hb hcell (fun q h => by cases h) (fun h => by cases h) k1 k2 rfl hkC ⟨fun z => hin (Or.inl z), by rw [arrV_size]; exact Nat.not_le.mp fun z => hin (Or.inr z)⟩ x1 (fun q h => by rw [x3] at h; cases h) (by rw [x2]; exact hkC) (by rw [x2]; exact va_assign hcls) rfl rfl hdg fun H' z1 z2 z3 => ?_
          refine k _ _ _ rfl H' _ (oHp_put hp z2 z3 ?_ ?_) (oFr_put hfr z3) ⟨h1, h2, h3, (oAllT o4).2⟩
          · show H'[B + a]? = some (arrV (cA 3) n (fun j => va_rf ((oUp f i.toNat (some rr) j).map (fun a => B + a))))
            rw [z1, arrV_store, oI32_clamp hi0, oUpd_r]
          · exact hok
        · cases hw
      · cases hw
    · cases hw
  · cases hq
end OSD
