/-! the law: small steps -/
/-- its places: the script, the class, the model, where it stands -/
abbrev lLs (i : Nat) : List oV := [.inr (.inr (.inr 1)), .inr (.inr (.inl 0)), .inr (.inr (.inl 68)), .inl (i : Int)]
theorem own_226 : (oMt 226).2.2.2.2.1 = 12 := by decide +kernel
section LST
variable {L : Nat} {f : Nat → Int} {p i : Nat} {S : List oV} {σ : oSg}
theorem lE_a0 (h : oFet 226 p = some (.aload_n 0, 1)) (g : lE L f (p + 1) (lLs i) (.inr (.inr (.inr 1)) :: S) σ) : lE L f p (lLs i) S σ := lE_go (fun call => (oStep_of h).trans (oIns1 rfl)) g
theorem lE_a1 (h : oFet 226 p = some (.aload_n 1, 1)) (g : lE L f (p + 1) (lLs i) (.inr (.inr (.inl 0)) :: S) σ) : lE L f p (lLs i) S σ := lE_go (fun call => (oStep_of h).trans (oIns1 rfl)) g
theorem lE_a2 (h : oFet 226 p = some (.aload_n 2, 1)) (g : lE L f (p + 1) (lLs i) (.inr (.inr (.inl 68)) :: S) σ) : lE L f p (lLs i) S σ := lE_go (fun call => (oStep_of h).trans (oIns1 rfl)) g
theorem lE_i3 (h : oFet 226 p = some (.iload_n 3, 1)) (g : lE L f (p + 1) (lLs i) (.inl (i : Int) :: S) σ) : lE L f p (lLs i) S σ := lE_go (fun call => (oStep_of h).trans (oIns1 rfl)) g
theorem lE_at (h : oFet 226 p = some (.iaload, 1)) {k : Nat} (hk : k < L) (g : lE L f (p + 1) (lLs i) (.inl (f k) :: S) σ) : lE L f p (lLs i) (.inl (k : Int) :: .inr (.inr (.inr 1)) :: S) σ := by
  refine lE_go (fun call => (oStep_of h).trans (oIns6 ⟨rfl, rfl, rfl, rfl, rfl⟩ ?_)) g
  show (if 0 ≤ (k : Int) ∧ (k : Int) + 1 < ((L + 1 : Nat) : Int) then some (Sum.inl (p + 1, lLs i, .inl (f (k : Int).toNat) :: S, oHb σ)) else none) = _
  rw [if_pos (by omega), Int.toNat_natCast]
theorem lE_len (h : oFet 226 p = some (.arraylength, 1)) (hL : L ≤ 3072) (g : lE L f (p + 1) (lLs i) (.inl (L : Int) :: S) σ) : lE L f p (lLs i) (.inr (.inr (.inr 1)) :: S) σ := by
  refine lE_go (fun call => (oStep_of h).trans (oIns6 ⟨rfl, rfl, rfl, rfl, rfl⟩ ?_)) g
  show (if 0 < L + 1 ∧ L + 1 ≤ 2147483648 then some (Sum.inl (p + 1, lLs i, .inl ((L + 1 - 1 : Nat) : Int) :: S, oHb σ)) else none) = _
  rw [if_pos (by omega), Nat.add_sub_cancel]
theorem lE_k {n : Int} (h : oFet 226 p = some (.iconst n, 1)) (hn : -2147483648 ≤ n ∧ n < 2147483648) (g : lE L f (p + 1) (lLs i) (.inl n :: S) σ) : lE L f p (lLs i) S σ := lE_go (fun call => (oStep_of h).trans (oIns1 (if_pos hn))) g
theorem lE_b {n : Int} (h : oFet 226 p = some (.bipush n, 2)) (hn : -128 ≤ n ∧ n < 128) (g : lE L f (p + 2) (lLs i) (.inl n :: S) σ) : lE L f p (lLs i) S σ := lE_go (fun call => (oStep_of h).trans (oIns1 (if_pos hn))) g
theorem lE_add {x y : Int} (h : oFet 226 p = some (.iadd, 1)) (g : lE L f (p + 1) (lLs i) (.inl (oAdd x y) :: S) σ) : lE L f p (lLs i) (.inl y :: .inl x :: S) σ := lE_go (fun call => (oStep_of h).trans (oIns3 (r := (p + 1, lLs i, .inl (oAdd x y) :: S)) rfl rfl rfl)) g
theorem lE_sub {x y : Int} (h : oFet 226 p = some (.isub, 1)) (g : lE L f (p + 1) (lLs i) (.inl (oSub x y) :: S) σ) : lE L f p (lLs i) (.inl y :: .inl x :: S) σ := lE_go (fun call => (oStep_of h).trans (oIns3 (r := (p + 1, lLs i, .inl (oSub x y) :: S)) rfl rfl rfl)) g
theorem lE_and {x y : Int} (h : oFet 226 p = some (.iand, 1)) (g : lE L f (p + 1) (lLs i) (.inl (oAnd x y) :: S) σ) : lE L f p (lLs i) (.inl y :: .inl x :: S) σ := lE_go (fun call => (oStep_of h).trans (oIns3 (r := (p + 1, lLs i, .inl (oAnd x y) :: S)) rfl rfl rfl)) g
theorem lE_i2l {x : Int} (h : oFet 226 p = some (.i2l, 1)) (g : lE L f (p + 1) (lLs i) (.inr (.inl x) :: S) σ) : lE L f p (lLs i) (.inl x :: S) σ := lE_go (fun call => (oStep_of h).trans (oIns4 (r := (p + 1, lLs i, .inr (.inl x) :: S)) rfl rfl rfl rfl)) g
theorem lE_shl {x y : Int} (h : oFet 226 p = some (.lshl, 1)) (g : lE L f (p + 1) (lLs i) (.inr (.inl (oLshl x y)) :: S) σ) : lE L f p (lLs i) (.inl y :: .inr (.inl x) :: S) σ := lE_go (fun call => (oStep_of h).trans (oIns4 (r := (p + 1, lLs i, .inr (.inl (oLshl x y)) :: S)) rfl rfl rfl rfl)) g
theorem lE_land {x y : Int} (h : oFet 226 p = some (.land, 1)) (g : lE L f (p + 1) (lLs i) (.inr (.inl (oLand x y)) :: S) σ) : lE L f p (lLs i) (.inr (.inl y) :: .inr (.inl x) :: S) σ := lE_go (fun call => (oStep_of h).trans (oIns4 (r := (p + 1, lLs i, .inr (.inl (oLand x y)) :: S)) rfl rfl rfl rfl)) g
theorem lE_lor {x y : Int} (h : oFet 226 p = some (.lor, 1)) (g : lE L f (p + 1) (lLs i) (.inr (.inl (oLor x y)) :: S) σ) : lE L f p (lLs i) (.inr (.inl y) :: .inr (.inl x) :: S) σ := lE_go (fun call => (oStep_of h).trans (oIns4 (r := (p + 1, lLs i, .inr (.inl (oLor x y)) :: S)) rfl rfl rfl rfl)) g
theorem lE_lk {k : Nat} {z : Int} (h : oFet 226 p = some (.ldc2_w k, 3)) (hk : oKonL 12 k = some z) (g : lE L f (p + 3) (lLs i) (.inr (.inl z) :: S) σ) : lE L f p (lLs i) S σ := by
  refine lE_go (fun call => (oStep_of h).trans (oIns6 ⟨rfl, rfl, rfl, rfl, rfl⟩ ?_)) g
  show oPushH 3 p (lLs i) S (oHb σ) (oLong (oKonL (oMt 226).2.2.2.2.1 k)) = _
  rw [own_226, hk]
  rfl
theorem lE_gt {t : Nat} {o : Int} (h : oFet 226 p = some (.goto o, 3)) (ht : oJmp p o = some t) (g : lE L f t (lLs i) S σ) : lE L f p (lLs i) S σ := by
  refine lE_go (fun call => (oStep_of h).trans (oIns5 (r := (t, lLs i, S)) rfl rfl rfl rfl ?_)) g
  show oTo (lLs i) S (oJmp p o) = _
  rw [ht]
  rfl
/-- equal ints: on -/
theorem lE_eq {t : Nat} {o x : Int} (h : oFet 226 p = some (.if_icmp .eq o, 3)) (ht : oJmp p o = some t) (g : lE L f t (lLs i) S σ) : lE L f p (lLs i) (.inl x :: .inl x :: S) σ := by
  refine lE_go (fun call => (oStep_of h).trans (oIns5 (r := (t, lLs i, S)) rfl rfl rfl rfl ?_)) g
  show (if oTst .eq x x = true then oTo (lLs i) S (oJmp p o) else some (p + 3, lLs i, S)) = _
  rw [if_pos (by simp [oTst]), ht]
  rfl
/-- equal longs: on -/
theorem lE_leq {t : Nat} {o x : Int} (h0 : oFet 226 p = some (.lcmp, 1)) (h : oFet 226 (p + 1) = some (.ifCond .eq o, 3)) (ht : oJmp (p + 1) o = some t) (g : lE L f t (lLs i) S σ) : lE L f p (lLs i) (.inr (.inl x) :: .inr (.inl x) :: S) σ := by
  refine lE_go (fun call => (oStep_of h0).trans (oIns4 (r := (p + 1, lLs i, .inl 0 :: S)) rfl rfl rfl ?_)) ?_
  · show some (p + 1, lLs i, Sum.inl (oLcmp x x) :: S) = _
    simp [oLcmp]
  refine lE_go (fun call => (oStep_of h).trans (oIns5 (r := (t, lLs i, S)) rfl rfl rfl rfl ?_)) g
  show (if oTst .eq 0 0 = true then oTo (lLs i) S (oJmp (p + 1) o) else some (p + 1 + 3, lLs i, S)) = _
  rw [if_pos (by simp [oTst]), ht]
  rfl
theorem lE_gtr {t : Nat} {o x y : Int} (h : oFet 226 p = some (.if_icmp .gt o, 3)) (ht : oJmp p o = some t) (g1 : y < x → lE L f t (lLs i) S σ) (g2 : x ≤ y → lE L f (p + 3) (lLs i) S σ) : lE L f p (lLs i) (.inl y :: .inl x :: S) σ := by
  by_cases hc : y < x
  · refine lE_go (fun call => (oStep_of h).trans (oIns5 (r := (t, lLs i, S)) rfl rfl rfl rfl ?_)) (g1 hc)
    show (if oTst .gt x y = true then oTo (lLs i) S (oJmp p o) else some (p + 3, lLs i, S)) = _
    rw [if_pos (by simpa [oTst] using hc), ht]
    rfl
  · refine lE_go (fun call => (oStep_of h).trans (oIns5 (r := (p + 3, lLs i, S)) rfl rfl rfl rfl ?_)) (g2 (by omega))
    show (if oTst .gt x y = true then oTo (lLs i) S (oJmp p o) else some (p + 3, lLs i, S)) = _
    rw [if_neg (by simpa [oTst] using hc)]
theorem lE_inc {n : Int} {j : Nat} (h : oFet 226 p = some (.iinc 3 n, 3)) (hj : oAdd (i : Int) n = (j : Int)) (g : lE L f (p + 3) (lLs j) S σ) : lE L f p (lLs i) S σ := by
  refine lE_go (fun call => (oStep_of h).trans (oIns2 (r := (p + 3, lLs j, S)) rfl ?_)) g
  show oStore 3 p (lLs i) S 3 (.inl (oAdd (i : Int) n)) = _
  rw [hj]
  rfl
theorem lE_one (h : oFet 226 p = some (.ireturn, 1)) (hr : (oMt 226).2.2.2.1 = some .boolean ∨ (oMt 226).2.2.2.1 = some .int) : lE L f p (lLs i) [.inl 1] σ := by
  refine lE_ret (fun call => (oStep_of h).trans (oIns10 ⟨rfl, rfl, rfl, rfl, rfl⟩ rfl rfl rfl rfl ?_))
  unfold oG10
  rw [if_pos (show (89 : Nat) ≤ 600000 ∧ (2141 : Nat) ≤ 7302249 from ⟨by decide, by decide⟩)]
  rcases hr with hr | hr
  · rw [hr]; rfl
  · rw [hr]; rfl
theorem lE_sw {w d : Int} {td n : Nat} {offs : Array Int} (h : oFet 226 p = some (.tableswitch d 0 36 offs, n)) (hd : oJmp p d = some td) (g1 : w < 0 ∨ 36 < w → lE L f td (lLs i) S σ) (g2 : ∀ j : Nat, w = (j : Int) → j < 37 → ∃ (o : Int) (t : Nat), offs[j]? = some o ∧ oJmp p o = some t ∧ lE L f t (lLs i) S σ) : lE L f p (lLs i) (.inl w :: S) σ := by
  by_cases hc : w < 0 ∨ 36 < w
  · refine lE_go (fun call => (oStep_of h).trans (oIns5 (r := (td, lLs i, S)) rfl rfl rfl rfl ?_)) (g1 hc)
    show (if w < 0 ∨ 36 < w then oTo (lLs i) S (oJmp p d) else match offs[(w - 0).toNat]? with
      | some off => oTo (lLs i) S (oJmp p off)
      | none => none) = _
    rw [if_pos hc, hd]
    rfl
  · obtain ⟨o, t, e1, e2, e3⟩ := g2 w.toNat (by omega) (by omega)
    refine lE_go (fun call => (oStep_of h).trans (oIns5 (r := (t, lLs i, S)) rfl rfl rfl rfl ?_)) e3
    show (if w < 0 ∨ 36 < w then oTo (lLs i) S (oJmp p d) else match offs[(w - 0).toNat]? with
      | some off => oTo (lLs i) S (oJmp p off)
      | none => none) = _
    rw [if_neg hc, Int.sub_zero, e1]
    show oTo (lLs i) S (oJmp p o) = _
    rw [e2]
    rfl
theorem oAdd_ik {k : Nat} (h : i + k < 2147483648) : oAdd (i : Int) (k : Int) = ((i + k : Nat) : Int) := by
  rw [nAdd (by omega) (by omega)]
  omega
/-- an int of the script -/
theorem lE_arg {k : Nat} (h1 : oFet 226 p = some (.aload_n 0, 1)) (h2 : oFet 226 (p + 1) = some (.iload_n 3, 1)) (h3 : oFet 226 (p + 2) = some (.iconst (k : Int), 1)) (h4 : oFet 226 (p + 3) = some (.iadd, 1)) (h5 : oFet 226 (p + 4) = some (.iaload, 1)) (hk : i + k < L) (hL : L ≤ 3072) (g : lE L f (p + 5) (lLs i) (.inl (f (i + k)) :: S) σ) : lE L f p (lLs i) S σ := by
  refine lE_a0 h1 (lE_i3 h2 (lE_k h3 (by omega) (lE_add h4 ?_)))
  rw [oAdd_ik (by omega)]
  exact lE_at h5 hk g
/-- a call -/
theorem lE_cv {i0 z n ci a : Nat} {as S' : List oV} {v : oV} {σ' : oSg} (hf : oFet 226 p = some (.invokevirtual i0, 3)) (hl : oLink 12 i0 = some (0, z)) (hz : (oMt z).2.2.2.2.1 = ci ∧ (oMt z).2.2.2.2.2.1 = n ∧ (oMt z).2.2.2.2.2.2.1 = false) (hd : S.drop n = .inr (.inr (.inl a)) :: S') (ht : (S.take n).length = n) (hk : oKd a = some ci) (hs : oSmall S' = true) (has : .inr (.inr (.inl a)) :: (S.take n).reverse = as) (hm : oMi 60 z as σ (some v) σ') (g : lE L f (p + 3) (lLs i) (v :: S') σ') : lE L f p (lLs i) S σ := by
  obtain ⟨ha, fs, he, hlen, hfs⟩ := oKd_spec hk
  obtain ⟨z1, z2, z3⟩ := hz
  refine lE_call (S' := S') (fun call => ?_) hm g
  rw [oStep_of hf, oIns9 (oNo5s rfl rfl rfl rfl rfl) rfl rfl rfl oG10_inv]
  rw [oG9_v, own_226, hl]
  show (match S.drop (oMt z).2.2.2.2.2.1 with
      | .inr (.inr (.inl a)) :: S' => match (oHb σ).2.2 a with
        | .inl (ci, _) => if a < (oHb σ).1 ∧ ci = (oMt z).2.2.2.2.1 ∧ (S.take (oMt z).2.2.2.2.2.1).length = (oMt z).2.2.2.2.2.1 ∧ oSmall S' = true ∧ (oMt z).2.2.2.2.2.2.1 = false then oBack (600000, 7302249) p (lLs i) S' (call z (.inr (.inr (.inl a)) :: (S.take (oMt z).2.2.2.2.2.1).reverse) (oHb σ)) else none
        | _ => none
      | _ => none) = _
  rw [z2, hd]
  dsimp only
  rw [oBld_obj he]
  dsimp only
  rw [if_pos ⟨ha, z1.symm, ht, hs, z3⟩, has]
end LST
/-! what a method answers is of its kind -/
section OEND
variable {call : oCall} {X : oXs} {lim : Nat × Nat} {y pc own : Nat} {L S : List oV} {h : oH} {q : Instr × Nat} {r : Option oV × oH} {ini : Bool}
theorem oPushH_ni {n : Nat} {v : Option oV} : oPushH n pc L S h v ≠ some (.inr r) := by
  unfold oPushH
  split <;> simp
theorem oGoH_ni {n : Nat} {v : Option (Nat → oC)} : oGoH n pc L S h v ≠ some (.inr r) := by
  unfold oGoH
  split <;> simp
theorem oMake_ni {n k : Nat} {c : oC} : oMake lim n pc L S h k c ≠ some (.inr r) := by
  unfold oMake
  split <;> simp
theorem oBack_ni {v : Option (Option oV × oH)} : oBack lim pc L S v ≠ some (.inr r) := by
  unfold oBack
  repeat' split
  all_goals simp
theorem oG6_ni : oG6 X own q pc L S h ≠ some (.inr r) := by
  unfold oG6
  repeat' split
  all_goals first
    | exact oPushH_ni
    | simp
theorem oG7_ni : oG7 own ini q pc L S h ≠ some (.inr r) := by
  unfold oG7
  repeat' split
  all_goals first
    | exact oGoH_ni
    | simp
theorem oG8_ni : oG8 lim own q pc L S h ≠ some (.inr r) := by
  unfold oG8
  repeat' split
  all_goals first
    | exact oMake_ni
    | simp
theorem oG9_ni : oG9 call lim own ini q pc L S h ≠ some (.inr r) := by
  unfold oG9
  repeat' split
  all_goals first
    | exact oBack_ni
    | exact oGoH_ni
    | simp
theorem oOfP_ni {v : Option oP} : oOfP h v ≠ some (.inr r) := by
  unfold oOfP
  split <;> simp
theorem oIns_end (hh : oIns call X lim y q pc L S h = some (.inr r)) : oG10 lim (oMt y).2.2.2.1 q S h = some r := by
  unfold oIns at hh
  simp only [Option.or_eq_some_iff] at hh
  rcases hh with hb | ⟨-, hh⟩
  · exact absurd hb oOfP_ni
  rcases hh with hb | ⟨-, hh⟩
  · exact absurd hb oOfP_ni
  rcases hh with hb | ⟨-, hh⟩
  · exact absurd hb oOfP_ni
  rcases hh with hb | ⟨-, hh⟩
  · exact absurd hb oOfP_ni
  rcases hh with hb | ⟨-, hh⟩
  · exact absurd hb oOfP_ni
  rcases hh with hb | ⟨-, hh⟩
  · exact absurd hb oG6_ni
  rcases hh with hb | ⟨-, hh⟩
  · exact absurd hb oG7_ni
  rcases hh with hb | ⟨-, hh⟩
  · exact absurd hb oG8_ni
  rcases hh with hb | ⟨-, hh⟩
  · exact absurd hb oG9_ni
  unfold oOfR at hh
  split at hh
  · next heq => rw [heq]; cases hh; rfl
  · cases hh
theorem oRun_end : ∀ {k pc : Nat} {L S : List oV} {h : oH}, oRun call X lim y k pc L S h = some r → ∃ (q : Instr × Nat) (S : List oV) (h : oH), oG10 lim (oMt y).2.2.2.1 q S h = some r := by
  intro k
  induction k with
  | zero => intro pc L S h hr; simp [oRun] at hr
  | succ k ih =>
    intro pc L S h hr
    unfold oRun at hr
    cases hs : oStep call X lim y pc L S h with
    | none => rw [hs] at hr; cases hr
    | some o =>
      rw [hs] at hr
      rcases o with ⟨pc1, L1, S1, h1⟩ | r1
      · exact ih hr
      · cases hr
        unfold oStep at hs
        split at hs
        · exact ⟨_, _, _, oIns_end hs⟩
        · cases hs
theorem oMi_end {d z : Nat} {as : List oV} {σ σ' : oSg} {v : oV} (h : oMi d z as σ (some v) σ') : ∃ (lim : Nat × Nat) (q : Instr × Nat) (S : List oV) (h0 h1 : oH), oG10 lim (oMt z).2.2.2.1 q S h0 = some (some v, h1) := by
  obtain ⟨n, hn⟩ := h
  cases d with
  | zero => simp [oExec] at hn
  | succ d =>
    unfold oExec at hn
    split at hn
    · next v1 h1 hrun =>
      split at hn
      · cases hn
        obtain ⟨q, S, h0, hg⟩ := oRun_end hrun
        exact ⟨_, q, S, h0, _, hg⟩
      · cases hn
    · cases hn
theorem oMi_int {d z : Nat} {as : List oV} {σ σ' : oSg} {v : oV} (h : oMi d z as σ (some v) σ') (hr : (oMt z).2.2.2.1 = some .boolean ∨ (oMt z).2.2.2.1 = some .int) : ∃ x : Int, v = .inl x := by
  obtain ⟨lim, q, S, h0, h1, hg⟩ := oMi_end h
  unfold oG10 at hg
  split at hg
  · split at hg
    · cases hg; exact ⟨_, rfl⟩
    · split at hg
      · cases hg; exact ⟨_, rfl⟩
      · cases hg
    · next he => rcases hr with hr | hr <;> rw [hr] at he <;> cases he
    · next he => rcases hr with hr | hr <;> rw [hr] at he <;> cases he
    · cases hg
    · cases hg
  · cases hg
theorem oMi_long {d z : Nat} {as : List oV} {σ σ' : oSg} {v : oV} (h : oMi d z as σ (some v) σ') (hr : (oMt z).2.2.2.1 = some .long) : ∃ x : Int, v = .inr (.inl x) := by
  obtain ⟨lim, q, S, h0, h1, hg⟩ := oMi_end h
  unfold oG10 at hg
  split at hg
  · split at hg
    · next he => rw [hr] at he; cases he
    · next he => rw [hr] at he; cases he
    · cases hg; exact ⟨_, rfl⟩
    · next he => rw [hr] at he; cases he
    · cases hg
    · cases hg
  · cases hg
end OEND

