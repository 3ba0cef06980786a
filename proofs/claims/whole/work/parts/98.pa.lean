/-! the law: its own judgement -/
/-- from here the law's body ends with 1 -/
def lE (L : Nat) (f : Nat → Int) (pc : Nat) (Ls S : List oV) (σ : oSg) : Prop := ∃ (n k : Nat) (h' : oH), oRun (oExec n 60) (L + 1, f) (600000, 7302249) 226 k pc Ls S (oHb σ) = some (some (.inl 1), h')
section LAW
variable {L : Nat} {f : Nat → Int} {pc : Nat} {Ls S : List oV} {σ : oSg}
theorem lE_go {pc' : Nat} {L' S' : List oV} {σ' : oSg} (h : ∀ call : oCall, oStep call (L + 1, f) (600000, 7302249) 226 pc Ls S (oHb σ) = some (.inl (pc', L', S', oHb σ'))) (g : lE L f pc' L' S' σ') : lE L f pc Ls S σ := by
  obtain ⟨n, k, h', hr⟩ := g
  refine ⟨n, k + 1, h', ?_⟩
  unfold oRun
  rw [h]
  exact hr
theorem lE_ret (h : ∀ call : oCall, oStep call (L + 1, f) (600000, 7302249) 226 pc Ls S (oHb σ) = some (.inr (some (.inl 1), oHb σ))) : lE L f pc Ls S σ := by
  refine ⟨0, 1, oHb σ, ?_⟩
  unfold oRun
  rw [h]
theorem lE_call {z : Nat} {as S' : List oV} {v : oV} {σ' : oSg} (h : ∀ call : oCall, oStep call (L + 1, f) (600000, 7302249) 226 pc Ls S (oHb σ) = oBack (600000, 7302249) pc Ls S' (call z as (oHb σ))) (hm : oMi 60 z as σ (some v) σ') (g : lE L f (pc + 3) Ls (v :: S') σ') : lE L f pc Ls S σ := by
  obtain ⟨n0, hm⟩ := hm
  obtain ⟨n, k, h', hr⟩ := g
  have hr2 := oRun_mono (call' := oExec (max n n0) 60) (fun z as h r => oExec_mono (Nat.le_max_left n n0)) (Nat.le_refl k) hr
  have hb : oStep (oExec (max n n0) 60) (L + 1, f) (600000, 7302249) 226 pc Ls S (oHb σ) = some (.inl (pc + 3, Ls, v :: S', oHb σ')) := by
    rw [h, oExec_mono (Nat.le_max_right n n0) hm]
    exact (if_pos (show (89 : Nat) ≤ 600000 ∧ (2141 : Nat) ≤ 7302249 from ⟨by decide, by decide⟩) : (if (89 : Nat) ≤ 600000 ∧ (2141 : Nat) ≤ 7302249 then (some (Sum.inl (pc + 3, Ls, v :: S', oHb σ')) : Option oR) else none) = some (Sum.inl (pc + 3, Ls, v :: S', oHb σ')))
  refine ⟨max n n0, k + 1, h', ?_⟩
  unfold oRun
  rw [hb]
  exact hr2
end LAW

