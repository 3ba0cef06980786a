/-! the law: its loop -/
section LLO
variable {L : Nat} {f : Nat → Int}
theorem law_sw {i : Nat} {σ : oSg} {w : Int} (H : Inv σ) (hL : L ≤ 3072) (hi : i + 6 ≤ L) (hf : ∀ j, oI32 (f j)) (g : ∀ τ, Inv τ → lE L f 1260 (lLs i) [] τ) : lE L f 33 (lLs i) [.inl w] σ := by
  refine lE_sw f_226_33 (td := 1260) (by decide +kernel) (fun _ => g σ H) (fun j _ hj => ?_)
  match j, hj with
  | 0, _ => exact ⟨163, 196, rfl, by decide +kernel, law_person H hL hi hf g⟩
  | 1, _ => exact ⟨176, 209, rfl, by decide +kernel, law_weigh H hL hi hf g⟩
  | 2, _ => exact ⟨219, 252, rfl, by decide +kernel, law_of H hL hi hf g⟩
  | 3, _ => exact ⟨252, 285, rfl, by decide +kernel, law_pair H hL hi hf g⟩
  | 4, _ => exact ⟨285, 318, rfl, by decide +kernel, law_alone H hL hi hf g⟩
  | 5, _ => exact ⟨308, 341, rfl, by decide +kernel, law_take H hL hi hf g⟩
  | 6, _ => exact ⟨331, 364, rfl, by decide +kernel, law_mend H hL hi hf g⟩
  | 7, _ => exact ⟨354, 387, rfl, by decide +kernel, law_partner H hL hi hf g⟩
  | 8, _ => exact ⟨377, 410, rfl, by decide +kernel, law_feed H hL hi hf g⟩
  | 9, _ => exact ⟨400, 433, rfl, by decide +kernel, law_read H hL hi hf g⟩
  | 10, _ => exact ⟨413, 446, rfl, by decide +kernel, law_way H hL hi hf g⟩
  | 11, _ => exact ⟨436, 469, rfl, by decide +kernel, law_flower H hL hi hf g⟩
  | 12, _ => exact ⟨469, 502, rfl, by decide +kernel, law_shrunk H hL hi hf g⟩
  | 13, _ => exact ⟨482, 515, rfl, by decide +kernel, law_best H hL hi hf g⟩
  | 14, _ => exact ⟨515, 548, rfl, by decide +kernel, law_told H hL hi hf g⟩
  | 15, _ => exact ⟨538, 571, rfl, by decide +kernel, law_parts H hL hi hf g⟩
  | 16, _ => exact ⟨561, 594, rfl, by decide +kernel, law_loss H hL hi hf g⟩
  | 17, _ => exact ⟨584, 617, rfl, by decide +kernel, law_halves H hL hi hf g⟩
  | 18, _ => exact ⟨617, 650, rfl, by decide +kernel, law_odd H hL hi hf g⟩
  | 19, _ => exact ⟨650, 683, rfl, by decide +kernel, law_bear H hL hi hf g⟩
  | 20, _ => exact ⟨663, 696, rfl, by decide +kernel, law_proof H hL hi hf g⟩
  | 21, _ => exact ⟨686, 719, rfl, by decide +kernel, law_see H hL hi hf g⟩
  | 22, _ => exact ⟨719, 752, rfl, by decide +kernel, law_fits H hL hi hf g⟩
  | 23, _ => exact ⟨762, 795, rfl, by decide +kernel, law_odds H hL hi hf g⟩
  | 24, _ => exact ⟨806, 839, rfl, by decide +kernel, law_mean H hL hi hf g⟩
  | 25, _ => exact ⟨830, 863, rfl, by decide +kernel, law_event H hL hi hf g⟩
  | 26, _ => exact ⟨863, 896, rfl, by decide +kernel, law_after H hL hi hf g⟩
  | 27, _ => exact ⟨886, 919, rfl, by decide +kernel, law_book H hL hi hf g⟩
  | 28, _ => exact ⟨919, 952, rfl, by decide +kernel, law_looked H hL hi hf g⟩
  | 29, _ => exact ⟨932, 965, rfl, by decide +kernel, law_judge H hL hi hf g⟩
  | 30, _ => exact ⟨965, 998, rfl, by decide +kernel, law_image H hL hi hf g⟩
  | 31, _ => exact ⟨978, 1011, rfl, by decide +kernel, law_undo H hL hi hf g⟩
  | 32, _ => exact ⟨991, 1024, rfl, by decide +kernel, law_count H hL hi hf g⟩
  | 33, _ => exact ⟨1014, 1047, rfl, by decide +kernel, law_tape H hL hi hf g⟩
  | 34, _ => exact ⟨1057, 1090, rfl, by decide +kernel, law_item H hL hi hf g⟩
  | 35, _ => exact ⟨1130, 1163, rfl, by decide +kernel, law_peek H hL hi hf g⟩
  | 36, _ => exact ⟨1164, 1197, rfl, by decide +kernel, law_shift H hL hi hf g⟩
  | j + 37, hj => exact absurd hj (by omega)
theorem law_loop (hL : L ≤ 3072) (hf : ∀ j, oI32 (f j)) : ∀ (n i : Nat) (σ : oSg), L + 6 - i ≤ n → i ≤ L + 6 → Inv σ → lE L f 18 (lLs i) [] σ := by
  intro n
  induction n with
  | zero => 
    intro i σ hn hi6 H
    have : i = L + 6 := by omega
    refine lE_i3 f_226_18 (lE_a0 f_226_19 (lE_len f_226_20 hL (lE_b f_226_21 (by decide) (lE_sub f_226_23 ?_))))
    rw [nSub (by omega) (by omega)]
    refine lE_gtr f_226_24 (t := 1266) (by decide +kernel) (fun _ => ?_) (fun h => by omega)
    exact lE_k f_226_1266 (by decide) (lE_one f_226_1267 (by decide +kernel))
  | succ n ih =>
    intro i σ hn hi6 H
    refine lE_i3 f_226_18 (lE_a0 f_226_19 (lE_len f_226_20 hL (lE_b f_226_21 (by decide) (lE_sub f_226_23 ?_))))
    rw [nSub (by omega) (by omega)]
    refine lE_gtr f_226_24 (t := 1266) (by decide +kernel) (fun _ => ?_) (fun h => ?_)
    · exact lE_k f_226_1266 (by decide) (lE_one f_226_1267 (by decide +kernel))
    refine lE_a0 f_226_27 (lE_i3 f_226_28 (lE_at f_226_29 (by omega) (lE_b f_226_30 (by decide) (lE_and f_226_32 ?_))))
    refine law_sw H hL (by omega) hf (fun τ hτ => ?_)
    refine lE_inc (j := i + 6) f_226_1260 ?_ ?_
    · rw [nAdd (by omega) (by omega)]; omega
    refine lE_gt f_226_1263 (t := 18) (by decide +kernel) ?_
    exact ih (i + 6) τ (by omega) (by omega) hτ
end LLO

