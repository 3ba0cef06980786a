/-! read: the clauses found, both sides -/
def fFr (σ υ : oSg) : Prop := υ.2 = σ.2 ∧ ∀ q j, ¬ (q = 35 ∧ (j = 1 ∨ j = 2)) → ¬ (39 ≤ q ∧ q ≤ 50) → υ.1 q j = σ.1 q j
theorem fFr_t {σ τ υ : oSg} (h : fFr σ τ) (g : fFr τ υ) : fFr σ υ := ⟨g.1.trans h.1, fun q j a b => (g.2 q j a b).trans (h.2 q j a b)⟩
theorem fFr_c {σ τ : oSg} {c : Nat} (hc : 39 ≤ c ∧ c ≤ 50) (h : cFr c σ τ) : fFr σ τ := ⟨h.1, fun q j a b => h.2 q j (by omega) (by omega)⟩
theorem fFr_1 (σ : oSg) (v : Int) : fFr σ (oSF σ 35 1 v) := ⟨rfl, fun q j a _ => oSF_o _ _ (by omega)⟩
theorem fFr_2 (σ : oSg) (v : Int) : fFr σ (oSF σ 35 2 v) := ⟨rfl, fun q j a _ => oSF_o _ _ (by omega)⟩
theorem Tx_f {T : Nat → Int} {s : Nat} {σ τ : oSg} (h : fFr σ τ) (H : Tx T s σ) : Tx T s τ := by
  unfold Tx
  rw [h.1, h.2 35 0 (by omega) (by omega)]
  exact H
theorem cOk_e {T : Nat → Int} {x c : Nat} {σ τ : oSg} (h : ∀ j, τ.1 c j = σ.1 c j) (H : cOk T x σ c) : cOk T x τ c := by
  unfold cOk
  rw [h 0, h 1, h 2, h 3]
  exact H
/-- the clauses so far -/
def cAll (T : Nat → Int) (σ τ : oSg) (n : Nat) : Prop := ∀ i, i < n → ∃ x : Nat, τ.2 73 i = x ∧ zOk T x ∧ cOk T x σ (39 + i)
theorem fl_T : ∀ (m j k s : Nat) (σ τ : oSg), j + m = 12 → 0 < m → Tx (aT τ) s σ → τ.1 68 6 = s → k ≤ s → σ.1 35 2 = k → σ.1 35 1 = j → cAll (aT τ) σ τ j → (xFl m j σ).1 = (zFo m k j τ).1 ∧ fFr σ (xFl m j σ).2 ∧ ((zFo m k j τ).1 = -1 → ∃ C : Nat, C ≤ 12 ∧ (xFl m j σ).2.1 35 1 = C ∧ (zFo m k j τ).2.1 68 7 = C ∧ cAll (aT τ) (xFl m j σ).2 (zFo m k j τ).2 C)
  | 0, _, _, _, _, _, _, h, _, _, _, _, _, _ => absurd h (Nat.lt_irrefl 0)
  | m + 1, j, k, s, σ, τ, hj, _, H, h6, hks, hk, h1, hA => by
    have e1 : xFl (m + 1) j σ = if (xCla σ (39 + j)).1 = 0 then ((xCla σ (39 + j)).2.1 35 2, (xCla σ (39 + j)).2)
      else if (xCla σ (39 + j)).2.1 35 0 ≤ (xCla σ (39 + j)).2.1 35 2 then (-1, oSF (xCla σ (39 + j)).2 35 1 ((j : Int) + 1))
      else if ¬ vAhd (oSF (xCla σ (39 + j)).2 35 1 ((j : Int) + 1)) = 59 ∨ (j : Int) + 1 = 12 then ((xCla σ (39 + j)).2.1 35 2, oSF (xCla σ (39 + j)).2 35 1 ((j : Int) + 1))
      else xFl m (j + 1) (oSF (oSF (xCla σ (39 + j)).2 35 1 ((j : Int) + 1)) 35 2 ((xCla σ (39 + j)).2.1 35 2 + 1)) := rfl
    have e2 : zFo (m + 1) k j τ = if ¬ zK (aT τ k) then ((k : Int), τ) else if (zGo (aT τ) k).1 = 0 then (((zGo (aT τ) k).2 : Int), oSA τ 73 j k) else if ((zGo (aT τ) k).2 : Int) = τ.1 68 6 then (-1, oSF (oSA τ 73 j k) 68 7 ((j : Int) + 1)) else if j + 1 = 12 ∨ ¬ aT τ (zGo (aT τ) k).2 = 59 then (((zGo (aT τ) k).2 : Int), oSA τ 73 j k) else zFo m ((zGo (aT τ) k).2 + 1) (j + 1) (oSA τ 73 j k) := rfl
    obtain ⟨f, c1, c2⟩ := cla_T (c := 39 + j) (by omega) (by omega) H hk
    have ff : fFr σ (xCla σ (39 + j)).2 := fFr_c (by omega) f
    have HX : Tx (aT τ) s (xCla σ (39 + j)).2 := Tx_f ff H
    rw [e1, e2]
    generalize xCla σ (39 + j) = X at *
    by_cases K : zK (aT τ k)
    · obtain ⟨d1, d2, d3⟩ := c2 K
      have hT : ∀ i : Nat, 0 ≤ aT τ i → (i : Int) < (s : Int) := fun i hi => by
        rcases Nat.lt_or_ge i s with z | z
        · omega
        · have := H.2.2.2 i z
          omega
      have gl := zGo_le hT (k := k) (hT k (zK_0 K))
      rw [if_neg (not_not_intro K)]
      by_cases g0 : (zGo (aT τ) k).1 = 0
      · rw [if_pos (d1.mpr g0), if_pos g0]
        refine ⟨d2, ff, fun z => ?_⟩
        have z' : ((zGo (aT τ) k).2 : Int) = -1 := z
        omega
      · rw [if_neg (fun z => g0 (d1.mp z)), if_neg g0, HX.1, d2, h6]
        have ok := zGo_ok K g0
        -- the clauses with this one
        have hA' : ∀ υ : oSg, (∀ q i, ¬ q = 35 → υ.1 q i = X.2.1 q i) → ∀ φ : oSg, φ.2 73 = (oSA τ 73 j (k : Int)).2 73 → cAll (aT τ) υ φ (j + 1) := fun υ hυ φ hφ i hi => by
          rw [hφ]
          by_cases ij : i = j
          · rw [ij, oSA_s]
            exact ⟨k, rfl, ok, cOk_e (fun q => hυ _ q (by omega)) (d3 g0)⟩
          · rw [oSA_i _ _ ij]
            obtain ⟨x, x1, x2, x3⟩ := hA i (by omega)
            exact ⟨x, x1, x2, cOk_e (fun q => (hυ _ q (by omega)).trans (f.2 _ q (by omega) (by omega))) x3⟩
        have o1 : ∀ q i, ¬ q = 35 → (oSF X.2 35 1 ((j : Int) + 1)).1 q i = X.2.1 q i := fun q i hq => oSF_o _ _ (by omega)
        by_cases gs : ((zGo (aT τ) k).2 : Int) = (s : Int)
        · rw [if_pos (by omega), if_pos gs]
          refine ⟨rfl, fFr_t ff (fFr_1 _ _), fun _ => ⟨j + 1, by omega, ?_, ?_, hA' _ o1 _ rfl⟩⟩
          · show (oSF X.2 35 1 ((j : Int) + 1)).1 35 1 = _
            rw [oSF_s]
            omega
          · show (oSF (oSA τ 73 j (k : Int)) 68 7 ((j : Int) + 1)).1 68 7 = _
            rw [oSF_s]
            omega
        · rw [if_neg (by omega), if_neg gs]
          have va : vAhd (oSF X.2 35 1 ((j : Int) + 1)) = aT τ (zGo (aT τ) k).2 := ahd_T (Tx_f (fFr_1 _ _) HX) (by rw [oSF_o _ _ (by omega)]; exact d2)
          rw [va]
          by_cases g9 : j + 1 = 12 ∨ ¬ aT τ (zGo (aT τ) k).2 = 59
          · rw [if_pos (by omega), if_pos g9]
            refine ⟨rfl, fFr_t ff (fFr_1 _ _), fun z => ?_⟩
            have z' : ((zGo (aT τ) k).2 : Int) = -1 := z
            omega
          · rw [if_neg (by omega), if_neg g9]
            have eT := aT_73 τ j (k : Int)
            have fin : fFr σ (oSF (oSF X.2 35 1 ((j : Int) + 1)) 35 2 (((zGo (aT τ) k).2 : Int) + 1)) := fFr_t ff (fFr_t (fFr_1 _ _) (fFr_2 _ _))
            have ih := fl_T m (j + 1) ((zGo (aT τ) k).2 + 1) s (oSF (oSF X.2 35 1 ((j : Int) + 1)) 35 2 (((zGo (aT τ) k).2 : Int) + 1)) (oSA τ 73 j (k : Int)) (by omega) (by omega) (by rw [eT]; exact Tx_f fin H) h6 (by omega) (by rw [oSF_s]; omega) (by rw [oSF_o _ _ (by omega), oSF_s]; omega) (by
              rw [eT]
              exact hA' _ (fun q i hq => by rw [oSF_o _ _ (by omega)]; exact o1 q i hq) _ rfl)
            rw [eT] at ih
            exact ⟨ih.1, fFr_t fin ih.2.1, ih.2.2⟩
    · obtain ⟨d1, d2⟩ := c1 K
      rw [if_pos K, if_pos d1]
      refine ⟨d2, ff, fun z => ?_⟩
      have z' : (k : Int) = -1 := z
      omega

