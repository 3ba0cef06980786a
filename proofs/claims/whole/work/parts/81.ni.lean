/-! calls: tapes -/
theorem Inv_p {σ τ : oSg} (H : Inv σ) (e1 : τ.1 = σ.1) (e : ∀ q, q ≤ 51 ∨ (55 ≤ q ∧ q ≤ 78) → τ.2 q = σ.2 q) (hP : IP τ) : Inv τ := ⟨IA_g (fun q _ => by rw [e1]) (fun q hq => e q (by omega)) (fun k _ => by rw [e 69 (by omega)]) H.1, IK_g (by rw [e1]) (fun q _ _ => by rw [e1]) (fun q h1 h2 => e q (by omega)) (e 70 (by omega)) (by rw [e1]) H.2.1, IT_g (by rw [e1]) (by rw [e1]) (e 36 (by omega)) (e 72 (by omega)) H.2.2.1, hP⟩
section TAP
variable {σ : oSg}
theorem tp_so (H : IP σ) {t : Int} (h : yT t) : vSo σ t = σ.2 79 t.toNat := by
  unfold vSo
  rw [if_pos (by omega)]
  exact (H t.toNat (by omega)).1
theorem tp_si (H : IP σ) {t : Int} (h : yT t) : vSi σ t = σ.2 80 t.toNat := by
  unfold vSi
  rw [if_pos (by omega)]
  exact (H t.toNat (by omega)).2.1
theorem tp_bd (H : IP σ) (t : Int) : 0 ≤ vSi σ t ∧ vSi σ t ≤ 60 := by
  unfold vSi
  by_cases c : 0 ≤ t ∧ t < 6
  · rw [if_pos c]
    exact (H t.toNat (by omega)).2.2.1
  · rw [if_neg c]
    omega
theorem tp_80 (H : IP σ) : ∀ k : Nat, k < 6 → 0 ≤ σ.2 80 k ∧ σ.2 80 k ≤ 60 := fun k hk => by
  obtain ⟨-, h2, h3, -⟩ := H k hk
  omega
theorem tp_in (H : IP σ) {t i : Int} (h : yT t) (i0 : 0 ≤ i) (i1 : i < σ.2 80 t.toNat) : σ.2 54 (t * 60 + i).toNat = σ.2 (82 + t.toNat) i.toNat := by
  obtain ⟨-, h2, -, -, -, h6⟩ := H t.toNat (by omega)
  have := h6 i.toNat (by omega)
  rw [show (t * 60 + i).toNat = t.toNat * 60 + i.toNat from by omega]
  exact this
end TAP
theorem c_peek {σ : oSg} (H : Inv σ) {d : Nat} (hd : 20 ≤ d) (t i : Int) : Both d 138 224 [.inl t, .inl i] σ := by
  have HP := H.2.2.2
  have x := m_X_peek (d := d) (σ := σ) (t := t) (i := i) (tp_bd HP t) (by omega)
  have y := m_M_peek (d := d) (σ := σ) (t := t) (i := i) (tp_80 HP) (by omega)
  refine Both_j x y ?_ H
  unfold xPeek yPeek
  by_cases c : yT t
  · have s := tp_si HP c
    by_cases g : 0 ≤ i ∧ i ≤ σ.2 80 t.toNat - 1
    · rw [if_neg (show ¬ (i < 0 ∨ vSi σ t ≤ i) by omega), if_pos (show nRun1 σ t i 1 from ⟨by decide, g.1, by rw [s]; omega, by rw [s]; omega⟩), if_pos (show yT t ∧ 0 ≤ i ∧ i ≤ σ.2 80 t.toNat - 1 from ⟨c, g⟩)]
      exact tp_in HP c g.1 (by omega)
    · rw [if_pos (show i < 0 ∨ vSi σ t ≤ i by omega), if_neg (fun z => g z.2)]
  · have s : vSi σ t = 0 := by unfold vSi; rw [if_neg (by omega)]
    rw [if_pos (show i < 0 ∨ vSi σ t ≤ i by omega), if_neg (fun z => c z.1)]
theorem c_judge {σ : oSg} (H : Inv σ) {d : Nat} (hd : 20 ≤ d) (t i : Int) (hi : oI32 i) : Both d 119 216 [.inl t, .inl i] σ := by
  have HA := H.1
  have HP := H.2.2.2
  have x := m_X_judge (d := d) (σ := σ) (t := t) (i := i) (vw_0 HA) (vw_7 HA) (tp_bd HP t) (by omega)
  have y := m_M_judge (d := d) (σ := σ) (t := t) (i := i) HA.2.1.1 HA.2.1.2 (tp_80 HP) hi.2 (by omega)
  refine Both_i x y ?_ H
  unfold xJudge yJudge
  by_cases c : yT t
  · have s := tp_si HP c
    have so := tp_so HP c
    obtain ⟨h1, h2, h3, h4, h5, h6⟩ := HP t.toNat (by omega)
    rw [if_neg (show ¬ ¬ (0 ≤ t ∧ t < 6) by omega), if_neg (show ¬ ¬ yT t from not_not_intro c), so, vw_n HA]
    by_cases g : ¬ σ.2 79 t.toNat = -1 ∧ ¬ σ.2 79 t.toNat = 3
    · rw [if_pos g, if_pos g]
    · rw [if_neg g, if_neg g]
      have key : ∀ m p : Nat, xJl σ t i m p = yJl σ t i m p := by
        intro m
        induction m with
        | zero => intro p; rfl
        | succ m ih =>
          intro p
          have a1 : xJl σ t i (m + 1) p = if i < 0 ∨ vSi σ t - p ≤ i then 100 + (p : Int) else if ¬ (if nRun1 σ t (i + p) 1 then σ.2 54 (t * 60 + (i + p)).toNat else 0) = nM (σ.2 4) p then (p : Int) else xJl σ t i m (p + 1) := rfl
          have a2 : yJl σ t i (m + 1) p = if σ.2 79 t.toNat = -1 ∨ i < 0 ∨ ¬ (p : Int) < σ.2 80 t.toNat - i then 100 + (p : Int) else if ¬ σ.2 (82 + t.toNat) (i + p).toNat = nM (gM (σ.2 69)) p then (p : Int) else yJl σ t i m (p + 1) := rfl
          rw [a1, a2, ih (p + 1), vw_M HA]
          by_cases e : i < 0 ∨ vSi σ t - p ≤ i
          · rw [if_pos e, if_pos (show σ.2 79 t.toNat = -1 ∨ i < 0 ∨ ¬ (p : Int) < σ.2 80 t.toNat - i by omega)]
          · have ns : ¬ σ.2 79 t.toNat = -1 := by
              intro z
              have := h5 (by rw [h1]; exact z)
              omega
            rw [if_neg e, if_neg (show ¬ (σ.2 79 t.toNat = -1 ∨ i < 0 ∨ ¬ (p : Int) < σ.2 80 t.toNat - i) by omega), if_pos (show nRun1 σ t (i + p) 1 from ⟨by decide, by omega, by rw [s]; omega, by rw [s]; omega⟩), tp_in HP c (by omega) (by omega)]
      exact key _ 0
  · rw [if_pos (show ¬ (0 ≤ t ∧ t < 6) by omega), if_pos c]
theorem vItem_low (s v : Int) (h : -1 ≤ s ∧ s ≤ 4) (h2 : ¬ s = -1) : vItem s v = vLow s v := by
  unfold vItem vLow
  by_cases h0 : s = 0
  · rw [if_pos h0, if_pos h0]
  · rw [if_neg h0, if_neg h0]
    by_cases h1 : s = 1
    · rw [if_pos h1, if_pos h1]
    · rw [if_neg h1, if_neg h1]
      by_cases h3 : s = 2
      · rw [if_pos h3, if_pos h3]
      · rw [if_neg h3, if_neg h3]
        by_cases h4 : s = 3
        · rw [if_neg (by omega), if_pos h4]
        · rw [if_pos (by omega), if_neg h4]
theorem c_item {σ : oSg} (H : Inv σ) {d : Nat} (hd : 20 ≤ d) (t i w : Int) : Both d 135 222 [.inl t, .inl i, .inr (.inl w)] σ := by
  have HP := H.2.2.2
  have x := m_X_item (d := d) (σ := σ) (t := t) (i := i) (w := w) (tp_bd HP t) (by omega)
  have y0 := m_M_item (d := d) (σ := σ) (t := t) (i := i) (w := w) (tp_80 HP) (by omega)
  unfold xItem at x
  unfold yItem at y0
  by_cases c : yT t
  · have s := tp_si HP c
    have so := tp_so HP c
    obtain ⟨h1, h2, h3, h4, h5, h6⟩ := HP t.toNat (by omega)
    rw [if_neg (by omega), so] at x
    rw [if_neg (by omega)] at y0
    by_cases g : σ.2 79 t.toNat = -1
    · rw [if_pos g] at x y0
      exact Both_i x y0 rfl H
    · rw [if_neg g] at x
      rw [if_neg g] at y0
      by_cases e : 0 ≤ i ∧ i ≤ σ.2 80 t.toNat - 1
      · rw [if_neg (show ¬ (i < 0 ∨ vSi σ t ≤ i) by omega), if_pos (show nRun1 σ t i 1 from ⟨by decide, e.1, by rw [s]; omega, by rw [s]; omega⟩), vItem_low _ _ (by rw [← h1]; exact h4) g] at x
        have y := m_M_item (d := d) (σ := oSA σ 54 (t * 60 + i).toNat (vLow (σ.2 79 t.toNat) w)) (t := t) (i := i) (w := w) (by rw [oSA_ne _ _ _ (show ¬ 80 = 54 by decide)]; exact tp_80 HP) (by omega)
        unfold yItem at y
        have q79 : (oSA σ 54 (t * 60 + i).toNat (vLow (σ.2 79 t.toNat) w)).2 79 = σ.2 79 := oSA_ne _ _ _ (by decide)
        have q80 : (oSA σ 54 (t * 60 + i).toNat (vLow (σ.2 79 t.toNat) w)).2 80 = σ.2 80 := oSA_ne _ _ _ (by decide)
        rw [if_neg (by omega), q79, if_neg g, q80, if_neg (not_not_intro e)] at y
        refine Both_i x y rfl (Inv_p H rfl (fun q hq => by rw [oSA_ne _ _ _ (by omega), oSA_ne _ _ _ (by omega)]) ?_)
        generalize vLow (σ.2 79 t.toNat) w = z
        intro u hu
        obtain ⟨g1, g2, g3, g4, g5, g6⟩ := HP u hu
        have f : ∀ q, ¬ q = 82 + t.toNat → ¬ q = 54 → (oSA (oSA σ 54 (t * 60 + i).toNat z) (82 + t.toNat) i.toNat z).2 q = σ.2 q := fun q h1 h2 => by rw [oSA_ne _ _ _ h1, oSA_ne _ _ _ h2]
        show (oSA (oSA σ 54 (t * 60 + i).toNat z) (82 + t.toNat) i.toNat z).2 52 u = _ ∧ _
        rw [f 52 (by omega) (by omega), f 53 (by omega) (by omega), f 79 (by omega) (by omega), f 80 (by omega) (by omega)]
        refine ⟨g1, g2, g3, g4, g5, fun k hk => ?_⟩
        rw [oSA_ne _ _ _ (show ¬ 54 = 82 + t.toNat by omega)]
        by_cases c1 : u = t.toNat
        · by_cases c2 : k = i.toNat
          · rw [c1, c2, oSA_s, show t.toNat * 60 + i.toNat = (t * 60 + i).toNat from by omega, oSA_s]
          · rw [oSA_i _ _ (by omega), c1, oSA_i _ _ c2, oSA_ne _ _ _ (by omega), ← c1]
            exact g6 k hk
        · rw [oSA_i _ _ (by omega), oSA_ne _ _ _ (by omega), oSA_ne _ _ _ (by omega)]
          exact g6 k hk
      · rw [if_pos (show i < 0 ∨ vSi σ t ≤ i by omega)] at x
        rw [if_pos e] at y0
        exact Both_i x y0 rfl H
  · rw [if_pos (by omega)] at x
    rw [if_pos c] at y0
    exact Both_i x y0 rfl H
theorem sFilR_at (σ : oSg) (b f q : Nat) (v : Int) (j : Nat) : (sFilR σ b f q v).2 b j = if f ≤ j ∧ j < f + q then v else σ.2 b j := congrFun (oSW_at σ b _) j
theorem c_tape {σ : oSg} (H : Inv σ) {d : Nat} (hd : 20 ≤ d) (t s n : Int) : Both d 131 221 [.inl t, .inl s, .inl n] σ := by
  have HP := H.2.2.2
  have x := m_X_tape (d := d) (σ := σ) (t := t) (s := s) (n := n) (by omega)
  have y0 := m_M_tape (d := d) (σ := σ) (t := t) (s := s) (n := n) (by omega)
  unfold xTape at x
  unfold yTape at y0
  have fin : ∀ m : Int, yT t → 0 ≤ m → m ≤ 60 → (-1 ≤ s ∧ s ≤ 4) → (s = -1 → m = 0) → Inv (sTm (sFilR (oSA (oSA σ 52 t.toNat s) 53 t.toNat m) 54 (t * 60).toNat (t * 60 + m - t * 60).toNat 0) t.toNat s m 60) := by
    intro m c m0 m60 hs hm
    obtain ⟨T, hT⟩ : ∃ T : Nat, t = T := ⟨t.toNat, by omega⟩
    subst hT
    rw [Int.toNat_natCast, show ((T : Int) * 60).toNat = T * 60 from by omega, show ((T : Int) * 60 + m - (T : Int) * 60).toNat = m.toNat from by omega]
    generalize hυ : sTm (sFilR (oSA (oSA σ 52 T s) 53 T m) 54 (T * 60) m.toNat 0) T s m 60 = υ
    have r : ∀ q, ¬ q = 52 → ¬ q = 53 → ¬ q = 54 → ¬ q = 79 → ¬ q = 80 → ¬ q = 82 + T → υ.2 q = σ.2 q := fun q h1 h2 h3 h4 h5 h6 => by
      rw [← hυ]
      unfold sTm
      rw [oSW_ne _ h6, oSA_ne _ _ _ h5, oSA_ne _ _ _ h4]
      unfold sFilR
      rw [oSW_ne _ h3, oSA_ne _ _ _ h2, oSA_ne _ _ _ h1]
    have r52 : ∀ u, υ.2 52 u = if u = T then s else σ.2 52 u := fun u => by
      rw [← hυ]
      unfold sTm
      rw [oSW_ne _ (by omega), oSA_ne _ _ _ (by decide), oSA_ne _ _ _ (by decide)]
      unfold sFilR
      rw [oSW_ne _ (by decide), oSA_ne _ _ _ (by decide)]
      by_cases z : u = T
      · rw [if_pos z, z, oSA_s]
      · rw [if_neg z, oSA_i _ _ z]
    have r53 : ∀ u, υ.2 53 u = if u = T then m else σ.2 53 u := fun u => by
      rw [← hυ]
      unfold sTm
      rw [oSW_ne _ (by omega), oSA_ne _ _ _ (by decide), oSA_ne _ _ _ (by decide)]
      unfold sFilR
      rw [oSW_ne _ (by decide)]
      by_cases z : u = T
      · rw [if_pos z, z, oSA_s]
      · rw [if_neg z, oSA_i _ _ z, oSA_ne _ _ _ (by decide)]
    have r54 : ∀ j, υ.2 54 j = if T * 60 ≤ j ∧ j < T * 60 + m.toNat then 0 else σ.2 54 j := fun j => by
      rw [← hυ]
      unfold sTm
      rw [oSW_ne _ (by omega), oSA_ne _ _ _ (by decide), oSA_ne _ _ _ (by decide), sFilR_at, oSA_ne _ _ _ (by decide), oSA_ne _ _ _ (by decide)]
    have r79 : ∀ u, υ.2 79 u = if u = T then s else σ.2 79 u := fun u => by
      have e : (sFilR (oSA (oSA σ 52 T s) 53 T m) 54 (T * 60) m.toNat 0).2 79 = σ.2 79 := by
        unfold sFilR
        rw [oSW_ne _ (by decide), oSA_ne _ _ _ (by decide), oSA_ne _ _ _ (by decide)]
      rw [← hυ]
      unfold sTm
      rw [oSW_ne _ (by omega), oSA_ne _ _ _ (by decide)]
      by_cases z : u = T
      · rw [if_pos z, z, oSA_s]
      · rw [if_neg z, oSA_i _ _ z, e]
    have r80 : ∀ u, υ.2 80 u = if u = T then m else σ.2 80 u := fun u => by
      have e : (sFilR (oSA (oSA σ 52 T s) 53 T m) 54 (T * 60) m.toNat 0).2 80 = σ.2 80 := by
        unfold sFilR
        rw [oSW_ne _ (by decide), oSA_ne _ _ _ (by decide), oSA_ne _ _ _ (by decide)]
      rw [← hυ]
      unfold sTm
      rw [oSW_ne _ (by omega)]
      by_cases z : u = T
      · rw [if_pos z, z, oSA_s]
      · rw [if_neg z, oSA_i _ _ z, oSA_ne _ _ _ (by decide), e]
    have rT : ∀ k, k < 60 → υ.2 (82 + T) k = 0 := fun k hk => by
      rw [← hυ]
      unfold sTm
      rw [oSW_at, if_pos hk]
    have f1 : υ.1 = σ.1 := by rw [← hυ]; rfl
    refine Inv_p H f1 (fun q hq => r q (by omega) (by omega) (by omega) (by omega) (by omega) (by omega)) ?_
    intro u hu
    obtain ⟨g1, g2, g3, g4, g5, g6⟩ := HP u hu
    rw [r52, r53, r79, r80]
    by_cases z : u = T
    · rw [if_pos z, if_pos z, if_pos z, if_pos z]
      refine ⟨rfl, rfl, ⟨m0, m60⟩, hs, hm, fun k hk => ?_⟩
      rw [r54, if_pos (by omega), z, rT k (by omega)]
    · rw [if_neg z, if_neg z, if_neg z, if_neg z]
      refine ⟨g1, g2, g3, g4, g5, fun k hk => ?_⟩
      rw [r54, if_neg (by omega), r (82 + u) (by omega) (by omega) (by omega) (by omega) (by omega) (by omega)]
      exact g6 k hk
  by_cases c : yT t
  · rw [if_neg (by omega)] at x y0
    by_cases g : -1 ≤ s ∧ s ≤ 4
    · rw [if_neg (by omega)] at x
      by_cases e : s = -1
      · subst e
        rw [if_pos rfl] at x
        have y := m_M_tape (d := d) (σ := sFilR (oSA (oSA σ 52 t.toNat (-1)) 53 t.toNat 0) 54 (t * 60).toNat (t * 60 + 0 - t * 60).toNat 0) (t := t) (s := -1) (n := n) (by omega)
        unfold yTape at y
        rw [if_neg (by omega), if_neg (by omega), if_neg (by omega), if_pos rfl] at y
        exact Both_i x y rfl (fin 0 c (by decide) (by decide) g (fun _ => rfl))
      · rw [if_neg e] at x
        by_cases h : 60 < n
        · rw [if_pos h] at x
          rw [if_pos (Or.inr ⟨e, h⟩)] at y0
          exact Both_i x y0 rfl H
        · rw [if_neg h] at x
          rw [if_neg (by omega)] at y0
          by_cases h2 : n < 0
          · rw [if_pos h2] at x
            rw [if_pos ⟨e, h2⟩] at y0
            exact Both_i x y0 rfl H
          · rw [if_neg h2] at x
            have y := m_M_tape (d := d) (σ := sFilR (oSA (oSA σ 52 t.toNat s) 53 t.toNat n) 54 (t * 60).toNat (t * 60 + n - t * 60).toNat 0) (t := t) (s := s) (n := n) (by omega)
            unfold yTape at y
            rw [if_neg (by omega), if_neg (by omega), if_neg (by omega), if_neg e] at y
            exact Both_i x y rfl (fin n c (by omega) (by omega) g (fun z => absurd z e))
    · rw [if_pos (by omega)] at x
      rw [if_pos (Or.inl g)] at y0
      exact Both_i x y0 rfl H
  · rw [if_pos (by omega)] at x
    rw [if_pos c] at y0
    exact Both_i x y0 rfl H
theorem oCp_i (σ : oSg) {a b : Nat} {s d n : Int} (j : Nat) : (oCp σ a s b d n).2 b j = if d ≤ (j : Int) ∧ (j : Int) < d + n then σ.2 a (s.toNat + (j - d.toNat)) else σ.2 b j := congrFun (oSW_at σ b _) j
theorem c_shift {σ : oSg} (H : Inv σ) {d : Nat} (hd : 20 ≤ d) (t i u j n : Int) (hn : oI32 n) : Both d 139 225 [.inl t, .inl i, .inl u, .inl j, .inl n] σ := by
  have HP := H.2.2.2
  have x := m_X_shift (d := d) (σ := σ) (t := t) (i := i) (u := u) (j := j) (n := n) (tp_bd HP t) (tp_bd HP u) (by omega)
  have y0 := m_M_shift (d := d) (σ := σ) (t := t) (i := i) (u := u) (j := j) (n := n) (tp_80 HP) hn.2 (by omega)
  unfold xShift at x
  unfold yShift at y0
  by_cases c : yT t ∧ yT u
  · obtain ⟨c1, c2⟩ := c
    rw [if_neg (by omega), tp_so HP c1, tp_so HP c2] at x
    rw [if_neg (by omega)] at y0
    by_cases g : σ.2 79 t.toNat = -1 ∨ σ.2 79 u.toNat = -1
    · rw [if_pos g] at x y0
      exact Both_i x y0 rfl H
    · rw [if_neg g] at x y0
      by_cases e : σ.2 79 t.toNat = σ.2 79 u.toNat
      · rw [if_neg (not_not_intro e)] at x y0
        have b1 := tp_80 HP t.toNat (by omega)
        have b2 := tp_80 HP u.toNat (by omega)
        have s1 := tp_si HP c1
        have s2 := tp_si HP c2
        by_cases f : n < 0 ∨ i < 0 ∨ j < 0 ∨ σ.2 80 t.toNat - n < i ∨ σ.2 80 u.toNat - n < j
        · rw [if_pos f] at y0
          rw [if_neg (by
            rintro ⟨⟨z1, z2, z3, z4⟩, z5, z6, z7, z8⟩
            rw [s1] at z3 z4
            rw [s2] at z7 z8
            omega)] at x
          exact Both_i x y0 rfl H
        · have hx : nRun1 σ t i n ∧ nRun1 σ u j n := ⟨⟨by omega, by omega, by rw [s1]; omega, by rw [s1]; omega⟩, by omega, by omega, by rw [s2]; omega, by rw [s2]; omega⟩
          rw [if_pos hx] at x
          have q : ∀ q, ¬ q = 54 → (oCp σ 54 (t * 60 + i) 54 (u * 60 + j) n).2 q = σ.2 q := fun q hq => oCp_ne _ hq
          have y := m_M_shift (d := d) (σ := oCp σ 54 (t * 60 + i) 54 (u * 60 + j) n) (t := t) (i := i) (u := u) (j := j) (n := n) (by rw [q 80 (by decide)]; exact tp_80 HP) hn.2 (by omega)
          unfold yShift at y
          rw [if_neg (by omega), q 79 (by decide), if_neg g, if_neg (not_not_intro e), q 80 (by decide), if_neg f] at y
          refine Both_i x y rfl (Inv_p H rfl (fun r hr => by rw [oCp_ne _ (by omega), oCp_ne _ (by omega), oCp_ne _ (by omega)]) ?_)
          intro w hw
          obtain ⟨g1, g2, g3, g4, g5, g6⟩ := HP w hw
          have r : ∀ q, ¬ q = 54 → ¬ q = 88 → ¬ q = 82 + u.toNat → (oCp (oCp (oCp σ 54 (t * 60 + i) 54 (u * 60 + j) n) (82 + t.toNat) i 88 0 n) 88 0 (82 + u.toNat) j n).2 q = σ.2 q := fun q h1 h2 h3 => by rw [oCp_ne _ h3, oCp_ne _ h2, oCp_ne _ h1]
          show (oCp (oCp (oCp σ 54 (t * 60 + i) 54 (u * 60 + j) n) (82 + t.toNat) i 88 0 n) 88 0 (82 + u.toNat) j n).2 52 w = _ ∧ _
          rw [r 52 (by omega) (by omega) (by omega), r 53 (by omega) (by omega) (by omega), r 79 (by omega) (by omega) (by omega), r 80 (by omega) (by omega) (by omega)]
          refine ⟨g1, g2, g3, g4, g5, fun k hk => ?_⟩
          have a1 : (oCp (oCp (oCp σ 54 (t * 60 + i) 54 (u * 60 + j) n) (82 + t.toNat) i 88 0 n) 88 0 (82 + u.toNat) j n).2 54 (w * 60 + k) = if u * 60 + j ≤ ((w * 60 + k : Nat) : Int) ∧ ((w * 60 + k : Nat) : Int) < u * 60 + j + n then σ.2 54 ((t * 60 + i).toNat + (w * 60 + k - (u * 60 + j).toNat)) else σ.2 54 (w * 60 + k) := by
            rw [oCp_ne _ (by omega), oCp_ne _ (by omega), oCp_i]
          have a2 : ∀ z, (oCp (oCp σ 54 (t * 60 + i) 54 (u * 60 + j) n) (82 + t.toNat) i 88 0 n).2 88 z = if (0 : Int) ≤ (z : Int) ∧ (z : Int) < 0 + n then σ.2 (82 + t.toNat) (i.toNat + (z - (0 : Int).toNat)) else σ.2 88 z := fun z => by
            rw [oCp_i, oCp_ne _ (by omega), oCp_ne _ (by omega)]
          rw [a1]
          by_cases v : w = u.toNat
          · have a3 : (oCp (oCp (oCp σ 54 (t * 60 + i) 54 (u * 60 + j) n) (82 + t.toNat) i 88 0 n) 88 0 (82 + u.toNat) j n).2 (82 + w) k = if j ≤ (k : Int) ∧ (k : Int) < j + n then σ.2 (82 + t.toNat) (i.toNat + (k - j.toNat)) else σ.2 (82 + w) k := by
              rw [v, oCp_i]
              by_cases z : j ≤ (k : Int) ∧ (k : Int) < j + n
              · rw [if_pos z, if_pos z, a2, show (0 : Int).toNat = 0 from rfl, if_pos (by omega), show i.toNat + (0 + (k - j.toNat) - 0) = i.toNat + (k - j.toNat) from by omega]
              · rw [if_neg z, if_neg z, oCp_ne _ (by omega), oCp_ne _ (by omega)]
            rw [a3]
            by_cases z : j ≤ (k : Int) ∧ (k : Int) < j + n
            · rw [if_pos (by omega), if_pos z]
              obtain ⟨-, -, -, -, -, t6⟩ := HP t.toNat (by omega)
              obtain ⟨-, t2, -⟩ := HP t.toNat (by omega)
              rw [show (t * 60 + i).toNat + (w * 60 + k - (u * 60 + j).toNat) = t.toNat * 60 + (i.toNat + (k - j.toNat)) from by omega]
              exact t6 _ (by omega)
            · rw [if_neg (by omega), if_neg z]
              exact g6 k hk
          · rw [if_neg (by omega), oCp_ne _ (by omega), oCp_ne _ (by omega), oCp_ne _ (by omega)]
            exact g6 k hk
      · rw [if_pos e] at x y0
        exact Both_i x y0 rfl H
  · rw [if_pos (by omega)] at x
    rw [if_pos (by omega)] at y0
    exact Both_i x y0 rfl H

