theorem d_cases (d : Int32) : (((d = 0) = True ∧ (d = 1) = False ∧ (d = 2) = False ∧ (0 ≤ d) = True ∧ (0 < d) = False ∧ (2 < d) = False) ∨ ((d = 0) = False ∧ (d = 1) = True ∧ (d = 2) = False ∧ (0 ≤ d) = True ∧ (0 < d) = True ∧ (2 < d) = False) ∨ ((d = 0) = False ∧ (d = 1) = False ∧ (d = 2) = True ∧ (0 ≤ d) = True ∧ (0 < d) = True ∧ (2 < d) = False)) ∨ ((d = 0) = False ∧ (d = 1) = False ∧ (d = 2) = False ∧ (0 ≤ d) = False ∧ (0 < d) = False ∧ (2 < d) = False) ∨ ((d = 0) = False ∧ (d = 1) = False ∧ (d = 2) = False ∧ (0 ≤ d) = True ∧ (0 < d) = True ∧ (2 < d) = True) := by
  by_cases e0 : d = 0
  · subst e0; exact Or.inl (Or.inl (by decide))
  by_cases e1 : d = 1
  · subst e1; exact Or.inl (Or.inr (Or.inl (by decide)))
  by_cases e2 : d = 2
  · subst e2; exact Or.inl (Or.inr (Or.inr (by decide)))
  right
  have n0 : (0 : Int32).toInt = 0 := rfl
  have n1 : (1 : Int32).toInt = 1 := rfl
  have n2 : (2 : Int32).toInt = 2 := rfl
  have f0 : d.toInt ≠ 0 := fun z => e0 (Int32.toInt_inj.mp (z.trans n0.symm))
  have f1 : d.toInt ≠ 1 := fun z => e1 (Int32.toInt_inj.mp (z.trans n1.symm))
  have f2 : d.toInt ≠ 2 := fun z => e2 (Int32.toInt_inj.mp (z.trans n2.symm))
  simp only [e0, e1, e2, Int32.le_iff_toInt_le, Int32.lt_iff_toInt_lt, n0, n2, true_and]
  by_cases q : 0 ≤ d.toInt
  · right
    refine ⟨eq_true q, eq_true (by omega), eq_true (by omega)⟩
  · left
    refine ⟨eq_false q, eq_false (by omega), eq_false (by omega)⟩
theorem sub_z {x y : Int32} : (x = y) = (x - y = 0) := by
  apply propext
  constructor
  · rintro rfl
    exact Int32.sub_self x
  · intro h
    have := congrArg (· + y) h
    simpa using this
theorem lp_step (u : St) (v1 v2 : Int32) : ∃ F4 F3 F2 F1 F0 : Int32 → Int32 → Int32 → Option Int32, fX4_landsByPaper_l14 u v1 v2 NF = F4 ∧ (∀ x y z, F4 x y z = fX4_landsByPaper_l14b u F3 v1 v2 x y z) ∧ (∀ x y z, F3 x y z = fX4_landsByPaper_l14b u F2 v1 v2 x y z) ∧ (∀ x y z, F2 x y z = fX4_landsByPaper_l14b u F1 v1 v2 x y z) ∧ (∀ x y z, F1 x y z = fX4_landsByPaper_l14b u F0 v1 v2 x y z) := ⟨_, fX4_landsByPaper_l14 u v1 v2 4999, fX4_landsByPaper_l14 u v1 v2 4998, fX4_landsByPaper_l14 u v1 v2 4997, fX4_landsByPaper_l14 u v1 v2 4996, rfl, fun _ _ _ => rfl, fun _ _ _ => rfl, fun _ _ _ => rfl, fun _ _ _ => rfl⟩
theorem kab_0 {ρ : Type} (k : Int32 → Option ρ) : ldI kabv 6 0 k = k (-1) := ldI_s (j := 0) (by decide) (by decide)
theorem kab_1 {ρ : Type} (k : Int32 → Option ρ) : ldI kabv 6 1 k = k 0 := ldI_s (j := 1) (by decide) (by decide)
theorem kab_2 {ρ : Type} (k : Int32 → Option ρ) : ldI kabv 6 2 k = k 0 := ldI_s (j := 2) (by decide) (by decide)
theorem kab_3 {ρ : Type} (k : Int32 → Option ρ) : ldI kabv 6 3 k = k 1 := ldI_s (j := 3) (by decide) (by decide)
theorem kab_4 {ρ : Type} (k : Int32 → Option ρ) : ldI kabv 6 4 k = k 2 := ldI_s (j := 4) (by decide) (by decide)
theorem kab_5 {ρ : Type} (k : Int32 → Option ρ) : ldI kabv 6 5 k = k 0 := ldI_s (j := 5) (by decide) (by decide)
theorem b31 {l : Nat} (h : l < 5) : bB 31 l = true := by
  have : ∀ l : Nat, l < 5 → bB 31 l = true := by decide
  exact this l h
theorem inr_31 (x : Int32) : InR (31 &&& x) 32 := by
  have : InR (31 &&& x) (2 ^ 5) := by
    rw [inr_bits (by decide)]
    intro i hi
    rw [bB_and, (inr_bits (x := 31) (n := 5) (by decide)).mp ⟨31, by decide, rfl⟩ i hi, Bool.false_and]
  exact this
theorem lands_eq {uC uM : St} {i k a b q p l : Nat} (hi : i < 16) (k1 : gA uC 83 i = nI k) (k2 : gA uC 84 i = nI a) (k3 : gA uC 85 i = nI b) (k4 : gA uC 86 i = nI q) (m1 : gA uM 9 i = nI k) (m2 : gA uM 10 i = nI a) (m3 : gA uM 11 i = nI b) (m4 : gA uM 12 i = nI q) (hk : k < 6) (ha : a < 5) (hb : b < 5) (hl : l < 5) : ∃ x, fX4_landsByPaper uC (nI i) (nI p) = some (31 &&& x) ∧ fX12_lets uM (nI i) (nI l) (nI p) = some (if bB (31 &&& x) l then 1 else 0) := by
  have ea : (nI l = nI a) = (a = l) := propext ((nI_eq (by omega) (by omega)).trans eq_comm)
  have eb : (nI l = nI b) = (b = l) := propext ((nI_eq (by omega) (by omega)).trans eq_comm)
  unfold fX4_landsByPaper fX12_lets
  obtain ⟨F4, F3, F2, F1, F0, f5, f4, f3, f2, f1⟩ := lp_step uC (nI i) (nI p)
  rw [f5]
  simp only [ldI_s hi (show 16 < 2 ^ 31 by decide), k1, m1, m2, m3, m4, nmI_s, ea, eb]
  have dd := d_cases (nI p - nI q)
  rcases (show k = 0 ∨ k = 1 ∨ k = 2 ∨ k = 3 ∨ k = 4 ∨ k = 5 by omega) with rfl | rfl | rfl | rfl | rfl | rfl
  all_goals
    simp only [f4, f3, f2, f1, fX4_landsByPaper_l14b, fX4_landsByPaper_b57, fX4_landsByKind, fX4_landsByKind_b146, fX12_lets_b47, fX12_lets_b126, fX12_lets_b150, fX12_lets_b169, fX12_lets_b186, fX12_lets_b223, ldI_s hi (show 16 < 2 ^ 31 by decide), k2, k3, k4, nmI_s, cl1_s, show nI 0 = 0 from rfl, show nI 1 = 1 from rfl, show nI 2 = 2 from rfl, show nI 3 = 3 from rfl, show nI 4 = 4 from rfl, show nI 5 = 5 from rfl, kab_0, kab_1, kab_2, kab_3, kab_4, kab_5, sub_z (x := nI p) (y := nI q), show ((0 : Int32) + 1) = 1 from rfl, show ((1 : Int32) + 1) = 2 from rfl, show ((2 : Int32) + 1) = 3 from rfl]
    rcases dd with (⟨d0, d1, d2, d3, d4, d5⟩ | ⟨d0, d1, d2, d3, d4, d5⟩ | ⟨d0, d1, d2, d3, d4, d5⟩) | ⟨d0, d1, d2, d3, d4, d5⟩ | ⟨d0, d1, d2, d3, d4, d5⟩ <;> simp (config := { decide := true }) only [d0, d1, d2, d3, d4, d5, ↓reduceIte, cl1_s, nmI_s, Int32.and_assoc]
    all_goals
      refine ⟨_, rfl, ?_⟩
      simp only [bB_and, bB_or, bB_not _ (show l < 32 by omega), bB_sh (show a < 32 by omega), bB_sh (show b < 32 by omega), b31 hl]
      by_cases qa : a = l <;> by_cases qb : b = l <;> simp [qa, qb]
theorem T_allows {ts : List Tx} {uC uM : St} (h : Rel ts uC uM) (a0 : Int32) (a1 : Int32) (a2 : Int32) : ∃ (r : Int32), fX11_allows uC a0 a1 a2 = some r ∧ fX12_allows uM a0 a1 a2 = some r ∧ Rel ts uC uM := by
  obtain ⟨T, h1, h2, h3, ⟨P, hP, hc, hm, hk, hf, hg, hs⟩, h5, h6, h7, h8, h9, h10, h11⟩ := id h
  obtain ⟨t1, t2, t3, t4, t5, t6, t7, t8⟩ := id h1
  unfold fX11_allows fX12_allows
  by_cases hp : InR a0 P
  · rw [papC_t (by omega) hc hp, papM_t (by omega) hm hp]
    obtain ⟨i, hi, rfl⟩ := hp
    by_cases hp : InR a1 5 ∧ InR a2 T
    · rw [plaC_t (by omega) t4 hp.1 hp.2, plaM_t (by omega) t3 hp.1 hp.2]
      obtain ⟨⟨l, hl, rfl⟩, ⟨p, hp, rfl⟩⟩ := hp
      obtain ⟨k1, k2, k3, k4, k5, ⟨k, hk', e1⟩, ⟨a, ha, e2⟩, ⟨b, hb, e3⟩, ⟨q, hq, e4⟩, k10⟩ := hk i hi
      obtain ⟨x, w1, w2⟩ := lands_eq (p := p) (show i < 16 by omega) (k1.trans e1) (k2.trans e2) (k3.trans e3) (k4.trans e4) e1 e2 e3 e4 hk' ha hb hl
      simp only [cl1_s, i10, ↓reduceIte]
      rw [w1, w2]
      simp only [cl1_s, isIn_B _ (show l < 32 by omega)]
      cases bB (31 &&& x) l
      · exact ⟨_, rfl, rfl, h⟩
      · exact ⟨_, rfl, rfl, h⟩
    · rw [plaC_f (by omega) t4 hp, plaM_f (by omega) t3 hp]
      exact ⟨_, rfl, rfl, h⟩
  · rw [papC_f (by omega) hc hp, papM_f (by omega) hm hp]
    exact ⟨_, rfl, rfl, h⟩
