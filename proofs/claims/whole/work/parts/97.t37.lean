section Sim3
variable {b : Nat → Nat} {K : Nat} {env : Nat → Int32} {c u : St} {o n s e : Nat}
theorem ev_lit {k : Nat} (h : k < 2 ^ 31) (st : List Int32) : ev1 env (nI k) st = nI k :: st := by
  unfold ev1
  rw [if_pos (show (-6 : Int32) ≤ nI k by rw [Int32.le_iff_toInt_le, nI_toInt h]; exact Int.le_trans (by decide) (Int.natCast_nonneg k)), if_pos (show (0 : Int32) ≤ nI k by rw [Int32.le_iff_toInt_le, nI_toInt h]; exact Int.natCast_nonneg k)]
theorem ev_nm : ∀ k, k < 6 → ∀ st, ev1 env (wcN (k + 5)) st = env k :: st := by
  intro k hk st
  have : (-6 : Int32) ≤ wcN (k + 5) ∧ ¬ (0 : Int32) ≤ wcN (k + 5) ∧ (-1 - wcN (k + 5)).toNatClampNeg = k := by
    have : ∀ k, k < 6 → (-6 : Int32) ≤ wcN (k + 5) ∧ ¬ (0 : Int32) ≤ wcN (k + 5) ∧ (-1 - wcN (k + 5)).toNatClampNeg = k := by decide
    exact this k hk
  unfold ev1
  rw [if_pos this.1, if_neg this.2.1, this.2.2]
theorem name_ok (h : PI b K env c u o n s e) {k : Nat} (hk : k < 6) (ht : gZ c 105 = wcN (k + 5)) : fX12_name u = some (env k, u) := by
  have w5 : fX12_isWord u 131638 = some (if gZ c 105 = -1 then 1 else 0) := isWord_ok h (i := 5) (by decide)
  have w6 : fX12_isWord u 555 = some (if gZ c 105 = -2 then 1 else 0) := isWord_ok h (i := 6) (by decide)
  have w7 : fX12_isWord u 232600981 = some (if gZ c 105 = -3 then 1 else 0) := isWord_ok h (i := 7) (by decide)
  have w8 : fX12_isWord u 10634 = some (if gZ c 105 = -4 then 1 else 0) := isWord_ok h (i := 8) (by decide)
  have w9 : fX12_isWord u 230433031 = some (if gZ c 105 = -5 then 1 else 0) := isWord_ok h (i := 9) (by decide)
  have w10 : fX12_isWord u 307058 = some (if gZ c 105 = -6 then 1 else 0) := isWord_ok h (i := 10) (by decide)
  obtain ⟨n0, n1, n2, n3, ⟨x, n4, n5⟩, n6⟩ := h.2.2.1
  unfold fX12_name
  rw [ht] at w5 w6 w7 w8 w9 w10
  have hk' : k = 0 ∨ k = 1 ∨ k = 2 ∨ k = 3 ∨ k = 4 ∨ k = 5 := by omega
  rcases hk' with rfl | rfl | rfl | rfl | rfl | rfl
  · rw [w5, if_pos (by decide), cl1_s, if_neg (by decide), n0]
  · rw [w5, if_neg (by decide), cl1_s, if_pos rfl, w6, if_pos (by decide), cl1_s, if_neg (by decide), n1]
  · rw [w5, if_neg (by decide), cl1_s, if_pos rfl, w6, if_neg (by decide), cl1_s, if_pos rfl, w7, if_pos (by decide), cl1_s, if_neg (by decide), n2]
  · rw [w5, if_neg (by decide), cl1_s, if_pos rfl, w6, if_neg (by decide), cl1_s, if_pos rfl, w7, if_neg (by decide), cl1_s, if_pos rfl, w8, if_pos (by decide), cl1_s, if_neg (by decide), n3]
  · rw [w5, if_neg (by decide), cl1_s, if_pos rfl, w6, if_neg (by decide), cl1_s, if_pos rfl, w7, if_neg (by decide), cl1_s, if_pos rfl, w8, if_neg (by decide), cl1_s, if_pos rfl, w9, if_pos (by decide), cl1_s, if_neg (by decide), n4, cl1_s, n5, cl1_s]
  · rw [w5, if_neg (by decide), cl1_s, if_pos rfl, w6, if_neg (by decide), cl1_s, if_pos rfl, w7, if_neg (by decide), cl1_s, if_pos rfl, w8, if_neg (by decide), cl1_s, if_pos rfl, w9, if_neg (by decide), cl1_s, if_pos rfl, w10, if_pos (by decide), cl1_s, if_neg (by decide), n0, n1, n2, n6, cl1_s]
theorem name_no (h : PI b K env c u o n s e) (ht : ∀ i, i < 11 → 5 ≤ i → ¬ gZ c 105 = wcN i) : ∃ u', fX12_name u = some (0, u') ∧ gZ u' 33 = 1 ∧ gZ u' 34 = nI s ∧ FrM u u' := by
  have w5 : fX12_isWord u 131638 = some 0 := (isWord_ok h (i := 5) (by decide)).trans (by rw [if_neg (ht 5 (by decide) (by decide))])
  have w6 : fX12_isWord u 555 = some 0 := (isWord_ok h (i := 6) (by decide)).trans (by rw [if_neg (ht 6 (by decide) (by decide))])
  have w7 : fX12_isWord u 232600981 = some 0 := (isWord_ok h (i := 7) (by decide)).trans (by rw [if_neg (ht 7 (by decide) (by decide))])
  have w8 : fX12_isWord u 10634 = some 0 := (isWord_ok h (i := 8) (by decide)).trans (by rw [if_neg (ht 8 (by decide) (by decide))])
  have w9 : fX12_isWord u 230433031 = some 0 := (isWord_ok h (i := 9) (by decide)).trans (by rw [if_neg (ht 9 (by decide) (by decide))])
  have w10 : fX12_isWord u 307058 = some 0 := (isWord_ok h (i := 10) (by decide)).trans (by rw [if_neg (ht 10 (by decide) (by decide))])
  obtain ⟨u', f1, f2, f3, f4⟩ := fail_ok h
  refine ⟨u', ?_, f2, f3, f4⟩
  unfold fX12_name
  rw [w5, cl1_s, if_pos rfl, w6, cl1_s, if_pos rfl, w7, cl1_s, if_pos rfl, w8, cl1_s, if_pos rfl, w9, cl1_s, if_pos rfl, w10, cl1_s, if_pos rfl, f1, cl1_s]
theorem leaf (h : PI b K env c u o n s e) (hn : n ≤ s) {x v : Int32} (h0 : ¬ gZ c 105 = 0) (h1 : ¬ gZ c 105 = 1) (hev : ∀ st, ev1 env x st = v :: st) (R : Nat → St → Int32 → Option (Int32 × St)) : OUT b K env c u o n s (fX5_readOne_b45 R c x) (cl1 (fX12_next u) (fun u5 => some (v, u5))) := by
  obtain ⟨c1, u1, s1, e1, f1, f2, f3, f4, f5, f6⟩ := pi_adv (pi_write h x) h0 h1
  have hs1 := pi_s f3
  unfold fX5_readOne_b45
  rw [write_ok h.2.2.2.2.2.2.2.2 (by omega), cl2_s, f1, cl1_s, f2, cl1_s]
  refine Or.inl ⟨c1, u1, v, n + 1, s1, e1, rfl, rfl, f3, FrC_tr (FrC_write c n n (by omega) _ _) (fC_Fr f4 n) (Nat.le_refl n), fM_Fr f5, by omega, by omega, fun st => ?_⟩
  rw [show n + 1 - n = 1 by omega]
  show ev1 env (gA c1 103 n) st = _
  rw [(fC_Fr f4 (n + 1)).2.2.2 n (by omega), gA_setZ, gA_s, upd_s]
  exact hev st
theorem neg_cases {t : Int32} (h : ¬ -1 < t) (k : ¬ t < -6) : ∃ i, i < 11 ∧ 5 ≤ i ∧ t = wcN i := by
  rw [Int32.lt_iff_toInt_lt] at h k
  have e1 : (-1 : Int32).toInt = -1 := by decide
  have e2 : (-6 : Int32).toInt = -6 := by decide
  rw [e1] at h
  rw [e2] at k
  have : t.toInt = -1 ∨ t.toInt = -2 ∨ t.toInt = -3 ∨ t.toInt = -4 ∨ t.toInt = -5 ∨ t.toInt = -6 := by omega
  rcases this with q | q | q | q | q | q
  · exact ⟨5, by decide, by decide, Int32.toInt_inj.mp (by rw [q]; decide)⟩
  · exact ⟨6, by decide, by decide, Int32.toInt_inj.mp (by rw [q]; decide)⟩
  · exact ⟨7, by decide, by decide, Int32.toInt_inj.mp (by rw [q]; decide)⟩
  · exact ⟨8, by decide, by decide, Int32.toInt_inj.mp (by rw [q]; decide)⟩
  · exact ⟨9, by decide, by decide, Int32.toInt_inj.mp (by rw [q]; decide)⟩
  · exact ⟨10, by decide, by decide, Int32.toInt_inj.mp (by rw [q]; decide)⟩
theorem sim_one {f : Nat} (ho : o ≤ 5) (ih0 : o < 5 → CLm b K env f 0 (o + 1)) (ih5 : o < 5 → CLm b K env f 5 (o + 1)) : CLm b K env (f + 1) 5 o := by
  intro c u n s e h hn
  show OUT b K env c u o n s (fX5_readOne (PGC f) c (nI o)) (fX12_one (PGM f) u)
  have hs := pi_s h
  unfold fX12_one
  rw [isSign_ok h (x := 45) (by decide), cl1_s]
  by_cases t45 : gZ c 105 = 45
  · rw [if_pos t45, if_neg (show ¬ (1 : Int32) = 0 by decide)]
    unfold fX5_readOne fX5_readOne_b55 fX5_readOne_b73
    rw [if_neg (show ¬ gZ c 105 = 2 by rw [t45]; decide), if_pos (show -1 < gZ c 105 by rw [t45]; decide), if_pos t45]
    by_cases ho5 : o < 5
    · obtain ⟨c1, u1, s1, e1, f1, f2, f3, f4, f5, f6⟩ := opens_ok h ho5 (by rw [t45]; decide) (by rw [t45]; decide)
      unfold fX5_readOne_b94
      rw [if_pos (show nI o < 5 from nI_lt (b := 5) ho5 (by decide)), if_pos t45, f1, cl1_s, f2, cl2_s, if_neg (by decide), if_neg (by decide), nI_1]
      rcases ih5 ho5 c1 u1 n s1 e1 f3 (by omega) with ⟨c2, u2, w, n2, s2, e2, g1, g2, g3, g4, g5, g6, g7, g8⟩ | ⟨c2, u2, w, s2, g1, g2, g3, g4, g5, g6, g7, g8⟩
      · have hs2 := pi_s g3
        have hcm : FrC c c2 n := FrC_tr (fC_Fr f4 n) g4 (Nat.le_refl n)
        rw [g1, cl2_s, if_neg (by decide), write_ok g3.2.2.2.2.2.2.2.2 (by omega), cl2_s, if_neg (by decide), g2, cl2_s, nmI_s, nmS_s, g3.2.2.2.2.2.2.2.1, nI_pred]
        refine Or.inl ⟨_, setZ u2 32 (nI o), -w, n2 + 1, s2, e2, rfl, rfl, pi_32 (pi_write g3 _) o, FrC_tr hcm (FrC_write c2 n2 n (by omega) _ _) (Nat.le_refl n), FrM_tr f5 (FrM_tr g5 (FrM_Z u2 (by decide) _)), by omega, by omega, fun st => ?_⟩
        rw [gA_setZ, gA_s, show n2 + 1 - n = (n2 - n) + 1 by omega, evN_app, evN_congr (f := upd (gA c2 103) n2 (-7)) (g := gA c2 103) (n2 - n) n st (fun j hj1 hj2 => by rw [upd_n _ _ (by omega)]), g8, show n + (n2 - n) = n2 by omega]
        show ev1 env (upd (gA c2 103) n2 (-7) n2) (w :: st) = _
        rw [upd_s]
        exact ev_neg w st
      · rw [g1, cl2_s, if_pos rfl, g2, cl2_s, nmI_s, nmS_s]
        exact Or.inr ⟨c2, _, _, s2, rfl, rfl, g3, g4, by rw [gZ_n _ _ (by decide)]; exact g5, by rw [gZ_n _ _ (by decide)]; exact g6, FrC_tr (fC_Fr f4 0) g7 (Nat.le_refl 0), FrM_tr f5 (FrM_tr g8 (FrM_Z u2 (by decide) _))⟩
    · obtain ⟨u', f1, f2, f3, f4⟩ := opens_no h (by omega)
      rw [if_neg (show ¬ nI o < 5 from nI_nlt (b := 5) (by omega) (by omega)), f1, cl2_s, if_pos rfl]
      exact out_fail h f2 f3 f4
  rw [if_neg t45, if_pos rfl, isSign_ok h (x := 40) (by decide), cl1_s]
  by_cases t40 : gZ c 105 = 40
  · rw [if_pos t40, if_neg (show ¬ (1 : Int32) = 0 by decide)]
    unfold fX5_readOne fX5_readOne_b55 fX5_readOne_b73
    rw [if_neg (show ¬ gZ c 105 = 2 by rw [t40]; decide), if_pos (show -1 < gZ c 105 by rw [t40]; decide), if_neg t45, if_pos t40]
    by_cases ho5 : o < 5
    · obtain ⟨c1, u1, s1, e1, f1, f2, f3, f4, f5, f6⟩ := opens_ok h ho5 (by rw [t40]; decide) (by rw [t40]; decide)
      unfold fX5_readOne_b94
      rw [if_pos (show nI o < 5 from nI_lt (b := 5) ho5 (by decide)), if_neg t45, f1, cl1_s, f2, cl2_s, if_pos rfl, if_neg (by decide), nI_1]
      rcases ih0 ho5 c1 u1 n s1 e1 f3 (by omega) with ⟨c2, u2, w, n2, s2, e2, g1, g2, g3, g4, g5, g6, g7, g8⟩ | ⟨c2, u2, w, s2, g1, g2, g3, g4, g5, g6, g7, g8⟩
      · have hs2 := pi_s g3
        have hcm : FrC c c2 n := FrC_tr (fC_Fr f4 n) g4 (Nat.le_refl n)
        rw [g1, cl2_s, if_neg (by decide), g2, cl2_s, isSign_ok g3 (x := 41) (by decide), cl1_s]
        unfold fX5_pass fX12_one_b71
        by_cases t41 : gZ c2 105 = 41
        · have g3' := pi_32 g3 o
          obtain ⟨c3, u3, s3, e3, k1, k2, k3, k4, k5, k6⟩ := pi_adv g3' (by rw [t41]; decide) (by rw [t41]; decide)
          rw [if_pos t41, if_pos t41, if_neg (show ¬ (1 : Int32) = 0 by decide), k1, cl1_s, cl2_s, if_neg (by decide), nmS_s, g3.2.2.2.2.2.2.2.1, nI_pred, g3'.2.2.2.2.2.2.1, if_pos rfl, k2, cl1_s]
          refine Or.inl ⟨c3, u3, w, n2, s3, e3, rfl, rfl, k3, FrC_tr hcm (fC_Fr k4 n) (Nat.le_refl n), FrM_tr f5 (FrM_tr g5 (FrM_tr (FrM_Z u2 (by decide) _) (fM_Fr k5))), g6, by omega, fun st => ?_⟩
          rw [evN_congr (f := gA c3 103) (g := gA c2 103) (n2 - n) n st (fun j _ hj2 => (fC_Fr k4 n2).2.2.2 j (by omega))]
          exact g8 st
        · obtain ⟨u3, k1, k2, k3, k4⟩ := fail_ok g3
          rw [if_neg t41, if_neg t41, if_pos rfl, k1, cl1_s, cl2_s, if_pos rfl, nmS_s, gZ_n u3 _ (show 33 ≠ 32 by decide), k2, if_neg (by decide)]
          exact Or.inr ⟨c2, _, w, s2, rfl, rfl, g3.2.2.2.1.1, hs2.1, by rw [gZ_n _ _ (by decide)]; exact k2, by rw [gZ_n _ _ (by decide)]; exact k3, FrC_0 hcm, FrM_tr f5 (FrM_tr g5 (FrM_tr k4 (FrM_Z u3 (by decide) _)))⟩
      · rw [g1, cl2_s, if_pos rfl, g2, cl2_s, isSign_bad g5, cl1_s, if_pos rfl, fail_bad g5, cl1_s]
        unfold fX12_one_b71
        rw [nmS_s, gZ_n u2 _ (show 33 ≠ 32 by decide), g5, if_neg (by decide)]
        exact Or.inr ⟨c2, _, w, s2, rfl, rfl, g3, g4, by rw [gZ_n _ _ (by decide)]; exact g5, by rw [gZ_n _ _ (by decide)]; exact g6, FrC_tr (fC_Fr f4 0) g7 (Nat.le_refl 0), FrM_tr f5 (FrM_tr g8 (FrM_Z u2 (by decide) _))⟩
    · obtain ⟨u', f1, f2, f3, f4⟩ := opens_no h (by omega)
      rw [if_neg (show ¬ nI o < 5 from nI_nlt (b := 5) (by omega) (by omega)), f1, cl2_s, if_pos rfl]
      exact out_fail h f2 f3 f4
  rw [if_neg t40, if_pos rfl, if_pos h.2.2.2.2.2.2.1]
  obtain ⟨b1, b2, b3, b4, nv, b5, b6, b7⟩ := id h.2.2.2.1
  have nx : ∀ (t : Int32), gZ c 105 = t → ¬ t = 2 → (∀ i, i < 11 → 5 ≤ i → ¬ t = wcN i) → fX5_readOne (PGC f) c (nI o) = some (0, c) := by
    intro t ht h2 hne
    unfold fX5_readOne fX5_readOne_b55
    rw [if_neg (by rw [ht]; exact h2)]
    by_cases q : -1 < gZ c 105
    · rw [if_pos q, if_neg t45, if_neg t40]
    · rw [if_neg q]
      by_cases q2 : gZ c 105 < -6
      · rw [if_pos q2, if_neg t45, if_neg t40]
      · obtain ⟨i, i1, i2, i3⟩ := neg_cases q q2
        exact absurd (ht.symm.trans i3) (hne i i1 i2)
  have wne : ∀ i, i < 11 → 5 ≤ i → ¬ (1 : Int32) = wcN i ∧ ¬ (0 : Int32) = wcN i ∧ (-1 < wcN i) = False ∧ (wcN i < -6) = False ∧ ¬ (40 : Int32) = wcN i ∧ ¬ (41 : Int32) = wcN i ∧ ¬ (59 : Int32) = wcN i ∧ ¬ (43 : Int32) = wcN i ∧ ¬ (45 : Int32) = wcN i ∧ ¬ (42 : Int32) = wcN i ∧ ¬ (60 : Int32) = wcN i ∧ ¬ (61 : Int32) = wcN i := by
    have : ∀ i, i < 11 → 5 ≤ i → ¬ (1 : Int32) = wcN i ∧ ¬ (0 : Int32) = wcN i ∧ ¬ (-1 < wcN i) ∧ ¬ (wcN i < -6) := by decide
    have t2 : ∀ i, i < 11 → 5 ≤ i → ¬ (40 : Int32) = wcN i ∧ ¬ (41 : Int32) = wcN i ∧ ¬ (59 : Int32) = wcN i ∧ ¬ (43 : Int32) = wcN i := by decide
    have t3 : ∀ i, i < 11 → 5 ≤ i → ¬ (45 : Int32) = wcN i ∧ ¬ (42 : Int32) = wcN i ∧ ¬ (60 : Int32) = wcN i ∧ ¬ (61 : Int32) = wcN i := by decide
    intro i h1 h2
    obtain ⟨a1, a2, a3, a4⟩ := this i h1 h2
    obtain ⟨b1, b2, b3, b4⟩ := t2 i h1 h2
    exact ⟨a1, a2, eq_false a3, eq_false a4, b1, b2, b3, b4, t3 i h1 h2⟩
  have bad : gZ u 28 = 0 ∨ gZ u 28 = 3 ∨ gZ u 28 = 4 → (∀ i, i < 11 → 5 ≤ i → ¬ gZ c 105 = wcN i) → ¬ gZ c 105 = 2 → OUT b K env c u o n s (fX5_readOne (PGC f) c (nI o)) (fX12_one_b123 (PGM f) u 0) := by
    intro h28 hne h2
    obtain ⟨u', f1, f2, f3, f4⟩ := fail_ok h
    rw [nx _ rfl h2 hne]
    unfold fX12_one_b123 fX12_one_b157
    rw [if_pos h.2.2.2.2.2.2.1, if_neg (by rcases h28 with z | z | z <;> rw [z] <;> decide), f1, cl1_s]
    exact out_fail h f2 f3 f4
  have badw : gZ u 28 = 1 → (∀ i, i < 11 → 5 ≤ i → ¬ gZ c 105 = wcN i) → ¬ gZ c 105 = 2 → OUT b K env c u o n s (fX5_readOne (PGC f) c (nI o)) (fX12_one_b123 (PGM f) u 0) := by
    intro h28 hne h2
    obtain ⟨u', f1, f2, f3, f4⟩ := name_no h hne
    rw [nx _ rfl h2 hne]
    unfold fX12_one_b123
    rw [if_pos h.2.2.2.2.2.2.1, if_pos h28, f1, cl2_s, f2, if_neg (by decide)]
    exact out_fail h f2 f3 f4
  rcases b6 with ⟨t, k⟩ | ⟨t, k, y, ynv⟩ | ⟨t, k, y⟩ | ⟨j, hj, t, k, y⟩ | ⟨t, k⟩
  · rw [if_neg (show ¬ gZ u 28 = 2 by rw [k]; decide)]
    exact bad (Or.inl k) (fun i h1 h2 z => (wne i h1 h2).2.1 (t.symm.trans z)) (by rw [t]; decide)
  · rw [if_pos k, nmI_s, y, ← nI_l (show nv < 2 ^ 31 by omega), Int32.toInt32_toInt64]
    unfold fX5_readOne fX5_readOne_b25
    rw [if_pos t, if_pos t, b5 t]
    exact leaf h hn (by rw [t]; decide) (by rw [t]; decide) (fun st => ev_lit (by omega) st) _
  · rw [if_neg (show ¬ gZ u 28 = 2 by rw [k]; decide)]
    refine bad (Or.inr (Or.inl k)) (fun i h1 h2 z => ?_) (by rcases t with t | t | t | t | t | t | t | t <;> rw [t] <;> decide)
    obtain ⟨_, _, _, _, z1, z2, z3, z4, z5, z6, z7, z8⟩ := wne i h1 h2
    rcases t with t | t | t | t | t | t | t | t
    · exact z1 (t.symm.trans z)
    · exact z2 (t.symm.trans z)
    · exact z3 (t.symm.trans z)
    · exact z4 (t.symm.trans z)
    · exact z5 (t.symm.trans z)
    · exact z6 (t.symm.trans z)
    · exact z7 (t.symm.trans z)
    · exact z8 (t.symm.trans z)
  · rw [if_neg (show ¬ gZ u 28 = 2 by rw [k]; decide)]
    have n2 : ¬ gZ c 105 = 2 := by rw [t]; exact (wc_ne j hj).2.2.1
    rcases Nat.lt_or_ge j 5 with q | q
    · refine badw k (fun i h1 h2 z => ?_) n2
      have := (wc_ne j hj).2.2.2.2 i h1 (t.symm.trans z)
      omega
    · obtain ⟨j', rfl⟩ : ∃ j', j = j' + 5 := ⟨j - 5, by omega⟩
      obtain ⟨_, _, x3, x4, _⟩ := wne (j' + 5) hj q
      unfold fX12_one_b123 fX5_readOne fX5_readOne_b25
      rw [if_pos h.2.2.2.2.2.2.1, if_pos k, name_ok h (by omega) t, cl2_s, if_pos h.2.2.2.2.2.2.1, if_neg n2, if_neg n2, if_neg (show ¬ -1 < gZ c 105 by rw [t, x3]; exact id), if_neg (show ¬ gZ c 105 < -6 by rw [t, x4]; exact id)]
      exact leaf h hn (by rw [t]; exact (wc_ne _ hj).1) (by rw [t]; exact (wc_ne _ hj).2.1) (fun st => by rw [t]; exact ev_nm j' (by omega) st) _
  · rw [if_neg (show ¬ gZ u 28 = 2 by rcases k with k | ⟨k, _⟩ <;> rw [k] <;> decide)]
    have hne : ∀ i, i < 11 → 5 ≤ i → ¬ gZ c 105 = wcN i := fun i h1 h2 z => (wne i h1 h2).1 (t.symm.trans z)
    rcases k with k | ⟨k, _⟩
    · exact bad (Or.inr (Or.inr k)) hne (by rw [t]; decide)
    · exact badw k hne (by rw [t]; decide)
theorem sim : ∀ (f i o : Nat), i < 6 → o ≤ 5 → 6 * (5 - o) + (6 - i) ≤ f → CLm b K env f i o := by
  intro f
  induction f with
  | zero => intro i o hi ho hf; omega
  | succ f ih =>
    intro i o hi ho hf
    have hi' : i = 0 ∨ i = 1 ∨ i = 2 ∨ i = 3 ∨ i = 4 ∨ i = 5 := by omega
    rcases hi' with rfl | rfl | rfl | rfl | rfl | rfl
    · exact sim_or (ih 1 o (by decide) ho (by omega))
    · exact sim_and (ih 2 o (by decide) ho (by omega))
    · exact sim_not ho (fun h5 => ih 2 (o + 1) (by decide) (by omega) (by omega)) (ih 3 o (by decide) ho (by omega))
    · exact sim_sum (ih 4 o (by decide) ho (by omega))
    · exact sim_term (ih 5 o (by decide) ho (by omega))
    · exact sim_one ho (fun h5 => ih 0 (o + 1) (by decide) (by omega) (by omega)) (fun h5 => ih 5 (o + 1) (by decide) (by omega) (by omega))
end Sim3
