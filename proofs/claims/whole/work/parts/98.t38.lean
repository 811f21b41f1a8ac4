section Text1
variable {b : Nat → Nat} {K : Nat} {env : Nat → Int32} {c u : St} {o n s e : Nat}
theorem tok0_ok (h : PI b K env c u o n s e) : gZ c 105 = 0 ↔ gZ u 28 = 0 := by
  obtain ⟨b1, b2, b3, b4, nv, b5, b6, b7⟩ := h.2.2.2.1
  rcases b6 with ⟨t, k⟩ | ⟨t, k, _⟩ | ⟨t, k, y⟩ | ⟨j, hj, t, k, y⟩ | ⟨t, k⟩
  · exact ⟨fun _ => k, fun _ => t⟩
  · exact ⟨fun z => absurd (t.symm.trans z) (by decide), fun z => absurd (k.symm.trans z) (by decide)⟩
  · exact ⟨fun z => by rw [z] at t; exact absurd t (by decide), fun z => absurd (k.symm.trans z) (by decide)⟩
  · exact ⟨fun z => absurd (t.symm.trans z) (wc_ne j hj).1, fun z => absurd (k.symm.trans z) (by decide)⟩
  · refine ⟨fun z => absurd (t.symm.trans z) (by decide), fun z => ?_⟩
    rcases k with k | ⟨k, _⟩ <;> exact absurd (k.symm.trans z) (by decide)
def POUT (b : Nat → Nat) (K : Nat) (env : Nat → Int32) (c u : St) (n s : Nat) (rc rm : Option (Int32 × St)) : Prop :=
  (∃ (c' u' : St) (v : Int32) (n' s' e' : Nat), rc = some (1, c') ∧ rm = some (v, u') ∧ PI b K env c' u' 0 n' s' e' ∧ FrC c c' n ∧ FrM u u' ∧ n ≤ n' ∧ n' + s + 2 ≤ n + s' ∧ ∀ st, evN env (gA c' 103) n (n' - n) st = v :: st)
  ∨ ∃ (c' u' : St) (v : Int32) (s' : Nat), rc = some (0, c') ∧ rm = some (v, u') ∧ gZ c' 106 = nI s' ∧ s' ≤ K ∧ gZ u' 33 = 1 ∧ gZ u' 34 = nI s' ∧ FrC c c' 0 ∧ FrM u u'
theorem part_ok (h : PI b K env c u 0 n s e) (hn : n ≤ s) {i : Nat} (hi : i < 11) : POUT b K env c u n s (fX5_readPart c (wcN i)) (fX12_part u (lN (wwN i))) := by
  have hs := pi_s h
  unfold fX5_readPart fX5_pass fX12_part
  rw [isWord_ok h hi, cl1_s]
  by_cases ht : gZ c 105 = wcN i
  · obtain ⟨c1, u1, s1, e1, f1, f2, f3, f4, f5, f6⟩ := pi_adv h (by rw [ht]; exact (wc_ne i hi).1) (by rw [ht]; exact (wc_ne i hi).2.1)
    unfold fX12_part_b12 fX12_part_b23
    rw [if_pos ht, if_pos ht, f1, cl1_s, cl2_s, if_neg (by decide), if_neg (show ¬ (1 : Int32) = 0 by decide), if_pos h.2.2.2.2.2.2.1, f2, cl1_s, if_pos f3.2.2.2.2.2.2.1]
    rcases sim 60 0 0 (by decide) (by decide) (by decide) c1 u1 n s1 e1 f3 (by omega) with ⟨c2, u2, w, n2, s2, e2, g1, g2, g3, g4, g5, g6, g7, g8⟩ | ⟨c2, u2, w, s2, g1, g2, g3, g4, g5, g6, g7, g8⟩
    · have hs2 := pi_s g3
      have g1' : PGC 60 0 c1 0 = some (1, c2) := g1
      have hcm : FrC c c2 n := FrC_tr (fC_Fr f4 n) g4 (Nat.le_refl n)
      unfold fX12_part_b38 fX12_part_b52
      rw [g1', cl2_s, if_neg (by decide), g2, cl2_s, isSign_ok g3 (x := 59) (by decide), cl1_s]
      by_cases t59 : gZ c2 105 = 59
      · obtain ⟨c3, u3, s3, e3, k1, k2, k3, k4, k5, k6⟩ := pi_adv g3 (by rw [t59]; decide) (by rw [t59]; decide)
        rw [if_pos t59, if_pos t59, k1, cl1_s, cl2_s, if_neg (by decide), if_neg (show ¬ (1 : Int32) = 0 by decide), if_pos g3.2.2.2.2.2.2.1, k2, cl1_s]
        refine Or.inl ⟨c3, u3, w, n2, s3, e3, rfl, rfl, k3, FrC_tr hcm (fC_Fr k4 n) (Nat.le_refl n), FrM_tr (fM_Fr f5) (FrM_tr g5 (fM_Fr k5)), g6, by omega, fun st => ?_⟩
        rw [evN_congr (f := gA c3 103) (g := gA c2 103) (n2 - n) n st (fun j _ hj2 => (fC_Fr k4 n2).2.2.2 j (by omega))]
        exact g8 st
      · obtain ⟨u3, k1, k2, k3, k4⟩ := fail_ok g3
        rw [if_neg t59, if_neg t59, cl2_s, if_pos rfl, if_pos rfl, k1, cl1_s, k2, if_neg (by decide)]
        exact Or.inr ⟨c2, u3, w, s2, rfl, rfl, g3.2.2.2.1.1, hs2.1, k2, k3, FrC_0 hcm, FrM_tr (fM_Fr f5) (FrM_tr g5 k4)⟩
    · have g1' : PGC 60 0 c1 0 = some (0, c2) := g1
      unfold fX12_part_b38 fX12_part_b52
      rw [g1', cl2_s, if_pos rfl, g2, cl2_s, isSign_bad g5, cl1_s, if_pos rfl, fail_bad g5, cl1_s, g5, if_neg (by decide)]
      exact Or.inr ⟨c2, u2, w, s2, rfl, rfl, g3, g4, g5, g6, FrC_tr (fC_Fr f4 0) g7 (Nat.le_refl 0), FrM_tr (fM_Fr f5) g8⟩
  · obtain ⟨u3, k1, k2, k3, k4⟩ := fail_ok h
    unfold fX12_part_b12 fX12_part_b23 fX12_part_b38 fX12_part_b52
    rw [if_neg ht, if_neg ht, cl2_s, if_pos rfl, if_pos rfl, k1, cl1_s, k2, if_neg (by decide), if_neg (by decide), isSign_bad k2, cl1_s, if_pos rfl, fail_bad k2, cl1_s, k2, if_neg (by decide)]
    exact Or.inr ⟨c, u3, 0, s, rfl, rfl, h.2.2.2.1.1, hs.1, k2, k3, FrC_rf c 0, k4⟩
end Text1
/-- a reading's first state -/
def rd0 (u : St) (i K : Nat) (a b p : Int32) : St := setZ (setZ (setZ (setZ (setZ (setZ (setZ (setZ u 35 a) 36 b) 37 p) 26 (nI (160 * i))) 27 (nI K)) 31 0) 32 0) 33 0
def rdK (w : Int32) (u11 : St) : Option (Int32 × St) := cl2 (fX12_part u11 168727) (fun x12 u13 => if gZ u13 33 = 0 then cl2 (fX12_part u13 6564179) (fun x14 u15 => fX12_read_b81 u15 w x12 x14) else (fX12_read_b81 u13 w x12 0))
theorem rd_eq {u : St} {i K : Nat} (hi : i < 6) (hK : gA u 22 i = nI K) (a b p w : Int32) : fX12_read u (nI i) a b p w = cl1 (fX12_next (rd0 u i K a b p)) (rdK w) := by
  unfold fX12_read rd0
  rw [nmS_s, nmS_s, nmS_s, nmS_s, show (160 : Int32) = nI 160 from rfl, pk_mul, ldI_s hi (by decide), nmS_s, nmS_s, nmS_s, nmS_s]
  rw [gA_setZ, gA_setZ, gA_setZ, gA_setZ, hK]
  rfl
theorem rd_z (u : St) (i K : Nat) (a b p : Int32) : ∀ k, k ∈ ([0, 1, 2, 3, 8, 23, 25, 38, 45, 47, 50, 51, 53] : List Nat) → gZ (rd0 u i K a b p) k = gZ u k := by
  intro k hk
  have : ∀ k, k ∈ ([0, 1, 2, 3, 8, 23, 25, 38, 45, 47, 50, 51, 53] : List Nat) → k ≠ 35 ∧ k ≠ 36 ∧ k ≠ 37 ∧ k ≠ 26 ∧ k ≠ 27 ∧ k ≠ 31 ∧ k ≠ 32 ∧ k ≠ 33 := by decide
  obtain ⟨h1, h2, h3, h4, h5, h6, h7, h8⟩ := this k hk
  unfold rd0
  rw [gZ_n _ _ h8, gZ_n _ _ h7, gZ_n _ _ h6, gZ_n _ _ h5, gZ_n _ _ h4, gZ_n _ _ h3, gZ_n _ _ h2, gZ_n _ _ h1]
theorem keepR_of {u u' : St} {i K : Nat} {a b p : Int32} (h : FrM (rd0 u i K a b p) u') : keepR u u' := by
  refine ⟨fun k hk => ?_, ?_, ?_⟩
  · have : ∀ k, k ∈ ([0, 1, 2, 3, 8, 23, 25, 38, 45, 47, 50, 51, 53] : List Nat) → ¬ k = 28 ∧ ¬ k = 29 ∧ ¬ k = 31 ∧ ¬ k = 32 ∧ ¬ k = 33 ∧ ¬ k = 34 := by decide
    obtain ⟨h1, h2, h3, h4, h5, h6⟩ := this k hk
    rw [h.1 k h1 h2 h3 h4 h5 h6, rd_z u i K a b p k hk]
  · funext j
    unfold gA
    rw [h.2]
    rfl
  · funext j
    unfold gB
    rw [h.2]
    rfl
def FrT (c c' : St) : Prop := (∀ k, ¬ k = 101 → ¬ k = 104 → ¬ k = 105 → ¬ k = 106 → ¬ k = 107 → ¬ k = 108 → gZ c' k = gZ c k) ∧ (∀ k, ¬ k = 103 → gA c' k = gA c k) ∧ ∀ k, gB c' k = gB c k
theorem FrT_of {c c3 c' : St} {n : Nat} (h3 : FrT c c3) (h : FrC c3 c' n) : FrT c c' := ⟨fun k h1 h2 h3' h4 h5 h6 => (h.1 k h2 h3' h4 h5 h6).trans (h3.1 k h1 h2 h3' h4 h5 h6), fun k hk => (h.2.1 k hk).trans (h3.2.1 k hk), fun k => (h.2.2.1 k).trans (h3.2.2 k)⟩
theorem FrT_Z (c : St) {k : Nat} (h : k = 101 ∨ k = 104 ∨ k = 105 ∨ k = 106 ∨ k = 107 ∨ k = 108) (v : Int32) : FrT c (setZ c k v) := ⟨fun j h1 h2 h3 h4 h5 h6 => gZ_n c v (by omega), fun _ _ => rfl, fun _ => rfl⟩
theorem FrT_tr {a b c : St} (h : FrT a b) (k : FrT b c) : FrT a c := ⟨fun j h1 h2 h3 h4 h5 h6 => (k.1 j h1 h2 h3 h4 h5 h6).trans (h.1 j h1 h2 h3 h4 h5 h6), fun j hj => (k.2.1 j hj).trans (h.2.1 j hj), fun j => (k.2.2 j).trans (h.2.2 j)⟩
theorem read_ok {c u : St} {b : Nat → Nat} {K i : Nat} {env : Nat → Int32} {x y p : Int32} (hc : TXc c b K) (hi : i < 6) (hK : gA u 22 i = nI K) (ht : ∀ j, j < K → b j < 256 ∧ gA u 21 (160 * i + j) = nI (b j)) (hE : EnvOK u x y p env) :
  ∃ (f : Int32) (c' : St), fX5_readText c = some (f, c') ∧ FrT c c' ∧
    ((f = -1 ∧ ∃ sp N : Nat, gZ c' 101 = nI sp ∧ gZ c' 104 = nI N ∧ sp ≤ N ∧ N < 160 ∧ (∃ u', fX12_read u (nI i) x y p 0 = some (top0 (evN env (gA c' 103) 0 sp []), u') ∧ keepR u u' ∧ gZ u' 33 = 0) ∧ ∃ u', fX12_read u (nI i) x y p 1 = some (top0 (evN env (gA c' 103) sp (N - sp) []), u') ∧ keepR u u' ∧ gZ u' 33 = 0)
    ∨ ∃ (s' : Nat), f = nI s' ∧ s' ≤ K ∧ ∃ (v : Int32) (u' : St), fX12_read u (nI i) x y p 0 = some (v, u') ∧ keepR u u' ∧ gZ u' 33 = 1 ∧ gZ u' 34 = nI s') := by
  have hK160 := hc.1
  obtain ⟨rfl, rfl, rfl, e3, ⟨sx, e4, e5⟩, e6⟩ := hE
  have z8 := rd_z u i K (env 0) (env 1) (env 2) 8 (by decide)
  have z3 := rd_z u i K (env 0) (env 1) (env 2) 3 (by decide)
  have z1 := rd_z u i K (env 0) (env 1) (env 2) 1 (by decide)
  have hA : (rd0 u i K (env 0) (env 1) (env 2)).2.2 = u.2.2 := rfl
  have hN : NmOK (rd0 u i K (env 0) (env 1) (env 2)) env := ⟨rfl, rfl, rfl, by rw [z1]; exact e3.symm, ⟨sx, (stand_congr z8 hA (-1)).trans e4, e5⟩, (open_congr z3 hA _ _ _).trans e6⟩
  have hu : TXm (rd0 u i K (env 0) (env 1) (env 2)) b K := ⟨hK160, rfl, 160 * i, by omega, rfl, ht⟩
  have hc3 : TXc (setZ (setZ (setZ c 104 0) 101 0) 107 0) b K := hc
  have hf3 : FrT c (setZ (setZ (setZ c 104 0) 101 0) 107 0) := FrT_tr (FrT_tr (FrT_Z c (by decide) 0) (FrT_Z _ (by decide) 0)) (FrT_Z _ (by decide) 0)
  obtain ⟨c5, u11, s, e, f1, f2, f3, f4, f5, f6, f7, f8⟩ := adv_ok hc3 hu (p := 0) rfl rfl (Nat.zero_le K)
  have g0 : PI b K env c5 u11 0 0 s e := by
    refine ⟨TXc_Fr hc3 (fC_Fr f3 0), TXm_Fr hu (fM_Fr f4), Nm_Fr hN (fM_Fr f4), f5, f7, f8, ?_, ?_, ?_⟩
    · rw [f4.1 33 (by decide) (by decide) (by decide)]; rfl
    · rw [f4.1 32 (by decide) (by decide) (by decide)]; rfl
    · rw [f3.1 104 (by decide) (by decide) (by decide) (by decide)]; rfl
  have hf5 : FrT c c5 := FrT_of hf3 (fC_Fr f3 0)
  have hm5 : FrM (rd0 u i K (env 0) (env 1) (env 2)) u11 := fM_Fr f4
  have hrd : ∀ w : Int32, fX12_read u (nI i) (env 0) (env 1) (env 2) w = rdK w u11 := fun w => by rw [rd_eq hi hK, f2, cl1_s]
  unfold fX5_readText
  rw [nmS_s, nmS_s, nmS_s, f1, cl1_s]
  have bad : ∀ (u' : St) (w v0 v1 : Int32), gZ u' 33 = 1 → w = 0 → fX12_read_b81 u' w v0 v1 = some (v0, u') := by
    intro u' w v0 v1 h33 hw
    unfold fX12_read_b81 fX12_read_b101
    rw [h33, if_neg (by decide), if_pos hw]
  rcases part_ok g0 (Nat.zero_le s) (i := 0) (by decide) with ⟨c7, u13, w7, n7, s7, e7, g1, g2, g3, g4, g5, g6, g7, g8⟩ | ⟨c7, u13, w7, s7, g1, g2, g3, g4, g5, g6, g7, g8⟩
  · have g1' : fX5_readPart c5 3 = some (1, c7) := g1
    have g2' : fX12_part u11 168727 = some (w7, u13) := g2
    have hs7 := pi_s g3
    have g3' : PI b K env (setZ c7 101 (nI n7)) u13 0 n7 s7 e7 := g3
    have hf7 : FrT c (setZ c7 101 (nI n7)) := FrT_tr (FrT_of hf5 g4) (FrT_Z c7 (by decide) _)
    rw [g1', cl2_s, if_neg (by decide), nmS_s, g3.2.2.2.2.2.2.2.2]
    rcases part_ok g3' (by omega) (i := 1) (by decide) with ⟨c9, u15, w9, n9, s9, e9, k1, k2, k3, k4, k5, k6, k7, k8⟩ | ⟨c9, u15, w9, s9, k1, k2, k3, k4, k5, k6, k7, k8⟩
    · have k1' : fX5_readPart (setZ c7 101 (nI n7)) 4 = some (1, c9) := k1
      have k2' : fX12_part u13 6564179 = some (w9, u15) := k2
      have hs9 := pi_s k3
      have hmr : FrM (rd0 u i K (env 0) (env 1) (env 2)) u15 := FrM_tr hm5 (FrM_tr g5 k5)
      have hf9 : FrT c c9 := FrT_of hf7 k4
      have hk : ∀ w : Int32, fX12_read u (nI i) (env 0) (env 1) (env 2) w = fX12_read_b81 u15 w w7 w9 := fun w => by
        rw [hrd w]
        unfold rdK
        rw [g2', cl2_s, if_pos g3.2.2.2.2.2.2.1, k2', cl2_s]
      rw [k1', cl2_s, if_neg (by decide)]
      by_cases t0 : gZ c9 105 = 0
      · rw [if_pos t0]
        refine ⟨-1, c9, rfl, hf9, Or.inl ⟨rfl, n7, n9, ?_, k3.2.2.2.2.2.2.2.2, k6, by omega, ⟨u15, ?_, keepR_of hmr, k3.2.2.2.2.2.2.1⟩, ⟨u15, ?_, keepR_of hmr, k3.2.2.2.2.2.2.1⟩⟩⟩
        · rw [k4.1 101 (by decide) (by decide) (by decide) (by decide) (by decide)]; rfl
        · rw [hk]
          unfold fX12_read_b81 fX12_read_b101
          rw [if_pos k3.2.2.2.2.2.2.1, if_pos ((tok0_ok k3).mp t0), if_pos rfl]
          have : evN env (gA c9 103) 0 n7 [] = w7 :: [] := by
            rw [evN_congr (f := gA c9 103) (g := gA c7 103) n7 0 [] (fun j _ hj2 => k4.2.2.2 j (by omega))]
            have := g8 []
            rw [Nat.sub_zero] at this
            exact this
          rw [this]
          rfl
        · rw [hk]
          unfold fX12_read_b81 fX12_read_b101
          rw [if_pos k3.2.2.2.2.2.2.1, if_pos ((tok0_ok k3).mp t0), if_neg (by decide), k8 []]
          rfl
      · obtain ⟨u16, l1, l2, l3, l4⟩ := fail_ok k3
        rw [if_neg t0]
        refine ⟨_, c9, rfl, hf9, Or.inr ⟨s9, k3.2.2.2.1.1, hs9.1, w7, u16, ?_, keepR_of (FrM_tr hmr l4), l2, l3⟩⟩
        rw [hk]
        unfold fX12_read_b81 fX12_read_b101
        rw [if_pos k3.2.2.2.2.2.2.1, if_neg (fun z => t0 ((tok0_ok k3).mpr z)), l1, cl1_s, if_pos rfl]
    · have k1' : fX5_readPart (setZ c7 101 (nI n7)) 4 = some (0, c9) := k1
      have k2' : fX12_part u13 6564179 = some (w9, u15) := k2
      have hmr : FrM (rd0 u i K (env 0) (env 1) (env 2)) u15 := FrM_tr hm5 (FrM_tr g5 k8)
      rw [k1', cl2_s, if_pos rfl]
      refine ⟨_, c9, rfl, FrT_of hf7 k7, Or.inr ⟨s9, k3, k4, w7, u15, ?_, keepR_of hmr, k5, k6⟩⟩
      rw [hrd 0]
      unfold rdK
      rw [g2', cl2_s, if_pos g3.2.2.2.2.2.2.1, k2', cl2_s]
      exact bad u15 0 w7 w9 k5 rfl
  · have g1' : fX5_readPart c5 3 = some (0, c7) := g1
    have g2' : fX12_part u11 168727 = some (w7, u13) := g2
    rw [g1', cl2_s, if_pos rfl]
    refine ⟨_, c7, rfl, FrT_of hf5 g7, Or.inr ⟨s7, g3, g4, w7, u13, ?_, keepR_of (FrM_tr hm5 g8), g5, g6⟩⟩
    rw [hrd 0]
    unfold rdK
    rw [g2', cl2_s, g5, if_neg (by decide)]
    exact bad u13 0 w7 0 g5 rfl
