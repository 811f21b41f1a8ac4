section Sim2
variable {b : Nat → Nat} {K : Nat} {env : Nat → Int32} {c u : St} {o n s e : Nat}
theorem sign_Y (h : PI b K env c u o n s e) {x : Int32} (hx : x = 40 ∨ x = 41 ∨ x = 59 ∨ x = 43 ∨ x = 45 ∨ x = 42 ∨ x = 60 ∨ x = 61) (ht : gZ c 105 = x) : gY u 30 = Int32.toInt64 x := by
  obtain ⟨a1, a2, a3, ⟨b1, b2, b3, b4, nv, b5, b6, b7⟩, a5, a6, a7, a8, a9⟩ := h
  rw [ht] at b6
  rcases b6 with ⟨t, k⟩ | ⟨t, k, _⟩ | ⟨t, k, y⟩ | ⟨j, hj, t, k, y⟩ | ⟨t, k⟩
  · rw [t] at hx; exact absurd hx (by decide)
  · rw [t] at hx; exact absurd hx (by decide)
  · exact y
  · rw [t] at hx; exact absurd hx (wc_ne j hj).2.2.2.1
  · rw [t] at hx; exact absurd hx (by decide)
theorem ev_or (v w : Int32) (st : List Int32) : ev1 env (-9) (w :: v :: st) = bI (v ≠ 0 ∨ w ≠ 0) :: st := by
  unfold ev1
  rw [if_neg (by decide), if_neg (by decide)]
  rfl
theorem ev_and (v w : Int32) (st : List Int32) : ev1 env (-10) (w :: v :: st) = bI (v ≠ 0 ∧ w ≠ 0) :: st := by
  unfold ev1
  rw [if_neg (by decide), if_neg (by decide)]
  rfl
theorem ev_lt (v w : Int32) (st : List Int32) : ev1 env (-11) (w :: v :: st) = bI (v < w) :: st := by
  unfold ev1
  rw [if_neg (by decide), if_neg (by decide)]
  rfl
theorem ev_eq (v w : Int32) (st : List Int32) : ev1 env (-12) (w :: v :: st) = bI (v = w) :: st := by
  unfold ev1
  rw [if_neg (by decide), if_neg (by decide)]
  rfl
theorem ev_add (v w : Int32) (st : List Int32) : ev1 env (-13) (w :: v :: st) = (v + w) :: st := by
  unfold ev1
  rw [if_neg (by decide), if_neg (by decide)]
  rfl
theorem ev_sub (v w : Int32) (st : List Int32) : ev1 env (-14) (w :: v :: st) = (v - w) :: st := by
  unfold ev1
  rw [if_neg (by decide), if_neg (by decide)]
  rfl
theorem ev_mul (v w : Int32) (st : List Int32) : ev1 env (-15) (w :: v :: st) = (v * w) :: st := by
  unfold ev1
  rw [if_neg (by decide), if_neg (by decide)]
  rfl
theorem ev_neg (v : Int32) (st : List Int32) : ev1 env (-7) (v :: st) = (-v) :: st := by
  unfold ev1
  rw [if_neg (by decide), if_pos (by decide)]
  rfl
theorem ev_not (v : Int32) (st : List Int32) : ev1 env (-8) (v :: st) = bI (v = 0) :: st := by
  unfold ev1
  rw [if_neg (by decide), if_pos (by decide)]
  rfl
def CLm (b : Nat → Nat) (K : Nat) (env : Nat → Int32) (f i o : Nat) : Prop := ∀ c u n s e, PI b K env c u o n s e → n ≤ s → OUT b K env c u o n s (PGC f i c (nI o)) (PGM f i u)
theorem sim_or {f : Nat} (ih : CLm b K env f 1 o) : CLm b K env (f + 1) 0 o := by
  intro c u n s e h hn
  show OUT b K env c u o n s (fX5_readOr (PGC f) c (nI o)) (fX12_either (PGM f) u)
  unfold fX5_readOr fX12_either
  have hw : ∀ c u n s e, PI b K env c u o n s e → fX12_isWord u 423 = some (if gZ c 105 = -9 then 1 else 0) := fun c u n s e h => isWord_ok h (i := 2) (by decide)
  refine chain_sim (RC := fun c => PGC f 1 c (nI o)) (RM := PGM f 1) ih (LC := fX5_readOr_l12 (PGC f) (nI o)) (LM := fX12_either_l5 (PGM f)) (fun t => decide (t = -9)) (fun _ => -9) (fun _ v w => bI (v ≠ 0 ∨ w ≠ 0)) ?_ ?_ ?_ ?_ ?_ ?_ ?_ h hn
  · intro t ht
    rw [of_decide_eq_true ht]
    exact ⟨by decide, by decide⟩
  · intro m c k hk
    show fX5_readOr_l12b (PGC f) (fX5_readOr_l12 (PGC f) (nI o) m) c (nI o) k = _
    unfold fX5_readOr_l12b
    rw [if_neg (of_decide_eq_false hk)]
    by_cases q : 160 ≤ k
    · rw [if_pos q]
    · rw [if_neg q]
  · intro m c k hk ht
    show fX5_readOr_l12b (PGC f) (fX5_readOr_l12 (PGC f) (nI o) m) c (nI o) (nI k) = _
    unfold fX5_readOr_l12b
    rw [if_neg (show ¬ (160 : Int32) ≤ nI k from nI_ge (b := 160) hk (by decide)), if_pos (of_decide_eq_true ht)]
  · intro m c u v n s e h ht
    show fX12_either_l5b (PGM f) (fX12_either_l5 (PGM f) m) u v = _
    unfold fX12_either_l5b
    rw [hw c u n s e h, if_neg (of_decide_eq_false ht), cl1_s, if_pos rfl]
  · intro m u v hb
    show fX12_either_l5b (PGM f) (fX12_either_l5 (PGM f) m) u v = _
    unfold fX12_either_l5b
    rw [isWord_bad hb, cl1_s, if_pos rfl]
  · intro m c u v n s e h ht
    show fX12_either_l5b (PGM f) (fX12_either_l5 (PGM f) m) u v = _
    unfold fX12_either_l5b fX12_either_b32 fX12_either_b37
    rw [hw c u n s e h, if_pos (of_decide_eq_true ht), cl1_s, if_neg (by decide)]
    congr 1; funext u5; congr 1; funext x6 u7
    try dsimp only
    by_cases q : v = 0
    · rw [if_pos q]
      by_cases q2 : x6 = 0
      · rw [if_pos q2, bI_f (fun z => z.elim (fun w => w q) (fun w => w q2))]
      · rw [if_neg q2, bI_t (Or.inr q2)]
    · rw [if_neg q, bI_t (Or.inl q)]
  · intro t v w st _
    exact ev_or v w st
theorem sim_and {f : Nat} (ih : CLm b K env f 2 o) : CLm b K env (f + 1) 1 o := by
  intro c u n s e h hn
  show OUT b K env c u o n s (fX5_readAnd (PGC f) c (nI o)) (fX12_both_ (PGM f) u)
  unfold fX5_readAnd fX12_both_
  have hw : ∀ c u n s e, PI b K env c u o n s e → fX12_isWord u 1111 = some (if gZ c 105 = -10 then 1 else 0) := fun c u n s e h => isWord_ok h (i := 3) (by decide)
  refine chain_sim (RC := fun c => PGC f 2 c (nI o)) (RM := PGM f 2) ih (LC := fX5_readAnd_l12 (PGC f) (nI o)) (LM := fX12_both__l5 (PGM f)) (fun t => decide (t = -10)) (fun _ => -10) (fun _ v w => bI (v ≠ 0 ∧ w ≠ 0)) ?_ ?_ ?_ ?_ ?_ ?_ ?_ h hn
  · intro t ht
    rw [of_decide_eq_true ht]
    exact ⟨by decide, by decide⟩
  · intro m c k hk
    show fX5_readAnd_l12b (PGC f) (fX5_readAnd_l12 (PGC f) (nI o) m) c (nI o) k = _
    unfold fX5_readAnd_l12b
    rw [if_neg (of_decide_eq_false hk)]
    by_cases q : 160 ≤ k
    · rw [if_pos q]
    · rw [if_neg q]
  · intro m c k hk ht
    show fX5_readAnd_l12b (PGC f) (fX5_readAnd_l12 (PGC f) (nI o) m) c (nI o) (nI k) = _
    unfold fX5_readAnd_l12b
    rw [if_neg (show ¬ (160 : Int32) ≤ nI k from nI_ge (b := 160) hk (by decide)), if_pos (of_decide_eq_true ht)]
  · intro m c u v n s e h ht
    show fX12_both__l5b (PGM f) (fX12_both__l5 (PGM f) m) u v = _
    unfold fX12_both__l5b
    rw [hw c u n s e h, if_neg (of_decide_eq_false ht), cl1_s, if_pos rfl]
  · intro m u v hb
    show fX12_both__l5b (PGM f) (fX12_both__l5 (PGM f) m) u v = _
    unfold fX12_both__l5b
    rw [isWord_bad hb, cl1_s, if_pos rfl]
  · intro m c u v n s e h ht
    show fX12_both__l5b (PGM f) (fX12_both__l5 (PGM f) m) u v = _
    unfold fX12_both__l5b fX12_both__b36 fX12_both__b37
    rw [hw c u n s e h, if_pos (of_decide_eq_true ht), cl1_s, if_neg (by decide)]
    congr 1; funext u5; congr 1; funext x6 u7
    try dsimp only
    by_cases q : v = 0
    · rw [if_pos q, bI_f (fun z => z.1 q)]
    · rw [if_neg q]
      by_cases q2 : x6 = 0
      · rw [if_pos q2, bI_f (fun z => z.2 q2)]
      · rw [if_neg q2, bI_t ⟨q, q2⟩]
  · intro t v w st _
    exact ev_and v w st
theorem sim_sum {f : Nat} (ih : CLm b K env f 4 o) : CLm b K env (f + 1) 3 o := by
  intro c u n s e h hn
  show OUT b K env c u o n s (fX5_readSum (PGC f) c (nI o)) (fX12_added (PGM f) u)
  unfold fX5_readSum fX12_added
  refine chain_sim (RC := fun c => PGC f 4 c (nI o)) (RM := PGM f 4) ih (LC := fX5_readSum_l12 (PGC f) (nI o)) (LM := fX12_added_l5 (PGM f)) (fun t => decide (t = 43 ∨ t = 45)) (fun t => if t = 43 then -13 else -14) (fun t v w => if t = 43 then v + w else v - w) ?_ ?_ ?_ ?_ ?_ ?_ ?_ h hn
  · intro t ht
    rcases of_decide_eq_true ht with rfl | rfl <;> exact ⟨by decide, by decide⟩
  · intro m c k hk
    show fX5_readSum_l12b (PGC f) (fX5_readSum_l12 (PGC f) (nI o) m) c (nI o) k = _
    have hk' := of_decide_eq_false hk
    unfold fX5_readSum_l12b
    rw [if_neg (fun z => hk' (Or.inl z)), if_neg (fun z => hk' (Or.inr z))]
    by_cases q : 160 ≤ k
    · rw [if_pos q]
    · rw [if_neg q]
  · intro m c k hk ht
    show fX5_readSum_l12b (PGC f) (fX5_readSum_l12 (PGC f) (nI o) m) c (nI o) (nI k) = _
    unfold fX5_readSum_l12b fX5_readSum_b37 fX5_readSum_b53
    rw [if_neg (show ¬ (160 : Int32) ≤ nI k from nI_ge (b := 160) hk (by decide))]
    try dsimp only
    rcases of_decide_eq_true ht with q | q
    · rw [q, if_pos rfl, if_pos rfl, if_pos rfl]
    · rw [q, if_neg (by decide), if_pos rfl, if_neg (by decide), if_neg (by decide)]
  · intro m c u v n s e h ht
    have hk' := of_decide_eq_false ht
    show fX12_added_l5b (PGM f) (fX12_added_l5 (PGM f) m) u v = _
    unfold fX12_added_l5b
    rw [isSign_ok h (x := 43) (by decide), if_neg (fun z => hk' (Or.inl z)), cl1_s, if_pos rfl, isSign_ok h (x := 45) (by decide), if_neg (fun z => hk' (Or.inr z)), cl1_s, if_pos rfl]
  · intro m u v hb
    show fX12_added_l5b (PGM f) (fX12_added_l5 (PGM f) m) u v = _
    unfold fX12_added_l5b
    rw [isSign_bad hb, cl1_s, if_pos rfl, isSign_bad hb, cl1_s, if_pos rfl]
  · intro m c u v n s e h ht
    show fX12_added_l5b (PGM f) (fX12_added_l5 (PGM f) m) u v = _
    unfold fX12_added_l5b fX12_added_b23 fX12_added_b39 fX12_added_b62
    rcases of_decide_eq_true ht with q | q
    · have hy := sign_Y h (x := 43) (by decide) q
      rw [isSign_ok h (x := 43) (by decide), if_pos q, cl1_s, if_neg (by decide), hy, if_pos (by decide)]
      congr 1; funext u5; congr 1; funext x6 u7
      try dsimp only
      rw [if_neg (by decide), q, if_pos rfl]
    · have hy := sign_Y h (x := 45) (by decide) q
      rw [isSign_ok h (x := 43) (by decide), q, if_neg (by decide), cl1_s, if_pos rfl, isSign_ok h (x := 45) (by decide), q, if_pos rfl, cl1_s, if_neg (by decide), hy, if_neg (by decide)]
      congr 1
  · intro t v w st ht
    try dsimp only
    rcases of_decide_eq_true ht with rfl | rfl
    · rw [if_pos rfl, if_pos rfl]; exact ev_add v w st
    · rw [if_neg (by decide), if_neg (by decide)]; exact ev_sub v w st
theorem sim_term {f : Nat} (ih : CLm b K env f 5 o) : CLm b K env (f + 1) 4 o := by
  intro c u n s e h hn
  show OUT b K env c u o n s (fX5_readTerm (PGC f) c (nI o)) (fX12_term (PGM f) u)
  unfold fX5_readTerm fX12_term
  refine chain_sim (RC := fun c => PGC f 5 c (nI o)) (RM := PGM f 5) ih (LC := fX5_readTerm_l12 (PGC f) (nI o)) (LM := fX12_term_l5 (PGM f)) (fun t => decide (t = 42)) (fun _ => -15) (fun _ v w => v * w) ?_ ?_ ?_ ?_ ?_ ?_ ?_ h hn
  · intro t ht
    rw [of_decide_eq_true ht]
    exact ⟨by decide, by decide⟩
  · intro m c k hk
    show fX5_readTerm_l12b (PGC f) (fX5_readTerm_l12 (PGC f) (nI o) m) c (nI o) k = _
    unfold fX5_readTerm_l12b
    rw [if_neg (of_decide_eq_false hk)]
    by_cases q : 160 ≤ k
    · rw [if_pos q]
    · rw [if_neg q]
  · intro m c k hk ht
    show fX5_readTerm_l12b (PGC f) (fX5_readTerm_l12 (PGC f) (nI o) m) c (nI o) (nI k) = _
    unfold fX5_readTerm_l12b
    rw [if_neg (show ¬ (160 : Int32) ≤ nI k from nI_ge (b := 160) hk (by decide)), if_pos (of_decide_eq_true ht)]
  · intro m c u v n s e h ht
    show fX12_term_l5b (PGM f) (fX12_term_l5 (PGM f) m) u v = _
    unfold fX12_term_l5b
    rw [isSign_ok h (x := 42) (by decide), if_neg (of_decide_eq_false ht), cl1_s, if_pos rfl]
  · intro m u v hb
    show fX12_term_l5b (PGM f) (fX12_term_l5 (PGM f) m) u v = _
    unfold fX12_term_l5b
    rw [isSign_bad hb, cl1_s, if_pos rfl]
  · intro m c u v n s e h ht
    show fX12_term_l5b (PGM f) (fX12_term_l5 (PGM f) m) u v = _
    unfold fX12_term_l5b
    rw [isSign_ok h (x := 42) (by decide), if_pos (of_decide_eq_true ht), cl1_s, if_neg (by decide)]
    rfl
  · intro t v w st _
    exact ev_mul v w st
theorem pi_32 (h : PI b K env c u o n s e) (o' : Nat) : PI b K env c (setZ u 32 (nI o')) o' n s e := by
  obtain ⟨a1, a2, a3, ⟨b1, b2, b3, b4, nv, b5, b6, b7⟩, a5, a6, a7, a8, a9⟩ := h
  refine ⟨a1, TXm_Fr a2 (FrM_Z u (by decide) _), Nm_Fr a3 (FrM_Z u (by decide) _), ⟨b1, b2, b3, by rw [gZ_n _ _ (by decide)]; exact b4, nv, b5, ?_, fun h0 h1 => ⟨(b7 h0 h1).1, by rw [gZ_n _ _ (by decide)]; exact (b7 h0 h1).2⟩⟩, a5, a6, by rw [gZ_n _ _ (by decide)]; exact a7, gZ_s _ _ _, a9⟩
  unfold MTk at b6 ⊢
  rw [gZ_n u (nI o') (show 28 ≠ 32 by decide), gY_setZ]
  exact b6
theorem opens_ok (h : PI b K env c u o n s e) (ho : o < 5) (h0 : ¬ gZ c 105 = 0) (h1 : ¬ gZ c 105 = 1) : ∃ c' u' s' e', fX5_advance c = some c' ∧ fX12_opens u = some (1, u') ∧ PI b K env c' u' (o + 1) n s' e' ∧ fC c c' ∧ FrM u u' ∧ s + 1 ≤ s' := by
  obtain ⟨c', u', s', e', f1, f2, f3, f4, f5, f6⟩ := pi_adv (pi_32 h (o + 1)) h0 h1
  refine ⟨c', u', s', e', f1, ?_, f3, f4, FrM_tr (FrM_Z u (by decide) _) (fM_Fr f5), f6⟩
  unfold fX12_opens
  rw [h.2.2.2.2.2.2.2.1, if_neg (show ¬ nI o = 5 from nI_ne (b := 5) (by omega) (by decide) (by omega)), nmS_s, nI_1, f2, cl1_s]
theorem opens_no (h : PI b K env c u o n s e) (ho : o = 5) : ∃ u', fX12_opens u = some (0, u') ∧ gZ u' 33 = 1 ∧ gZ u' 34 = nI s ∧ FrM u u' := by
  obtain ⟨u', f1, f2, f3, f4⟩ := fail_ok h
  refine ⟨u', ?_, f2, f3, f4⟩
  unfold fX12_opens
  rw [h.2.2.2.2.2.2.2.1, ho, if_pos (by decide), f1, cl1_s]
theorem out_fail (h : PI b K env c u o n s e) {u' : St} {v : Int32} (h1 : gZ u' 33 = 1) (h2 : gZ u' 34 = nI s) (h3 : FrM u u') : OUT b K env c u o n s (some (0, c)) (some (v, u')) := Or.inr ⟨c, u', v, s, rfl, rfl, h.2.2.2.1.1, (pi_s h).1, h1, h2, FrC_rf c 0, h3⟩
theorem sim_not {f : Nat} (ho : o ≤ 5) (ih : o < 5 → CLm b K env f 2 (o + 1)) (ih3 : CLm b K env f 3 o) : CLm b K env (f + 1) 2 o := by
  intro c u n s e h hn
  show OUT b K env c u o n s (fX5_readNot (PGC f) c (nI o)) (fX12_not (PGM f) u)
  have hs := pi_s h
  have hw : fX12_isWord u 10631 = some (if gZ c 105 = -8 then 1 else 0) := isWord_ok h (i := 4) (by decide)
  unfold fX5_readNot fX12_not
  rw [hw, cl1_s]
  by_cases ht : gZ c 105 = -8
  · rw [if_pos ht, if_pos ht, if_neg (show ¬ (1 : Int32) = 0 by decide)]
    by_cases ho5 : o < 5
    · obtain ⟨c1, u1, s1, e1, f1, f2, f3, f4, f5, f6⟩ := opens_ok h ho5 (by rw [ht]; decide) (by rw [ht]; decide)
      rw [if_pos (show nI o < 5 from nI_lt (b := 5) ho5 (by decide)), f1, cl1_s, f2, cl2_s, if_neg (by decide), nI_1]
      rcases ih ho5 c1 u1 n s1 e1 f3 (by omega) with ⟨c2, u2, w, n2, s2, e2, g1, g2, g3, g4, g5, g6, g7, g8⟩ | ⟨c2, u2, w, s2, g1, g2, g3, g4, g5, g6, g7, g8⟩
      · have hs2 := pi_s g3
        have hcm : FrC c c2 n := FrC_tr (fC_Fr f4 n) g4 (Nat.le_refl n)
        rw [g1, cl2_s, if_neg (by decide), write_ok g3.2.2.2.2.2.2.2.2 (by omega), cl2_s, if_neg (by decide), g2, cl2_s, nmS_s, g3.2.2.2.2.2.2.2.1, nI_pred]
        refine Or.inl ⟨_, setZ u2 32 (nI o), bI (w = 0), n2 + 1, s2, e2, rfl, ?_, pi_32 (pi_write g3 _) o, FrC_tr hcm (FrC_write c2 n2 n (by omega) _ _) (Nat.le_refl n), FrM_tr f5 (FrM_tr g5 (FrM_Z u2 (by decide) _)), by omega, by omega, fun st => ?_⟩
        · by_cases q : w = 0
          · rw [if_pos q, bI_t q]
          · rw [if_neg q, bI_f q]
        · rw [gA_setZ, gA_s, show n2 + 1 - n = (n2 - n) + 1 by omega, evN_app, evN_congr (f := upd (gA c2 103) n2 (-8)) (g := gA c2 103) (n2 - n) n st (fun j hj1 hj2 => by rw [upd_n _ _ (by omega)]), g8, show n + (n2 - n) = n2 by omega]
          show ev1 env (upd (gA c2 103) n2 (-8) n2) (w :: st) = _
          rw [upd_s]
          exact ev_not w st
      · rw [g1, cl2_s, if_pos rfl, g2, cl2_s, nmS_s]
        have hfr : FrM u (setZ u2 32 ((gZ u2 32) - 1)) := FrM_tr f5 (FrM_tr g8 (FrM_Z u2 (by decide) _))
        have hfc : FrC c c2 0 := FrC_tr (fC_Fr f4 0) g7 (Nat.le_refl 0)
        by_cases q : w = 0
        · rw [if_pos q]
          exact Or.inr ⟨c2, _, 1, s2, rfl, rfl, g3, g4, by rw [gZ_n _ _ (by decide)]; exact g5, by rw [gZ_n _ _ (by decide)]; exact g6, hfc, hfr⟩
        · rw [if_neg q]
          exact Or.inr ⟨c2, _, 0, s2, rfl, rfl, g3, g4, by rw [gZ_n _ _ (by decide)]; exact g5, by rw [gZ_n _ _ (by decide)]; exact g6, hfc, hfr⟩
    · obtain ⟨u', f1, f2, f3, f4⟩ := opens_no h (by omega)
      rw [if_neg (show ¬ nI o < 5 from nI_nlt (b := 5) (by omega) (by omega)), f1, cl2_s, if_pos rfl]
      exact out_fail h f2 f3 f4
  · rw [if_neg ht, if_neg ht, if_pos rfl]
    rcases ih3 c u n s e h hn with ⟨c2, u2, v, n2, s2, e2, g1, g2, g3, g4, g5, g6, g7, g8⟩ | ⟨c2, u2, w, s2, g1, g2, g3, g4, g5, g6, g7, g8⟩
    · have hs2 := pi_s g3
      rw [g1, cl2_s, if_neg (by decide), g2, cl2_s, isSign_ok g3 (x := 60) (by decide), cl1_s]
      have cmp : ∀ (x opc : Int32) (s0 : Int32) (cmb : Int32 → Int32 → Int32), (x = 60 ∨ x = 61) → gZ c2 105 = x → (∀ v w st, ev1 env opc (w :: v :: st) = cmb v w :: st) → (∀ (v x13 : Int32) (u14 : St), (if s0 = 0 then if v = x13 then fX12_not_b112 (PGM f) u14 else some (0, u14) else if x13 ≤ v then some (0, u14) else fX12_not_b112 (PGM f) u14) = some (cmb v x13, u14)) → OUT b K env c u o n s (fX5_readNot_b91 (PGC f) c2 (nI o) opc) (fX12_not_b85 (PGM f) u2 v s0) := by
        intro x opc s0 cmb hx htx hev hm
        unfold fX5_readNot_b91 fX12_not_b85
        obtain ⟨c3, u3, s3, e3, k1, k2, k3, k4, k5, k6⟩ := pi_adv g3 (by rw [htx]; rcases hx with rfl | rfl <;> decide) (by rw [htx]; rcases hx with rfl | rfl <;> decide)
        rw [k1, cl1_s, k2, cl1_s]
        rcases ih3 c3 u3 n2 s3 e3 k3 (by omega) with ⟨c4, u4, w, n4, s4, e4, l1, l2, l3, l4, l5, l6, l7, l8⟩ | ⟨c4, u4, w, s4, l1, l2, l3, l4, l5, l6, l7, l8⟩
        · have hs4 := pi_s l3
          have hcm2 : FrC c2 c4 n2 := FrC_tr (fC_Fr k4 n2) l4 (Nat.le_refl n2)
          have hcm : FrC c c4 n := FrC_tr g4 hcm2 g6
          rw [l1, cl2_s, if_neg (by decide), write_ok l3.2.2.2.2.2.2.2.2 (by omega), cl2_s, if_neg (by decide), l2, cl2_s, hm]
          refine Or.inl ⟨_, u4, cmb v w, n4 + 1, s4, e4, rfl, rfl, pi_write l3 _, FrC_tr hcm (FrC_write c4 n4 n (by omega) _ _) (Nat.le_refl n), FrM_tr g5 (FrM_tr (fM_Fr k5) l5), by omega, by omega, fun st => ?_⟩
          rw [gA_setZ, gA_s, show n4 + 1 - n = (n2 - n) + ((n4 - n2) + 1) by omega, evN_app, show n + (n2 - n) = n2 by omega, evN_app, show n2 + (n4 - n2) = n4 by omega]
          rw [evN_congr (f := upd (gA c4 103) n4 opc) (g := gA c2 103) (n2 - n) n st (fun j hj1 hj2 => by rw [upd_n _ _ (by omega)]; exact hcm2.2.2.2 j (by omega)), g8]
          rw [evN_congr (f := upd (gA c4 103) n4 opc) (g := gA c4 103) (n4 - n2) n2 _ (fun j hj1 hj2 => by rw [upd_n _ _ (by omega)]), l8]
          show ev1 env (upd (gA c4 103) n4 opc n4) (w :: v :: st) = _
          rw [upd_s]
          exact hev v w st
        · rw [l1, cl2_s, if_pos rfl, l2, cl2_s, hm]
          exact Or.inr ⟨c4, u4, _, s4, rfl, rfl, l3, l4, l5, l6, FrC_tr (FrC_0 g4) (FrC_tr (fC_Fr k4 0) l7 (Nat.le_refl 0)) (Nat.le_refl 0), FrM_tr g5 (FrM_tr (fM_Fr k5) l8)⟩
      unfold fX5_readNot_b75 fX12_not_b69
      by_cases t60 : gZ c2 105 = 60
      · rw [if_pos t60, if_pos t60, if_pos t60, if_neg (by decide), sign_Y g3 (x := 60) (by decide) t60, if_pos (by decide)]
        refine cmp 60 (-11) 1 (fun v w => bI (v < w)) (Or.inl rfl) t60 (fun v w st => ev_lt v w st) (fun v x13 u14 => ?_)
        rw [if_neg (by decide)]
        unfold fX12_not_b112
        by_cases q : x13 ≤ v
        · rw [if_pos q, bI_f (fun z => i32_lt.mp z q)]
        · rw [if_neg q, bI_t (i32_lt.mpr q)]
      · rw [if_neg t60, if_neg t60, if_neg t60, if_pos rfl, isSign_ok g3 (x := 61) (by decide), cl1_s]
        by_cases t61 : gZ c2 105 = 61
        · rw [if_pos t61, if_pos t61, if_neg (by decide), sign_Y g3 (x := 61) (by decide) t61, if_neg (by decide)]
          refine cmp 61 (-12) 0 (fun v w => bI (v = w)) (Or.inr rfl) t61 (fun v w st => ev_eq v w st) (fun v x13 u14 => ?_)
          rw [if_pos rfl]
          unfold fX12_not_b112
          by_cases q : v = x13
          · rw [if_pos q, bI_t q]
          · rw [if_neg q, bI_f q]
        · rw [if_neg t61, if_neg t61, if_pos rfl]
          exact Or.inl ⟨c2, u2, v, n2, s2, e2, rfl, rfl, g3, g4, g5, g6, g7, g8⟩
    · rw [g1, cl2_s, if_pos rfl, g2, cl2_s, isSign_bad g5, cl1_s, if_pos rfl, isSign_bad g5, cl1_s, if_pos rfl]
      exact Or.inr ⟨c2, u2, w, s2, rfl, rfl, g3, g4, g5, g6, g7, g8⟩
end Sim2
