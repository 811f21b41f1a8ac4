theorem give_both {ts : List Tx} {uC uM : St} (h : Rel ts uC uM) : ∃ (uC' uM' : St) (gv : Nat → Int64), fX11_giveAll ts uC = some uC' ∧ fX12_give uM = some uM' ∧ Rel ts uC' uM' ∧ keepC uC uC' ∧ keepM uM uM' ∧ (∀ l, l < 5 → gB uC' 2 l + gB uC' 3 (5 * ((gZ uC' 4).toNatClampNeg - 1) + l) = gv l ∧ fX0_givenTo uC' (nI l) = some (gv l)) ∧ ∀ l, l < 5 → gB uM' 44 l = gv l := by
  obtain ⟨T, al, so, go, u1, v1, t1, t2, t3, t4, t5, t6, e1, e2, hR, kC, kM, hV, hVM, hC, hM, e3⟩ := cnt_both h
  have z1 : gZ v1 1 = nI T := (kM.1 1 (by decide)).trans t3
  have z4 : gZ u1 4 = nI T := (kC.1 4 (by decide)).trans t5
  have hRT : RelT T (gZ v1 1) (gZ u1 220) (gZ u1 24) (gZ u1 68) (gZ u1 4) (gZ u1 40) := by
    obtain ⟨T', hT', _⟩ := id hR
    have e : T = T' := nI_inj (by omega) (by have := hT'.2.1; omega) (z1.symm.trans hT'.2.2.1)
    subst e
    exact hT'
  obtain ⟨u2, g1, g2, g3⟩ := giveBack_ok (v1 := -1) (jd := fun _ => true) hR hV hC z4 t1 t2 (fun a _ => ⟨fun _ => Or.inl rfl, fun _ => rfl⟩)
  obtain ⟨v2, j1, j2, j3⟩ := judge_ok (u0 := v1) (go := go) hR hRT (keepM_rf v1) hM.2
  have hM2 : CM v2 T (alS al so) go := by
    refine ⟨fun p l hp hl => ?_, fun p a b hp ha hb => ?_⟩
    · rw [j2.2.1, j2.2.2.2 17, j2.2.2.2 18]
      exact hM.1 p l hp hl
    · rw [j2.2.2.1]
      exact hM.2 p a b hp ha hb
  have hWW : ∀ p a b, WM ts u1 go p a b = (go p a b && WN ts u1 (fun _ => true) p a b) := fun p a b => by
    unfold WM WN
    cases decide (¬ a = b) <;> cases go p a b <;> cases gbN ts u1 p a b <;> rfl
  obtain ⟨f, g, m1, m2⟩ := giveM_ok (u0 := v2) (W := WN ts u1 (fun _ => true)) ((j2.1.1 1 (by decide)).trans z1) hM2 (fun p a b hp ha hb => by rw [j3 p a b hp ha hb, hWW]) t1 t2
  have kM2 : keepM v1 (setB (setB v2 43 f) 44 g) := keepM_tr j2.1 (keepM_tr (m43 v2 f) (m44 _ g))
  have z42 : gZ u2 4 = nI T := (g2.1.1 4 (by decide)).trans z4
  have hsum : ∀ l, l < 5 → gB u2 2 l + gB u2 3 (5 * (T - 1) + l) = g l := fun l hl => by
    rw [m2 l hl, g3.1 l hl, g3.2 (T - 1) l hl (Nat.le_refl _), lN_add, bk_eq hl (T - 1) (by omega), ru_end t1 hl]
  refine ⟨u2, setB (setB v2 43 f) 44 g, g, ?_, ?_, Rel_keep hR g2.1 kM2, keepC_tr kC g2.1, keepM_tr kM kM2, fun l hl => ?_, fun l hl => by rw [gB_s]⟩
  · unfold fX11_giveAll
    rw [e1, cl1_s, g1, cl1_s]
  · unfold fX12_give
    rw [e2, cl2_s, j1, cl1_s, m1]
  · rw [z42, nI_clamp (by omega)]
    refine ⟨hsum l hl, ?_⟩
    unfold fX0_givenTo
    rw [ldL_s hl (by decide), z42, show nI T - 1 = nI (T - 1) from pk_sub (a := T) (b := 1) (by omega), place_n, cl1_s, ldL_s (by omega) (by decide), hsum l hl]
theorem T_given {ts : List Tx} {uC uM : St} (h : Rel ts uC uM) (a0 : Int32) : ∃ (r : Int64) (uC' : St) (uM' : St), fX11_given ts uC a0 = some (r, uC') ∧ fX12_given uM a0 = some (r, uM') ∧ Rel ts uC' uM' := by
  unfold fX11_given fX12_given
  by_cases ha : InR a0 5
  · rw [landC_t ha, landM_t ha]
    obtain ⟨l, hl, rfl⟩ := ha
    obtain ⟨uC', uM', gv, e1, e2, hR, kC, kM, h1, h2⟩ := give_both h
    simp only [cl1_s, i10, ↓reduceIte, e1, e2, (h1 l hl).2]
    rw [ldL_s hl (by decide), h2 l hl]
    exact ⟨_, _, _, rfl, rfl, hR⟩
  · rw [landC_f ha, landM_f ha]
    exact ⟨_, _, _, rfl, rfl, h⟩
theorem keep_loop {u : St} {J : Nat} {gv : Nat → Int64} (hJ : J < 12) (h0 : gZ u 0 = nI J) (hg : ∀ f l, l < 5 → fX0_givenTo (setB u 1 f) (nI l) = some (gv l)) : ∃ f : Nat → Int64, fX0_keep u = some (nI J, setZ (setB u 1 f) 0 (nI (J + 1))) ∧ (∀ i, i < 5 * J → f i = gB u 1 i) ∧ ∀ c, c < 5 → f (5 * J + c) = gv c := by
  obtain ⟨f, hf, e⟩ := up (fun m (f : Nat → Int64) i => fX0_keep_l2 m (setB u 1 f) i) (fun l f => (∀ i, i < 5 * J → f i = gB u 1 i) ∧ ∀ c, c < l → f (5 * J + c) = gv c) 5 (fun f => some (nI J, setZ (setB u 1 f) 0 (nI (J + 1)))) (by
    intro m f hI
    show fX0_keep_l2b (fX0_keep_l2 m) (setB u 1 f) 5 = _
    unfold fX0_keep_l2b
    rw [if_pos (by decide), nmI_s, nmS_s, gZ_setB, h0, nI_1]) (by
    intro m l f hl hI
    show ∃ f', _ ∧ fX0_keep_l2b (fX0_keep_l2 m) (setB u 1 f) (nI l) = fX0_keep_l2 m (setB u 1 f') (nI (l + 1))
    unfold fX0_keep_l2b
    rw [if_neg (n5 hl), hg f l hl, cl1_s, gZ_setB, h0, show (5 : Int32) = nI 5 from rfl, pk_mul, nI_add, stL_s (by omega) (by decide), setB_setB, gB_s, nI_1]
    refine ⟨_, ⟨fun i hi => ?_, fun c hc => ?_⟩, rfl⟩
    · rw [updL_n _ _ (by omega)]; exact hI.1 i hi
    · by_cases e : c = l
      · subst e
        rw [show 5 * J + c = J * 5 + c by omega, updL_s]
      · rw [updL_n _ _ (by omega)]; exact hI.2 c (by omega)) NF 0 (gB u 1) (by omega) (by unfold NF; omega) ⟨fun _ _ => rfl, fun c hc => by omega⟩
  rw [show setB u 1 (gB u 1) = u from setB_self u 1] at e
  exact ⟨f, e, hf.1, hf.2⟩
theorem judgeM_loop {u : St} {J : Nat} {gv : Nat → Int64} (hJ : J < 12) (h0 : gZ u 45 = nI J) (hg : ∀ l, l < 5 → gB u 44 l = gv l) : ∃ f : Nat → Int64, fX12_judge_l18 NF u 0 = some (nI J, setZ (setB u 46 f) 45 (nI (J + 1))) ∧ (∀ i, i < 5 * J → f i = gB u 46 i) ∧ ∀ c, c < 5 → f (5 * J + c) = gv c := by
  obtain ⟨f, hf, e⟩ := up (fun m (f : Nat → Int64) i => fX12_judge_l18 m (setB u 46 f) i) (fun l f => (∀ i, i < 5 * J → f i = gB u 46 i) ∧ ∀ c, c < l → f (5 * J + c) = gv c) 5 (fun f => some (nI J, setZ (setB u 46 f) 45 (nI (J + 1)))) (by
    intro m f hI
    show fX12_judge_l18b (fX12_judge_l18 m) (setB u 46 f) 5 = _
    unfold fX12_judge_l18b
    rw [if_pos (by decide), nmS_s, gZ_s, gZ_setB, h0, nI_1, nI_pred]) (by
    intro m l f hl hI
    show ∃ f', _ ∧ fX12_judge_l18b (fX12_judge_l18 m) (setB u 46 f) (nI l) = fX12_judge_l18 m (setB u 46 f') (nI (l + 1))
    unfold fX12_judge_l18b
    rw [if_neg (n5 hl), ldL_s hl (by decide), gB_n (j := 44) u f (by decide), hg l hl, gZ_setB, h0, show (5 : Int32) = nI 5 from rfl, pk_mul, nI_add, stL_s (by omega) (by decide), setB_setB, gB_s, nI_1]
    refine ⟨_, ⟨fun i hi => ?_, fun c hc => ?_⟩, rfl⟩
    · rw [updL_n _ _ (by omega)]; exact hI.1 i hi
    · by_cases e : c = l
      · subst e; rw [updL_s]
      · rw [updL_n _ _ (by omega)]; exact hI.2 c (by omega)) NF 0 (gB u 46) (by omega) (by unfold NF; omega) ⟨fun _ _ => rfl, fun c hc => by omega⟩
  rw [show setB u 46 (gB u 46) = u from setB_self u 46] at e
  exact ⟨f, e, hf.1, hf.2⟩
theorem T_judge {ts : List Tx} {uC uM : St} (h : Rel ts uC uM) : ∃ (r : Int32) (uC' : St) (uM' : St), fX11_judge ts uC = some (r, uC') ∧ fX12_judge uM = some (r, uM') ∧ Rel ts uC' uM' := by
  obtain ⟨T, h1, h2, h3, h4, h5, h6, h7, ⟨J, hJ, hc, hm, hk⟩, h9, h10, h11⟩ := id h
  unfold fX11_judge fX12_judge
  rw [hc, hm]
  by_cases hJ12 : J = 12
  · subst hJ12
    rw [if_pos (show nI 12 = 12 from rfl), if_pos (show nI 12 = 12 from rfl)]
    exact ⟨_, _, _, rfl, rfl, h⟩
  · have e12 : ¬ nI J = 12 := nI_ne (b := 12) (by omega) (by decide) hJ12
    rw [if_neg e12, if_neg e12]
    obtain ⟨uC', uM', gv, e1, e2, hR, kC, kM, g1, g2⟩ := give_both h
    obtain ⟨f, f1, f2, f3⟩ := keep_loop (u := uC') (J := J) (gv := gv) (by omega) ((kC.1 0 (by decide)).trans hc) (fun f l hl => (g1 l hl).2)
    obtain ⟨f', f4, f5, f6⟩ := judgeM_loop (u := uM') (J := J) (gv := gv) (by omega) ((kM.1 45 (by decide)).trans hm) g2
    rw [e1, e2]
    simp only [cl1_s, f1, f4, cl2_s]
    refine ⟨_, _, _, rfl, rfl, ?_⟩
    obtain ⟨T, h1, h2, h3, h4, h5, h6, h7, ⟨J', hJ', hc', hm', hk'⟩, h9, h10, h11⟩ := hR
    have eJ : J' = J := nI_inj (by omega) (by omega) (hc'.symm.trans ((kC.1 0 (by decide)).trans hc))
    subst eJ
    refine ⟨T, h1, h2, h3, h4, h5, h6, h7, ⟨J' + 1, by omega, rfl, rfl, fun i hi => ?_⟩, h9, h10, h11⟩
    show f i = f' i
    by_cases q : i < 5 * J'
    · rw [f2 i q, f5 i q, hk' i q]
    · rw [show i = 5 * J' + (i - 5 * J') by omega, f3 _ (by omega), f6 _ (by omega)]
theorem T_changed {ts : List Tx} {uC uM : St} (h : Rel ts uC uM) (a0 : Int32) : ∃ (r : Int32) (uC' : St) (uM' : St), fX11_changed ts uC a0 = some (r, uC') ∧ fX12_changed uM a0 = some (r, uM') ∧ Rel ts uC' uM' := by
  obtain ⟨T, h1, h2, h3, h4, h5, h6, h7, ⟨J, hJ, hc, hm, hk⟩, h9, h10, h11⟩ := id h
  unfold fX11_changed fX12_changed fX0_has
  rw [hc, hm]
  by_cases ha : InR a0 J
  · rw [ge_t (by omega) ha, in_t (by omega) ha]
    obtain ⟨j, hj, rfl⟩ := ha
    obtain ⟨uC', uM', gv, e1, e2, hR, kC, kM, g1, g2⟩ := give_both h
    simp only [cl1_s, i10, ↓reduceIte, e1, e2]
    have hkk : ∀ l, l < 5 → gB uC' 1 (j * 5 + l) = gB uM' 46 (5 * j + l) := fun l hl => by
      rw [kC.2.2, kM.2.2, Nat.mul_comm j 5]
      exact hk _ (by omega)
    obtain ⟨x, hx, d1⟩ := up (fX0_changedLands_l4 uC' (nI j)) (fun i x => ∃ y : Nat → Int32, y 0 = 0 ∧ (∀ c, c < i → y (c + 1) = if gv c = gB uM' 46 (5 * j + c) then y c else y c ||| (1 : Int32) <<< (nI c &&& 31)) ∧ x = y i) 5 (fun x => some x) (by
      intro m x hI
      show fX0_changedLands_l4b uC' (fX0_changedLands_l4 uC' (nI j) m) (nI j) x 5 = _
      unfold fX0_changedLands_l4b
      rw [if_pos (by decide)]) (by
      intro m i x hi hI
      obtain ⟨y, y0, y1, rfl⟩ := hI
      show ∃ x', _ ∧ fX0_changedLands_l4b uC' (fX0_changedLands_l4 uC' (nI j) m) (nI j) (y i) (nI i) = fX0_changedLands_l4 uC' (nI j) m x' (nI (i + 1))
      unfold fX0_changedLands_l4b fX0_changedLands_b30 fX0_keptFor
      rw [if_neg (n5 hi), (g1 i hi).2, cl1_s, show (5 : Int32) = nI 5 from rfl, pk_mul, nI_add, ldL_s (by omega) (by decide), hkk i hi, cl1_s, nI_1]
      refine ⟨if gv i = gB uM' 46 (5 * j + i) then y i else y i ||| (1 : Int32) <<< (nI i &&& 31), ⟨fun c => if c ≤ i then y c else if gv i = gB uM' 46 (5 * j + i) then y i else y i ||| (1 : Int32) <<< (nI i &&& 31), ?_, fun c hc => ?_, ?_⟩, ?_⟩
      · dsimp only
        rw [if_pos (Nat.zero_le _), y0]
      · dsimp only
        by_cases e : c = i
        · subst e
          rw [if_neg (show ¬ c + 1 ≤ c by omega), if_pos (Nat.le_refl c)]
        · rw [if_pos (show c + 1 ≤ i by omega), if_pos (show c ≤ i by omega)]
          exact y1 c (by omega)
      · dsimp only
        rw [if_neg (show ¬ i + 1 ≤ i by omega)]
      · by_cases z : gv i = gB uM' 46 (5 * j + i)
        · rw [if_pos z, if_pos z]
        · rw [if_neg z, if_neg z, nmI_s]) NF 0 0 (by omega) (by unfold NF; omega) ⟨fun _ => 0, rfl, fun c hc => by omega, rfl⟩
    obtain ⟨y, y0, y1, rfl⟩ := hx
    obtain ⟨x', hx', d2⟩ := up (fX12_changed_l25 uM' (nI j)) (fun i x => x = y i) 5 (fun x => some (x, uM')) (by
      intro m x hI
      show fX12_changed_l25b (fX12_changed_l25 uM' (nI j) m) uM' (nI j) x 5 = _
      unfold fX12_changed_l25b
      rw [if_pos (by decide)]) (by
      intro m i x hi hI
      subst hI
      refine ⟨_, rfl, ?_⟩
      show fX12_changed_l25b (fX12_changed_l25 uM' (nI j) m) uM' (nI j) (y i) (nI i) = _
      unfold fX12_changed_l25b fX12_changed_b58
      rw [if_neg (n5 hi), ldL_s hi (by decide), g2 i hi, show (5 : Int32) = nI 5 from rfl, pk_mul, nI_add, ldL_s (by omega) (by decide), nI_1, y1 i hi]
      by_cases z : gv i = gB uM' 46 (5 * j + i)
      · rw [if_pos z, if_pos z, nmI_s, Int32.or_zero]
      · rw [if_neg z, if_neg z, nmI_s]) NF 0 0 (by omega) (by unfold NF; omega) y0.symm
    have d1' : fX0_changedLands uC' (nI j) = some (y 5) := d1
    have d2' : fX12_changed_l25 uM' (nI j) NF 0 0 = some (x', uM') := d2
    rw [d1', d2', hx']
    exact ⟨_, _, _, rfl, rfl, hR⟩
  · rw [ge_f (by omega) ha, in_f (by omega) ha]
    exact ⟨_, _, _, rfl, rfl, h⟩
/-! claims -/
theorem ru_fw (A : Nat → Nat → Bool) (go W : Nat → Nat → Nat → Bool) : ruN (c1M A go W) (fun l => fwN A go 0 l) = fwN A (fun p a b => go p a b && !(W p a b)) := by
  funext p
  induction p with
  | zero => rfl
  | succ p ih =>
    funext b
    show sm (fun a => if c1M A go W p a b then ruN (c1M A go W) (fun l => fwN A go 0 l) p a else 0) 5 = _
    rw [ih, fwN_S]
    cases hA : A (p + 1) b
    · rw [if_neg (show ¬ (false = true) by decide)]
      exact (sm_0 5).mpr (fun i _ => by unfold c1M; rw [hA]; rfl)
    · rw [if_pos rfl]
      exact sm_congr 5 (fun i _ => by unfold c1M; rw [hA]; rfl)
theorem claim_math {al : Nat → Nat → Bool} {so : Nat → Bool} {go W : Nat → Nat → Nat → Bool} {T land : Nat} (h2 : 2 ≤ T) (hl : land < 5) (hW : ∀ p a b, ¬ a = land → W p a b = false) : bkN (c2C al go W T) (bwN al go T) (ruN (c1C al go W T) (fun l => fwN (alS al so) go 0 l)) (T - 1) land + sm (fun l => bwN (alS al so) (fun p a b => go p a b && !(W p a b)) T 0 l) 5 = tot al so go T := by
  rw [bk_eq (so := so) hl (T - 1) (by omega), ru_fw]
  have f1 := flow (A := alS al so) (al := al) (go := go) (W := W) (T := T) (fun p l h => by
    unfold alS at h
    cases hh : al p l
    · rw [hh, Bool.false_and] at h; exact absurd h (by decide)
    · rfl) (fun p l _ h => by rw [alS_p (by omega)]; exact h) (T - 1) (by omega)
  generalize hG : (fun p a b => go p a b && !(W p a b)) = G at f1
  have f2 := flow (A := alS al so) (al := alS al so) (go := G) (W := fun _ _ _ => false) (T := T) (fun p l h => h) (fun p l _ h => h) (T - 1) (by omega)
  have hGe : (fun p a b => G p a b && !((fun _ _ _ => false : Nat → Nat → Nat → Bool) p a b)) = G := by
    funext p a b
    simp
  rw [hGe] at f2
  have z2 : sm (fun a => bkN (c2M (alS al so) G (fun _ _ _ => false)) (bwN (alS al so) G T) (fwN (alS al so) G) (T - 1) a) 5 = 0 := (sm_0 5).mpr (fun a _ => (sm_0 _).mpr (fun q _ => (sm_0 5).mpr (fun b _ => by
    unfold trN c2M
    simp)))
  have e1 : sm (fun l => fwN (alS al so) G (T - 1) l * bwN al go T (T - 1) l) 5 = sm (fun l => fwN (alS al so) G (T - 1) l * bwN (alS al so) G T (T - 1) l) 5 := sm_congr 5 (fun l _ => by
    rw [bwN_T _ _ (by omega), bwN_T _ _ (by omega), alS_p (by omega)])
  have e2 : sm (fun l => fwN (alS al so) G 0 l * bwN (alS al so) G T 0 l) 5 = sm (fun l => bwN (alS al so) G T 0 l) 5 := sm_congr 5 (fun l _ => by
    unfold fwN
    cases hh : alS al so 0 l
    · rw [bwN_S _ _ (by omega), hh]; rfl
    · simp)
  have e3 : sm (fun a => bkN (c2M (alS al so) go W) (bwN al go T) (fwN (alS al so) G) (T - 1) a) 5 = bkN (c2M (alS al so) go W) (bwN al go T) (fwN (alS al so) G) (T - 1) land := by
    rw [← sm_d (fun a => bkN (c2M (alS al so) go W) (bwN al go T) (fwN (alS al so) G) (T - 1) a) land 5 hl]
    apply sm_congr 5
    intro a ha
    by_cases e : a = land
    · rw [if_pos e]
    · rw [if_neg e]
      exact (sm_0 _).mpr (fun q _ => (sm_0 5).mpr (fun b _ => by
        unfold trN c2M
        rw [hW q a b e]; simp))
  have e4 : sm (fun l => fwN (alS al so) G 0 l * bwN al go T 0 l) 5 = tot al so go T := rfl
  omega
theorem T_claim {ts : List Tx} {uC uM : St} (h : Rel ts uC uM) (a0 : Int32) : ∃ (r : Int64) (uC' : St) (uM' : St), fX11_claim ts uC a0 = some (r, uC') ∧ fX12_claim uM a0 = some (r, uM') ∧ Rel ts uC' uM' := by
  unfold fX11_claim fX12_claim
  by_cases ha : InR a0 5
  · rw [landC_t ha, landM_t ha]
    obtain ⟨land, hl, rfl⟩ := ha
    obtain ⟨T, al, so, go, u1, v1, t1, t2, t3, t4, t5, t6, e1, e2, hR, kC, kM, hV, hVM, hC, hM, e3⟩ := cnt_both h
    have z1 : gZ v1 1 = nI T := (kM.1 1 (by decide)).trans t3
    have z4 : gZ u1 4 = nI T := (kC.1 4 (by decide)).trans t5
    have hRT : RelT T (gZ v1 1) (gZ u1 220) (gZ u1 24) (gZ u1 68) (gZ u1 4) (gZ u1 40) := by
      obtain ⟨T', hT', _⟩ := id hR
      have e : T = T' := nI_inj (by omega) (by have := hT'.2.1; omega) (z1.symm.trans hT'.2.2.1)
      subst e
      exact hT'
    obtain ⟨u2, g1, g2, g3⟩ := giveBack_ok (v1 := nI land) (jd := fun a => decide (a = land)) hR hV hC z4 t1 t2 (fun a ha => ⟨fun q => Or.inr (by rw [of_decide_eq_true q]), fun q => by
      rcases q with q | q
      · exact absurd q (nI_nm1 (by omega))
      · exact decide_eq_true (nI_inj (by omega) (by omega) q).symm⟩)
    obtain ⟨v2, j1, j2, j3⟩ := judge_ok (u0 := v1) (go := go) hR hRT (keepM_rf v1) hM.2
    have z12 : gZ v2 1 = nI T := (j2.1.1 1 (by decide)).trans z1
    have hT1 : nI T - 1 = nI (T - 1) := pk_sub (a := T) (b := 1) (by omega)
    obtain ⟨g, hg, e4⟩ := up (fun m (g : Nat → Int32) i => fX12_claim_l23 (nI land) (lN (tot al so go T)) m (setA v2 16 g) i) (fun p g => ∀ q a b, q + 1 < T → a < 5 → b < 5 → g (25 * q + 5 * a + b) = if go q a b && !(decide (q < p ∧ a = land) && WM ts u1 go q a b) then 1 else 0) (T - 1) (fun g => cl2 (fX12_counted (setA v2 16 g)) (fun x6 u7 => some (lN (tot al so go T) - x6, u7))) (by
      intro m g hI
      show fX12_claim_l23b (fX12_claim_l23 (nI land) (lN (tot al so go T)) m) (setA v2 16 g) (nI land) (lN (tot al so go T)) (nI (T - 1)) = _
      unfold fX12_claim_l23b
      rw [gZ_setA, z12, hT1, if_pos (nI_le (Nat.le_refl _) (by omega))]) (by
      intro m p g hp hI
      show ∃ g', _ ∧ fX12_claim_l23b (fX12_claim_l23 (nI land) (lN (tot al so go T)) m) (setA v2 16 g) (nI land) (lN (tot al so go T)) (nI p) = fX12_claim_l23 (nI land) (lN (tot al so go T)) m (setA v2 16 g') (nI (p + 1))
      unfold fX12_claim_l23b
      rw [gZ_setA, z12, hT1, if_neg (nI_ge hp (by omega))]
      generalize hk2 : fX12_claim_l23 (nI land) (lN (tot al so go T)) m = k23
      obtain ⟨g', hg', e⟩ := up (fun m (g : Nat → Int32) i => fX12_claim_l37 k23 (nI land) (lN (tot al so go T)) (nI p) m (setA v2 16 g) i) (fun c g => ∀ q a b, q + 1 < T → a < 5 → b < 5 → g (25 * q + 5 * a + b) = if go q a b && !(decide ((q < p ∨ q = p ∧ b < c) ∧ a = land) && WM ts u1 go q a b) then 1 else 0) 5 (fun g => k23 (setA v2 16 g) (nI (p + 1))) (by
        intro m g hI
        show fX12_claim_l37b k23 (fX12_claim_l37 k23 (nI land) (lN (tot al so go T)) (nI p) m) (setA v2 16 g) (nI land) (lN (tot al so go T)) (nI p) 5 = _
        unfold fX12_claim_l37b
        rw [if_pos (by decide), nI_1]) (by
        intro m c g hc hI
        show ∃ g', _ ∧ fX12_claim_l37b k23 (fX12_claim_l37 k23 (nI land) (lN (tot al so go T)) (nI p) m) (setA v2 16 g) (nI land) (lN (tot al so go T)) (nI p) (nI c) = fX12_claim_l37 k23 (nI land) (lN (tot al so go T)) (nI p) m (setA v2 16 g') (nI (c + 1))
        unfold fX12_claim_l37b fX12_claim_b87 fX12_claim_b88
        have hcur := hI p land c (by omega) hl hc
        rw [show decide ((p < p ∨ p = p ∧ c < c) ∧ land = land) = false from decide_eq_false (fun y => by omega), Bool.false_and, Bool.not_false, Bool.and_true] at hcur
        rw [if_neg (n5 hc), show (25 : Int32) = nI 25 from rfl, show (5 : Int32) = nI 5 from rfl, pk_mul, pk_mul, nI_add, nI_add, nmI_s, ldI_s (by omega) (by decide), gA_s, hcur, bitB, ldI_s (by omega) (by decide), gA_n (j := 42) v2 g (by decide), j3 p land c (by omega) hl hc, bitB, nI_1]
        refine ⟨upd g (25 * p + 5 * land + c) (if go p land c && !(WM ts u1 go p land c) then 1 else 0), fun q a b h1 h2 h3 => ?_, ?_⟩
        · by_cases e : 25 * q + 5 * a + b = 25 * p + 5 * land + c
          · have q1 : q = p := by omega
            have q2 : a = land := by omega
            have q3 : b = c := by omega
            subst q1
            subst q2
            subst q3
            rw [upd_s, decide_eq_true (show (q < q ∨ q = q ∧ b < b + 1) ∧ a = a from ⟨Or.inr ⟨rfl, by omega⟩, rfl⟩), Bool.true_and]
          · rw [upd_n _ _ e, hI q a b h1 h2 h3, show decide ((q < p ∨ q = p ∧ b < c + 1) ∧ a = land) = decide ((q < p ∨ q = p ∧ b < c) ∧ a = land) from decide_eq_decide.mpr (by omega)]
        · cases go p land c
          · simp only [Bool.false_eq_true, ↓reduceIte, Bool.false_and]
            rw [stZ_s (by omega) (by decide), setA_setA, gA_s]
            rfl
          · cases WM ts u1 go p land c
            · simp only [Bool.false_eq_true, ↓reduceIte, Bool.true_and, Bool.not_false]
              rw [stZ_s (by omega) (by decide), setA_setA, gA_s]
              rfl
            · simp only [Bool.false_eq_true, ↓reduceIte, Bool.true_and, Bool.not_true]
              rw [stZ_s (by omega) (by decide), setA_setA, gA_s]
              rfl) NF 0 g (by omega) (by unfold NF; omega) (fun q a b h1 h2 h3 => by
        rw [hI q a b h1 h2 h3, show decide ((q < p ∨ q = p ∧ b < 0) ∧ a = land) = decide (q < p ∧ a = land) from decide_eq_decide.mpr (by omega)])
      refine ⟨g', fun q a b h1 h2 h3 => ?_, e⟩
      rw [hg' q a b h1 h2 h3, show decide ((q < p ∨ q = p ∧ b < 5) ∧ a = land) = decide (q < p + 1 ∧ a = land) from decide_eq_decide.mpr (by omega)]) NF 0 (gA v2 16) (by omega) (by unfold NF; omega) (fun q a b h1 h2 h3 => by
      rw [j2.2.2.1, hM.2 q a b h1 h2 h3, decide_eq_false (fun y => by omega)]
      simp)
    rw [show setA v2 16 (gA v2 16) = v2 from setA_self v2 16] at e4
    have hgG : ∀ p a b, p + 1 < T → a < 5 → b < 5 → gA (setA v2 16 g) 16 (25 * p + 5 * a + b) = if (fun p a b => go p a b && !(WN ts u1 (fun a => decide (a = land)) p a b)) p a b then 1 else 0 := by
      intro p a b hp ha hb
      rw [gA_s, hg p a b hp ha hb]
      have : (go p a b && !(decide (p < T - 1 ∧ a = land) && WM ts u1 go p a b)) = (go p a b && !(WN ts u1 (fun a => decide (a = land)) p a b)) := by
        unfold WM WN
        dsimp only
        by_cases e : a = land
        · rw [decide_eq_true (show p < T - 1 ∧ a = land from ⟨by omega, e⟩), decide_eq_true e]
          cases decide (¬ a = b) <;> cases go p a b <;> cases gbN ts u1 p a b <;> rfl
        · rw [decide_eq_false (show ¬ (p < T - 1 ∧ a = land) from fun y => e y.2), decide_eq_false e]
          cases decide (¬ a = b) <;> cases go p a b <;> cases gbN ts u1 p a b <;> rfl
      dsimp only
      rw [this]
    obtain ⟨f2, g4, e5, _, _⟩ := counted_ok (u := setA v2 16 g) (A := alS al so) (G := fun p a b => go p a b && !(WN ts u1 (fun a => decide (a = land)) p a b)) z12 (fun p l hp hl => by
      rw [gA_n (j := 15) v2 g (by decide), j2.2.1]
      exact (hM.1 p l hp hl).1) hgG t1 t2
    have hmath := claim_math (al := al) (so := so) (go := go) (W := WN ts u1 (fun a => decide (a = land))) (T := T) (land := land) t1 hl (fun p a b e => by
      unfold WN
      dsimp only
      rw [decide_eq_false e]; simp)
    simp only [cl1_s, i10, ↓reduceIte, e1, e2, cl2_s, j1]
    have e4' : fX12_claim_l23 (nI land) (lN (tot al so go T)) NF v2 0 = cl2 (fX12_counted (setA v2 16 g)) (fun x6 u7 => some (lN (tot al so go T) - x6, u7)) := e4
    rw [e4', e5, cl2_s, lN_sub (by omega), ← hmath, Nat.add_sub_cancel]
    unfold fX0_claimsOf
    rw [g1, cl1_s, ldL_s hl (by decide), g3.1 land hl]
    exact ⟨_, _, _, rfl, rfl, Rel_keep hR g2.1 (keepM_tr j2.1 (keepM_tr (m16 v2 g) (keepM_tr (m17 _ f2) (m18 _ g4))))⟩
  · rw [landC_f ha, landM_f ha]
    exact ⟨_, _, _, rfl, rfl, h⟩
