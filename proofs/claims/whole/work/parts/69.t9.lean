theorem fg_iff {f x : Int32} {i : Nat} (hi : i < 32) (h : x = f >>> (nI i &&& 31) &&& 1) : ¬ x = 0 ↔ bB f i = true := by
  rw [h, sh_b f hi]
  cases bB f i <;> simp
theorem stand_all {uM : St} {P : Nat} (hP : P ≤ 16) (hm : gZ uM 8 = nI P) : fX12_standing uM (-1) = some (stnd (gA uM 13) (fun i => ¬ gA uM 14 i = 0) P) := by
  rw [standM hP hm]
  congr 1
  apply stnd_congr
  intro i hi
  refine ⟨rfl, ?_⟩
  have : ¬ nI i = -1 := nI_nm1 (by omega)
  simp only [this, or_false]
theorem stand_inr {ln : Nat → Int32} {fg : Nat → Prop} [DecidablePred fg] {P : Nat} (hP : P ≤ 16) : InR (stnd ln fg P) (2 ^ 16) := by
  rw [inr_bits (by decide)]
  intro i hi
  exact stnd_hi P (by omega) i (by omega)
theorem T_count {ts : List Tx} {uC uM : St} (h : Rel ts uC uM) (a0 : Int32) : ∃ (r : Int32), fX11_count uC a0 = some r ∧ fX12_count uM a0 = some r ∧ Rel ts uC uM := by
  obtain ⟨T, h1, h2, h3, h4, h5, h6, h7, h8, h9, h10, h11⟩ := id h
  obtain ⟨t1, t2, t3, t4, t5, t6, t7, t8⟩ := id h1
  obtain ⟨W, hW, w1, w2, w3⟩ := id h2
  obtain ⟨P, hP, hc, hm, hk, hf, hg, hs⟩ := id h4
  obtain ⟨K, hK, k1, k2, k3⟩ := id h5
  obtain ⟨x1, x2, x3, x4, x5⟩ := id h6
  obtain ⟨Q, hQ, l1, l2, l3⟩ := id h7
  obtain ⟨J, hJ, j1, j2, j3⟩ := id h8
  obtain ⟨s1, s2, S, hS, s3, s4, s5⟩ := id h9
  obtain ⟨r1, r2, R, hR, r3, r4, r5⟩ := id h10
  obtain ⟨n, hn, b1, b2⟩ := bits_eq (stand_inr (ln := gA uM 13) (fg := fun i => ¬ gA uM 14 i = 0) hP)
  unfold fX11_count fX12_count fX4_standingCount
  rw [t3, t4, w1, w2, hc, hm, hs, stand_all hP hm, b2, l1, l2, j1, j2, s3, s4, r3, r4, x3, x4, k1, k2, h3.1]
  simp only [cl1_s, b1]
  by_cases e0 : a0 = 0
  · simp only [e0, ↓reduceIte]; exact ⟨_, rfl, rfl, h⟩
  by_cases e1 : a0 = 1
  · simp only [e0, e1, ↓reduceIte]; exact ⟨_, rfl, rfl, h⟩
  by_cases e2 : a0 = 2
  · simp only [e0, e1, e2, ↓reduceIte]; exact ⟨_, rfl, rfl, h⟩
  by_cases e3 : a0 = 3
  · simp only [e0, e1, e2, e3, ↓reduceIte]; exact ⟨_, rfl, rfl, h⟩
  by_cases e4 : a0 = 4
  · simp only [e0, e1, e2, e3, e4, ↓reduceIte]; exact ⟨_, rfl, rfl, h⟩
  by_cases e5 : a0 = 5
  · simp only [e0, e1, e2, e3, e4, e5, ↓reduceIte]; exact ⟨_, rfl, rfl, h⟩
  simp only [e0, e1, e2, e3, e4, e5, ↓reduceIte]
  by_cases e6 : a0 = 6
  · simp only [e6, ↓reduceIte]; exact ⟨_, rfl, rfl, h⟩
  by_cases e7 : a0 = 7
  · simp only [e6, e7, ↓reduceIte]; exact ⟨_, rfl, rfl, h⟩
  by_cases e8 : a0 = 8
  · simp only [e6, e7, e8, ↓reduceIte]; exact ⟨_, rfl, rfl, h⟩
  by_cases e9 : a0 = 9
  · simp only [e6, e7, e8, e9, ↓reduceIte]; exact ⟨_, rfl, rfl, h⟩
  by_cases e10 : a0 = 10
  · simp only [e6, e7, e8, e9, e10, ↓reduceIte]; exact ⟨_, rfl, rfl, h⟩
  simp only [e6, e7, e8, e9, e10, ↓reduceIte]
  exact ⟨_, rfl, rfl, h⟩
theorem T_fall {ts : List Tx} {uC uM : St} (h : Rel ts uC uM) (a0 : Int32) : ∃ (r : Int32), fX11_fall uC a0 = some r ∧ fX12_fall uM a0 = some r ∧ Rel ts uC uM := by
  obtain ⟨T, h1, h2, h3, ⟨P, hP, hc, hm, hk, hf, hg, hs⟩, h5, h6, h7, h8, h9, h10, h11⟩ := id h
  unfold fX11_fall fX12_fall
  by_cases hp : InR a0 P
  · rw [papC_t (by omega) hc hp, papM_t (by omega) hm hp]
    obtain ⟨i, hi, rfl⟩ := hp
    simp only [cl1_s, i10, ↓reduceIte]
    unfold fX4_fallingWith
    rw [standC hP hc, stand_all hP hm, standM hP hm, hs]
    have e : stnd (gA uC 87) (fun j => bB (gZ uC 81 ||| 1 <<< (nI i &&& 31)) j = true) P = stnd (gA uM 13) (fun j => ¬ gA uM 14 j = 0 ∨ nI j = nI i) P := by
      apply stnd_congr
      intro j hj
      refine ⟨(hk j hj).2.2.2.2.1, ?_⟩
      rw [bB_or, bB_sh (by omega), Bool.or_eq_true, decide_eq_true_eq, fg_iff (by omega) (hf j hj), nI_eq (by omega) (by omega)]
      constructor
      · rintro (z | z)
        · exact Or.inl z
        · exact Or.inr z.symm
      · rintro (z | z)
        · exact Or.inl z
        · exact Or.inr z.symm
    rw [e]
    exact ⟨_, rfl, rfl, h⟩
  · rw [papC_f (by omega) hc hp, papM_f (by omega) hm hp]
    exact ⟨_, rfl, rfl, h⟩
theorem T_paperTold {ts : List Tx} {uC uM : St} (h : Rel ts uC uM) (a0 : Int32) (a1 : Int32) : ∃ (r : Int32), fX11_paperTold uC a0 a1 = some r ∧ fX12_paperTold uM a0 a1 = some r ∧ Rel ts uC uM := by
  obtain ⟨T, h1, h2, h3, ⟨P, hP, hc, hm, hk, hf, hg, hs⟩, h5, h6, h7, h8, h9, h10, h11⟩ := id h
  unfold fX11_paperTold fX12_paperTold
  by_cases hp : InR a0 P
  · rw [papC_t (by omega) hc hp, papM_t (by omega) hm hp]
    obtain ⟨i, hi, rfl⟩ := hp
    obtain ⟨k1, k2, k3, k4, k5, k6⟩ := hk i hi
    simp only [cl1_s, i10, ↓reduceIte, ldI_s (show i < 16 by omega) (show 16 < 2 ^ 31 by decide), k1, k2, k3, k4, k5, stand_all hP hm, ← hs, isIn_B (gZ uC 81) (show i < 32 by omega), isIn_B (gZ uC 82) (show i < 32 by omega), sh_b (gZ uC 82) (show i < 32 by omega), hf i hi, sh_b (gZ uC 81) (show i < 32 by omega)]
    by_cases e0 : a1 = 0
    · simp only [e0, ↓reduceIte]; exact ⟨_, rfl, rfl, h⟩
    by_cases e1 : a1 = 1
    · simp only [e0, e1, ↓reduceIte]; exact ⟨_, rfl, rfl, h⟩
    by_cases e2 : a1 = 2
    · simp only [e0, e1, e2, ↓reduceIte]; exact ⟨_, rfl, rfl, h⟩
    by_cases e3 : a1 = 3
    · simp only [e0, e1, e2, e3, ↓reduceIte]; exact ⟨_, rfl, rfl, h⟩
    by_cases e4 : a1 = 4
    · simp only [e0, e1, e2, e3, e4, ↓reduceIte]; exact ⟨_, rfl, rfl, h⟩
    simp only [e0, e1, e2, e3, e4, ↓reduceIte]
    by_cases e5 : a1 = 5
    · simp only [e5, ↓reduceIte]
      cases bB (gZ uC 81) i
      · exact ⟨_, rfl, rfl, h⟩
      · exact ⟨_, rfl, rfl, h⟩
    by_cases e6 : a1 = 6
    · simp only [e5, e6, ↓reduceIte]
      cases bB (gZ uC 82) i
      · exact ⟨_, rfl, rfl, h⟩
      · exact ⟨_, rfl, rfl, h⟩
    simp only [e5, e6, ↓reduceIte]
    exact ⟨_, rfl, rfl, h⟩
  · rw [papC_f (by omega) hc hp, papM_f (by omega) hm hp]
    exact ⟨_, rfl, rfl, h⟩
theorem nar_b (b : Bool) : vp_nar .boolean (if b then 1 else 0) = if b then 1 else 0 := by
  cases b <;> decide
theorem forge_core {ts : List Tx} {uC uM : St} (h : Rel ts uC uM) {P i : Nat} (hP16 : P ≤ 16) (hc : gZ uC 80 = nI P) (hi : i < P) (b : Bool) (f' : Int32) (hf' : ∀ j, j < 32 → bB f' j = if j = i then b else bB (gZ uC 81) j) : ∃ (r : Int32) (uC' : St) (uM' : St), (cl1 (fX4_markForged_b26 uC f') (fun u3 => cl1 (fX4_standingCount u3) (fun x4 => some (x4, u3)))) = some (r, uC') ∧ fX12_forge_b35 uM (if b then 1 else 0) (nI i) = some (r, uM') ∧ Rel ts uC' uM' := by
  obtain ⟨T, h1, h2, h3, ⟨P', hP, hc', hm, hk, hf, hg, hs⟩, h5, h6, h7, h8, h9, h10, h11⟩ := id h
  have e : P' = P := nI_inj (by omega) (by omega) (hc'.symm.trans hc)
  subst e
  unfold fX4_markForged_b26 fX12_forge_b35 fX4_standingCount
  rw [nmS_s, stZ_s (by omega) (by decide), nar_b]
  have hM14 : ∀ j, j < P' → upd (gA uM 14) i (if b then 1 else 0) j = f' >>> (nI j &&& 31) &&& 1 := by
    intro j hj
    rw [sh_b f' (by omega), hf' j (by omega)]
    by_cases e : j = i
    · subst e
      rw [upd_s, if_pos rfl]
    · rw [upd_n _ _ e, if_neg e, hf j hj, sh_b _ (by omega)]
  have e1 : stnd (gA uC 87) (fun j => bB f' j = true) P' = stnd (gA uM 13) (fun j => ¬ upd (gA uM 14) i (if b then 1 else 0) j = 0) P' := by
    apply stnd_congr
    intro j hj
    exact ⟨(hk j hj).2.2.2.2.1, (fg_iff (by omega) (hM14 j hj)).symm⟩
  rw [gZ_s, standC (u := setZ uC 81 f') hP ((gZ_setZ uC 81 80 f').trans hc) f', gA_setZ, e1]
  have e2 := stand_all (uM := setA uM 14 (upd (gA uM 14) i (if b then 1 else 0))) hP hm
  rw [gA_s, show gA (setA uM 14 (upd (gA uM 14) i (if b then 1 else 0))) 13 = gA uM 13 from rfl] at e2
  rw [e2]
  obtain ⟨n, hn, b1, b2⟩ := bits_eq (stand_inr (ln := gA uM 13) (fg := fun j => ¬ upd (gA uM 14) i (if b then 1 else 0) j = 0) hP)
  simp only [cl1_s, nmS_s, gZ_s, b1, b2]
  refine ⟨nI n, _, _, rfl, rfl, T, h1, h2, h3, ⟨P', hP, hc, hm, hk, hM14, ?_, rfl⟩, h5, h6, h7, h8, h9, h10, h11⟩
  show InR f' (2 ^ P')
  rw [inr_bits (by omega)] at hg ⊢
  intro j hj
  by_cases hj32 : j < 32
  · rw [hf' j hj32, if_neg (by omega)]
    exact hg j hj
  · exact bB_ge f' (by omega)
theorem T_forge {ts : List Tx} {uC uM : St} (h : Rel ts uC uM) (a0 : Int32) (a1 : Int32) : ∃ (r : Int32) (uC' : St) (uM' : St), fX11_forge uC a0 a1 = some (r, uC') ∧ fX12_forge uM a0 a1 = some (r, uM') ∧ Rel ts uC' uM' := by
  obtain ⟨T, h1, h2, h3, ⟨P, hP, hc, hm, hk, hf, hg, hs⟩, h5, h6, h7, h8, h9, h10, h11⟩ := id h
  unfold fX11_forge fX12_forge
  by_cases hp : InR a0 P
  · rw [papC_t (by omega) hc hp, papM_t (by omega) hm hp]
    obtain ⟨i, hi, rfl⟩ := hp
    simp only [cl1_s, i10, ↓reduceIte]
    rw [show fX12_in a1 0 1 = fX12_in a1 0 (nI 2 - 1) from rfl]
    by_cases hv : InR a1 2
    · rw [in_t (by decide) hv]
      obtain ⟨b, hb, rfl⟩ := hv
      have e1 : nI b ≤ 1 := nI_le (a := b) (b := 1) (by omega) (by decide)
      rw [if_neg (nI_pos (by omega)), if_pos e1]
      simp only [cl1_s, i10, ↓reduceIte]
      unfold fX11_forge_b38 fX4_markForged
      rcases (show b = 0 ∨ b = 1 by omega) with rfl | rfl
      · have e0 : ¬ nI 0 = 1 := by decide
        rw [if_neg e0, if_neg e0, if_pos rfl]
        refine forge_core h hP hc hi false _ (fun j hj => ?_)
        rw [bB_and, bB_not _ hj, bB_sh (by omega)]
        by_cases e : j = i
        · subst e; simp
        · rw [if_neg e]
          have : ¬ i = j := fun z => e z.symm
          simp [this]
      · have e0 : nI 1 = 1 := rfl
        rw [if_pos e0, if_pos e0, if_neg (by decide)]
        refine forge_core h hP hc hi true _ (fun j hj => ?_)
        rw [bB_or, bB_sh (by omega)]
        by_cases e : j = i
        · subst e; simp
        · rw [if_neg e]
          have : ¬ i = j := fun z => e z.symm
          simp [this]
    · rw [in_f (by decide) hv]
      simp only [cl1_s, ↓reduceIte]
      by_cases z : a1 < 0
      · rw [if_pos z]
        exact ⟨_, _, _, rfl, rfl, h⟩
      · have e1 : ¬ a1 ≤ 1 := nle_of_ninr (n := 1) (by decide) hv z
        rw [if_neg z, if_neg e1]
        exact ⟨_, _, _, rfl, rfl, h⟩
  · rw [papC_f (by omega) hc hp, papM_f (by omega) hm hp]
    exact ⟨_, _, _, rfl, rfl, h⟩
