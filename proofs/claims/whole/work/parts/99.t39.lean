theorem stand2 {u u' : St} (h8 : gZ u' 8 = gZ u 8) (h13 : gA u' 13 = gA u 13) (h14 : gA u' 14 = gA u 14) (v : Int32) : fX12_standing u' v = fX12_standing u v := by
  have : ∀ (m : Nat) (x y : Int32), fX12_standing_l4 u' v m x y = fX12_standing_l4 u v m x y := by
    intro m
    induction m with
    | zero => intro x y; rfl
    | succ m ih =>
      intro x y
      show fX12_standing_l4b u' (fX12_standing_l4 u' v m) v x y = fX12_standing_l4b u (fX12_standing_l4 u v m) v x y
      have e : fX12_standing_l4 u' v m = fX12_standing_l4 u v m := by funext a b; exact ih a b
      unfold fX12_standing_l4b fX12_standing_b45
      rw [e, h8, h13, h14]
  exact this NF 0 0
theorem open2 {u u' : St} (h3 : gZ u' 3 = gZ u 3) (h4 : gA u' 4 = gA u 4) (h5 : gA u' 5 = gA u 5) (h6 : gA u' 6 = gA u 6) (h7 : gA u' 7 = gA u 7) (a b p : Int32) : fX12_openWays u' a b p = fX12_openWays u a b p := by
  have : ∀ (m : Nat) (x y : Int32), fX12_openWays_l6 u' a b p m x y = fX12_openWays_l6 u a b p m x y := by
    intro m
    induction m with
    | zero => intro x y; rfl
    | succ m ih =>
      intro x y
      show fX12_openWays_l6b u' (fX12_openWays_l6 u' a b p m) a b p x y = fX12_openWays_l6b u (fX12_openWays_l6 u a b p m) a b p x y
      have e : fX12_openWays_l6 u' a b p m = fX12_openWays_l6 u a b p m := by funext a b; exact ih a b
      unfold fX12_openWays_l6b fX12_openWays_b64 fX12_openWays_b65
      rw [e, h3, h4, h5, h6, h7]
  exact this NF 0 0
theorem TxOK_congr {B B' : Nat → Int32} {n n' : Int32} {i : Nat} {tx : Tx} (h : TxOK B n i tx) (hB : ∀ j, j < 160 → B' (160 * i + j) = B (160 * i + j)) (hn : n' = n) : TxOK B' n' i tx := by
  obtain ⟨sp, N, q1, q2, q3, q4, q5⟩ := h
  exact ⟨sp, N, q1, q2, q3, q4, fun u a b p env h1 h2 h3 => q5 u a b p env (fun j hj => (h1 j hj).trans (hB j hj)) (h2.trans hn) h3⟩
theorem Rel_text {ts ts' : List Tx} {c m c' m' : St} (h : Rel ts c m) (hl : ts.length ≤ ts'.length) (cz : ∀ k, k ∈ ([0, 4, 20, 24, 40, 60, 68, 80, 81, 82, 120, 121, 160, 161, 200, 220] : List Nat) → gZ c' k = gZ c k) (ca : ∀ k, k ∈ ([63, 64, 65, 83, 84, 85, 86, 87, 122, 123, 140, 141, 142, 162, 163, 165, 201] : List Nat) → gA c' k = gA c k) (cb : gB c' 1 = gB c 1)
    (mz : ∀ k, k ∈ ([0, 1, 2, 3, 8, 38, 45, 47, 50, 51, 53] : List Nat) → gZ m' k = gZ m k) (ma : ∀ k, k ∈ ([4, 5, 6, 7, 9, 10, 11, 12, 13, 14, 39, 40, 41, 48, 49, 54, 55, 57, 58, 59, 60] : List Nat) → gA m' k = gA m k) (mb : gB m' 46 = gB m 46) (h100 : gZ c' 100 = 0) (h25 : gZ m' 25 = 0) (h6' : RelText ts' (gZ c' 61) (gZ m' 23) (gA m' 21) (gA m' 22)) : Rel ts' c' m' := by
  obtain ⟨T, h1, h2, h3, h4, h5, h6, h7, h8, h9, h10, h11⟩ := h
  refine ⟨T, ?_, ?_, ?_, ?_, ?_, h6', ?_, ?_, ?_, ?_, ?_⟩
  · rw [mz 1 (by decide), cz 220 (by decide), cz 24 (by decide), cz 68 (by decide), cz 4 (by decide), cz 40 (by decide)]; exact h1
  · rw [cz 200 (by decide), mz 3 (by decide), ca 201 (by decide), ma 4 (by decide), ma 5 (by decide), ma 6 (by decide), ma 7 (by decide)]; exact h2
  · rw [cz 20 (by decide), mz 2 (by decide), ca 165 (by decide)]; exact h3
  · rw [cz 80 (by decide), cz 81 (by decide), cz 82 (by decide), mz 8 (by decide), ca 83 (by decide), ca 84 (by decide), ca 85 (by decide), ca 86 (by decide), ca 87 (by decide), ma 9 (by decide), ma 10 (by decide), ma 11 (by decide), ma 12 (by decide), ma 13 (by decide), ma 14 (by decide)]; exact h4
  · exact ⟨0, by decide, h100, h25, fun i hi => by omega⟩
  · rw [cz 60 (by decide), mz 38 (by decide), ca 63 (by decide), ca 64 (by decide), ca 65 (by decide), ma 39 (by decide), ma 40 (by decide), ma 41 (by decide)]
    obtain ⟨Q, q1, q2, q3, q4⟩ := h7
    refine ⟨Q, q1, q2, q3, fun i hi => ?_⟩
    obtain ⟨r1, r2, r3, r4, r5, ⟨k, k1, k2⟩⟩ := q4 i hi
    exact ⟨r1, r2, r3, r4, r5, ⟨k, by omega, k2⟩⟩
  · rw [cz 0 (by decide), mz 45 (by decide), cb, mb]; exact h8
  · rw [cz 160 (by decide), mz 47 (by decide), cz 161 (by decide), mz 50 (by decide), ca 162 (by decide), ca 163 (by decide), ma 48 (by decide), ma 49 (by decide)]; exact h9
  · rw [cz 120 (by decide), mz 53 (by decide), cz 121 (by decide), mz 51 (by decide), ca 122 (by decide), ca 123 (by decide), ma 54 (by decide), ma 55 (by decide)]; exact h10
  · rw [ca 140 (by decide), ca 141 (by decide), ca 142 (by decide), ma 57 (by decide), ma 58 (by decide), ma 59 (by decide), ma 60 (by decide)]; exact h11
/-- the rows of the texts while a tape is laid into them -/
def cpT (f g : Nat → Int32) (w k : Nat) : Nat → Int32 := fun x => if w ≤ x ∧ x < w + k then g (x - w) else f x
def txEnd (u : St) : Option (Int32 × St) := stI u 22 6 (gZ u 23) (gZ u 25) (fun u1 => nmS (setZ u1 25 0) (fun u2 => cl2 (fX12_read u2 (gZ u2 23) 0 1 0 0) (fun x3 u4 => if gZ u4 33 = 0 then nmS (setZ u4 23 ((gZ u4 23) + 1)) (fun u5 => some ((gZ u5 23) - 1, u5)) else (some ((-100) - (gZ u4 34), u4)))))
theorem tx_copy {u : St} {i K : Nat} (h23 : gZ u 23 = nI i) (hi : i < 6) (h25 : gZ u 25 = nI K) (hK : K ≤ 160) : ∀ (d k m : Nat), k + d = K → d < m → fX12_text_l14 m (setA u 21 (cpT (gA u 21) (gA u 24) (160 * i) k)) (nI k) = txEnd (setA u 21 (cpT (gA u 21) (gA u 24) (160 * i) K)) := by
  intro d
  induction d with
  | zero =>
    intro k m h1 h2
    obtain ⟨m, rfl⟩ : ∃ q, m = q + 1 := ⟨m - 1, by omega⟩
    obtain rfl : k = K := by omega
    show fX12_text_l14b (fX12_text_l14 m) _ (nI k) = _
    unfold fX12_text_l14b
    rw [gZ_setA, h25, if_pos (nI_le (Nat.le_refl k) (by omega))]
    unfold txEnd
    rw [gZ_setA u 21 _ 25, h25]
  | succ d ih =>
    intro k m h1 h2
    obtain ⟨m, rfl⟩ : ∃ q, m = q + 1 := ⟨m - 1, by omega⟩
    show fX12_text_l14b (fX12_text_l14 m) _ (nI k) = _
    unfold fX12_text_l14b
    rw [gZ_setA, h25, if_neg (nI_ge (show k < K by omega) (by omega)), gA_n u _ (show 24 ≠ 21 by decide), ldI_s (by omega) (by decide), gZ_setA, h23, show (160 : Int32) = nI 160 from rfl, pk_mul, nI_add, stI_s (by omega) (by decide), setA_setA, gA_s, nI_1]
    rw [show upd (cpT (gA u 21) (gA u 24) (160 * i) k) (160 * i + k) (gA u 24 k) = cpT (gA u 21) (gA u 24) (160 * i) (k + 1) from ?_]
    · exact ih (k + 1) m (by omega) (by omega)
    · funext x
      unfold cpT upd
      by_cases e : x = 160 * i + k
      · subst e
        rw [if_pos rfl, if_pos (by omega), show 160 * i + k - 160 * i = k by omega]
      · rw [if_neg e]
        dsimp only
        by_cases e2 : 160 * i ≤ x ∧ x < 160 * i + k
        · rw [if_pos e2, if_pos (by omega)]
        · rw [if_neg e2, if_neg (by omega)]
theorem T_text {ts : List Tx} {uC uM : St} (h : Rel ts uC uM) : (gZ uC 61 = nI ts.length ∧ ts.length ≤ 6 ∧ (¬ gZ uC 61 = 6 → ∃ (f : Int32) (u1 : St), fX5_readText uC = some (f, u1) ∧ gZ u1 61 = gZ uC 61 ∧ (f = -1 → ∃ N : Nat, gZ u1 104 = nI N ∧ N < 160))) ∧ ∀ (r : Int32) (ts' : List Tx) (uC' : St), TextR ts uC r ts' uC' → ∃ uM' : St, fX12_text uM = some (r, uM') ∧ Rel ts' uC' uM' := by
  obtain ⟨T, _, _, _, _, ⟨K, hK, kc, km, kk⟩, ⟨l1, l6, lc, lm, lt⟩, _⟩ := id h
  have hb : ∀ j, j < K → (gA uM 24 j).toNatClampNeg < 256 ∧ gA uM 24 j = nI (gA uM 24 j).toNatClampNeg := by
    intro j hj
    obtain ⟨⟨k, k1, k2⟩, _⟩ := kk j hj
    rw [k2, nI_clamp (by omega)]
    exact ⟨k1, rfl⟩
  have hc : TXc uC (fun j => (gA uM 24 j).toNatClampNeg) K := by
    refine ⟨hK, kc, fun j hj => ⟨(hb j hj).1, ?_⟩⟩
    rw [(kk j hj).2]
    exact congrArg (fun x : Int32 => x.toInt8.toInt32) (hb j hj).2
  by_cases hl : ts.length = 6
  · refine ⟨⟨lc, l6, fun hn => absurd (by rw [lc, hl]; rfl) hn⟩, ?_⟩
    rintro r ts' uC' (⟨a1, rfl, rfl, rfl⟩ | ⟨a1, _⟩)
    · refine ⟨uM, ?_, h⟩
      unfold fX12_text
      rw [lm, hl, if_pos (by decide)]
    · exact absurd (by rw [lc, hl]; rfl) a1
  have hl6 : ts.length < 6 := by omega
  -- the model's state ahead of the reading
  have hG : ∀ j, j < K → cpT (gA uM 21) (gA uM 24) (160 * ts.length) K (160 * ts.length + j) = nI (gA uM 24 j).toNatClampNeg := by
    intro j hj
    unfold cpT
    rw [if_pos (by omega), show 160 * ts.length + j - 160 * ts.length = j by omega]
    exact (hb j hj).2
  obtain ⟨u2, hu2⟩ : ∃ u2, u2 = setZ (setA (setA uM 21 (cpT (gA uM 21) (gA uM 24) (160 * ts.length) K)) 22 (upd (gA uM 22) ts.length (nI K))) 25 0 := ⟨_, rfl⟩
  have q23 : gZ u2 23 = nI ts.length := by rw [hu2]; exact lm
  have q25 : gZ u2 25 = 0 := by rw [hu2]; rfl
  have q21 : gA u2 21 = cpT (gA uM 21) (gA uM 24) (160 * ts.length) K := by rw [hu2]; rfl
  have q22 : gA u2 22 = upd (gA uM 22) ts.length (nI K) := by rw [hu2]; rfl
  have qz : ∀ k, k ∈ ([0, 1, 2, 3, 8, 38, 45, 47, 50, 51, 53] : List Nat) → gZ u2 k = gZ uM k := by
    intro k hk
    have : ∀ k, k ∈ ([0, 1, 2, 3, 8, 38, 45, 47, 50, 51, 53] : List Nat) → k ≠ 25 := by decide
    rw [hu2, gZ_n _ _ (this k hk)]
    rfl
  have qa : ∀ k, k ∈ ([4, 5, 6, 7, 9, 10, 11, 12, 13, 14, 39, 40, 41, 48, 49, 54, 55, 57, 58, 59, 60] : List Nat) → gA u2 k = gA uM k := by
    intro k hk
    have : ∀ k, k ∈ ([4, 5, 6, 7, 9, 10, 11, 12, 13, 14, 39, 40, 41, 48, 49, 54, 55, 57, 58, 59, 60] : List Nat) → k ≠ 22 ∧ k ≠ 21 := by decide
    rw [hu2, gA_setZ, gA_n _ _ (this k hk).1, gA_n _ _ (this k hk).2]
  have qb : gB u2 46 = gB uM 46 := by rw [hu2]; rfl
  have hM : fX12_text uM = cl2 (fX12_read u2 (nI ts.length) 0 1 0 0) (fun x3 u4 => if gZ u4 33 = 0 then nmS (setZ u4 23 ((gZ u4 23) + 1)) (fun u5 => some ((gZ u5 23) - 1, u5)) else (some ((-100) - (gZ u4 34), u4))) := by
    unfold fX12_text
    rw [lm, if_neg (show ¬ nI ts.length = 6 from nI_ne (b := 6) (by omega) (by decide) hl)]
    have e0 : setA uM 21 (cpT (gA uM 21) (gA uM 24) (160 * ts.length) 0) = uM := by
      have : cpT (gA uM 21) (gA uM 24) (160 * ts.length) 0 = gA uM 21 := by
        funext x
        unfold cpT
        rw [if_neg (by omega)]
      rw [this]
      exact setA_self uM 21
    have := tx_copy lm hl6 km hK K 0 NF (by omega) (by unfold NF; omega)
    rw [e0] at this
    have this' : fX12_text_l14 NF uM 0 = _ := this
    rw [this']
    unfold txEnd
    rw [gZ_setA, gZ_setA, lm, km, stI_s hl6 (by decide), nmS_s, gA_n uM _ (show 22 ≠ 21 by decide)]
    rw [← hu2, q23]
  have hEV : EnvOK u2 0 1 0 (envN uC 0 1 0) := by
    obtain ⟨e0, e1, e2, e3, ⟨sx, e4, e5⟩, e6⟩ := env_ok h (a := 0) (b := 1) (p := 0) (by decide) (by decide) (by decide)
    have ko : ∀ (v : Int32), fX12_standing u2 v = fX12_standing uM v := fun v => stand2 (qz 8 (by decide)) (qa 13 (by decide)) (qa 14 (by decide)) v
    refine ⟨e0, e1, e2, by rw [qz 1 (by decide)]; exact e3, ⟨sx, (ko _).trans e4, e5⟩, ?_⟩
    exact (open2 (qz 3 (by decide)) (qa 4 (by decide)) (qa 5 (by decide)) (qa 6 (by decide)) (qa 7 (by decide)) 0 1 0).trans e6
  have hK22 : gA u2 22 ts.length = nI K := by rw [q22, upd_s]
  obtain ⟨f, u1, r1, r2, r3⟩ := read_ok (u := u2) hc hl6 hK22 (fun j hj => ⟨(hb j hj).1, by rw [q21]; exact hG j hj⟩) hEV
  have h61 : gZ u1 61 = gZ uC 61 := r2.1 61 (by decide) (by decide) (by decide) (by decide) (by decide) (by decide)
  refine ⟨⟨lc, l6, fun _ => ⟨f, u1, r1, h61, fun hf => ?_⟩⟩, ?_⟩
  · rcases r3 with ⟨_, sp, N, _, n1, _, n2, _⟩ | ⟨s', s1, s2, _⟩
    · exact ⟨N, n1, n2⟩
    · rw [s1] at hf
      exact absurd hf (by
        intro z
        have := congrArg Int32.toInt z
        rw [nI_toInt (by omega)] at this
        have e : (-1 : Int32).toInt = -1 := by decide
        rw [e] at this
        omega)
  -- what old texts keep
  have old : ∀ (B : Nat → Int32) (Z : Nat → Int32), B = gA u2 21 → Z = gA u2 22 → ∀ (i : Nat) (tx : Tx), ts[i]? = some tx → TxOK B (Z i) i tx := by
    rintro B Z rfl rfl i tx hi
    have hlt : i < ts.length := by
      rcases Nat.lt_or_ge i ts.length with q | q
      · exact q
      · rw [List.getElem?_eq_none q] at hi; exact absurd hi (by simp)
    refine TxOK_congr (lt i tx hi) (fun j hj => ?_) ?_
    · rw [q21]
      unfold cpT
      rw [if_neg (by omega)]
    · rw [q22, upd_n _ _ (by omega)]
  have kR : ∀ {u4 : St}, keepR u2 u4 → (∀ k, k ∈ ([0, 1, 2, 3, 8, 38, 45, 47, 50, 51, 53] : List Nat) → gZ u4 k = gZ uM k) ∧ (∀ k, k ∈ ([4, 5, 6, 7, 9, 10, 11, 12, 13, 14, 39, 40, 41, 48, 49, 54, 55, 57, 58, 59, 60] : List Nat) → gA u4 k = gA uM k) ∧ gB u4 46 = gB uM 46 ∧ gZ u4 25 = 0 ∧ gZ u4 23 = nI ts.length ∧ gA u4 21 = gA u2 21 ∧ gA u4 22 = gA u2 22 := by
    intro u4 k
    have sub : ∀ k, k ∈ ([0, 1, 2, 3, 8, 38, 45, 47, 50, 51, 53] : List Nat) → k ∈ ([0, 1, 2, 3, 8, 23, 25, 38, 45, 47, 50, 51, 53] : List Nat) := by decide
    refine ⟨fun j hj => (k.1 j (sub j hj)).trans (qz j hj), fun j hj => by rw [k.2.1]; exact qa j hj, by rw [k.2.2]; exact qb, (k.1 25 (by decide)).trans q25, (k.1 23 (by decide)).trans q23, by rw [k.2.1], by rw [k.2.1]⟩
  have cZ : ∀ k, k ∈ ([0, 4, 20, 24, 40, 60, 68, 80, 81, 82, 120, 121, 160, 161, 200, 220] : List Nat) → gZ (setZ u1 100 0) k = gZ uC k := by
    intro k hk
    have : ∀ k, k ∈ ([0, 4, 20, 24, 40, 60, 68, 80, 81, 82, 120, 121, 160, 161, 200, 220] : List Nat) → ¬ k = 101 ∧ ¬ k = 104 ∧ ¬ k = 105 ∧ ¬ k = 106 ∧ ¬ k = 107 ∧ ¬ k = 108 ∧ k ≠ 100 := by decide
    obtain ⟨a1, a2, a3, a4, a5, a6, a7⟩ := this k hk
    rw [gZ_n _ _ a7]
    exact r2.1 k a1 a2 a3 a4 a5 a6
  have cA : ∀ k, k ∈ ([63, 64, 65, 83, 84, 85, 86, 87, 122, 123, 140, 141, 142, 162, 163, 165, 201] : List Nat) → gA u1 k = gA uC k := by
    intro k hk
    have : ∀ k, k ∈ ([63, 64, 65, 83, 84, 85, 86, 87, 122, 123, 140, 141, 142, 162, 163, 165, 201] : List Nat) → ¬ k = 103 := by decide
    exact r2.2.1 k (this k hk)
  rintro r ts' uC' (⟨a1, _⟩ | ⟨a1, f', u1', a2, a3⟩)
  · exact absurd (by rw [← lc, a1]; rfl) (fun z : nI ts.length = nI 6 => hl (nI_inj (by omega) (by decide) z))
  obtain ⟨rfl, rfl⟩ : f = f' ∧ u1 = u1' := by
    rw [r1] at a2
    have := Option.some.inj a2
    exact ⟨congrArg Prod.fst this, congrArg Prod.snd this⟩
  rcases r3 with ⟨hf, sp, N, n0, n1, nle, n2, ⟨u4, w1, w2, w3⟩, _⟩ | ⟨s', s1, s2, v, u4, w1, w2, w3, w4⟩
  · rcases a3 with ⟨b1, _⟩ | ⟨_, N', g, b1, b2, b3, rfl, rfl, rfl⟩
    · exact absurd hf b1
    obtain rfl : N = N' := nI_inj (by omega) (by omega) (n1.symm.trans b1)
    obtain ⟨y1, y2, y3, y4, y5, y6, y7⟩ := kR w2
    refine ⟨setZ u4 23 (nI ts.length + 1), ?_, ?_⟩
    · have w1' : fX12_read u2 (nI ts.length) 0 1 0 0 = some (_, u4) := w1
      rw [hM, w1', cl2_s, if_pos w3, nmS_s, y5, gZ_s, nI_1, nI_pred]
    · refine Rel_text h (by rw [List.length_append]; omega) (fun k hk => ?_) cA ?_ (fun k hk => ?_) y2 y3 rfl ((gZ_n u4 _ (show 25 ≠ 23 by decide)).trans y4) ?_
      · have : ∀ k, k ∈ ([0, 4, 20, 24, 40, 60, 68, 80, 81, 82, 120, 121, 160, 161, 200, 220] : List Nat) → k ≠ 61 := by decide
        rw [gZ_n _ _ (this k hk)]
        exact cZ k hk
      · exact congrFun (funext r2.2.2) 1
      · have : ∀ k, k ∈ ([0, 1, 2, 3, 8, 38, 45, 47, 50, 51, 53] : List Nat) → k ≠ 23 := by decide
        rw [gZ_n _ _ (this k hk)]
        exact y1 k hk
      · have elen : (ts ++ [(gZ u1 101, N, g)]).length = ts.length + 1 := by rw [List.length_append]; rfl
        refine ⟨by omega, by omega, ?_, ?_, fun i tx hi => ?_⟩
        · rw [elen, gZ_s, nI_1]
        · rw [elen, gZ_s, nI_1]
        · rcases Nat.lt_or_ge i ts.length with q | q
          · rw [List.getElem?_append_left q] at hi
            exact old _ _ y6 y7 i tx hi
          · rw [List.getElem?_append_right q] at hi
            obtain rfl : i = ts.length := by
              rcases Nat.lt_or_ge (i - ts.length) 1 with z | z
              · omega
              · rw [List.getElem?_eq_none (by simpa using z)] at hi; exact absurd hi (by simp)
            rw [Nat.sub_self] at hi
            obtain rfl : (gZ u1 101, N, g) = tx := Option.some.inj hi
            refine ⟨sp, N, n0, rfl, nle, by omega, fun u a b p env e1 e2 e3 => ?_⟩
            have e2' : gA u 22 ts.length = nI K := by rw [e2, gA_setZ, y7, q22, upd_s]
            obtain ⟨f2, u3, x1, x2, x3⟩ := read_ok (u := u) hc hl6 e2' (fun j hj => ⟨(hb j hj).1, by rw [e1 j (by omega), gA_setZ, y6, q21]; exact hG j hj⟩) e3
            obtain ⟨rfl, rfl⟩ : f = f2 ∧ u1 = u3 := by
              rw [r1] at x1
              have := Option.some.inj x1
              exact ⟨congrArg Prod.fst this, congrArg Prod.snd this⟩
            rcases x3 with ⟨_, sp2, N2, z0, z1, zle, z2, ⟨v1, v2, v3, _⟩, ⟨v4, v5, v6, _⟩⟩ | ⟨s', s1, s2, _⟩
            · obtain rfl : sp = sp2 := nI_inj (by omega) (by omega) (n0.symm.trans z0)
              obtain rfl : N = N2 := nI_inj (by omega) (by omega) (n1.symm.trans z1)
              refine ⟨⟨v1, ?_, v3⟩, ⟨v4, ?_, v6⟩⟩
              · show _ = some (top0 (evN env g 0 sp []), v1)
                rw [evN_congr (f := g) (g := gA u1 103) sp 0 [] (fun j _ hj => b3 j (by omega))]
                exact v2
              · show _ = some (top0 (evN env g sp (N - sp) []), v4)
                rw [evN_congr (f := g) (g := gA u1 103) (N - sp) sp [] (fun j _ hj => b3 j (by omega))]
                exact v5
            · rw [hf] at s1
              exact absurd s1 (by
                intro z
                have := congrArg Int32.toInt z
                rw [nI_toInt (by omega)] at this
                have e : (-1 : Int32).toInt = -1 := by decide
                rw [e] at this
                omega)
  · have hf : ¬ f = -1 := by
      intro z
      rw [s1] at z
      have := congrArg Int32.toInt z
      rw [nI_toInt (by omega)] at this
      have e : (-1 : Int32).toInt = -1 := by decide
      rw [e] at this
      omega
    rcases a3 with ⟨_, rfl, rfl, rfl⟩ | ⟨b1, _⟩
    · obtain ⟨y1, y2, y3, y4, y5, y6, y7⟩ := kR w2
      refine ⟨u4, ?_, ?_⟩
      · have w1' : fX12_read u2 (nI ts'.length) 0 1 0 0 = some (v, u4) := w1
        rw [hM, w1', cl2_s, w3, if_neg (by decide), w4, s1]
      · refine Rel_text h (Nat.le_refl _) cZ cA (congrFun (funext r2.2.2) 1) y1 y2 y3 rfl y4 ⟨l1, l6, ?_, y5, old _ _ y6 y7⟩
        rw [gZ_n _ _ (show 61 ≠ 100 by decide), h61, lc]
    · exact absurd b1 hf
