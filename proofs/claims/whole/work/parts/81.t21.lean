theorem exL (f : Nat → Nat) (n : Nat) : ∀ k, n < sm f k → ∃ l, l < k ∧ sm f l ≤ n ∧ n < sm f (l + 1) := by
  intro k
  induction k with
  | zero => intro h; exact absurd h (Nat.not_lt_zero _)
  | succ k ih =>
    intro h
    rcases Nat.lt_or_ge n (sm f k) with q | q
    · obtain ⟨l, h1, h2, h3⟩ := ih q
      exact ⟨l, by omega, h2, h3⟩
    · exact ⟨k, by omega, q, h⟩
theorem sm_mono (f : Nat → Nat) {a b : Nat} (h : a ≤ b) : sm f a ≤ sm f b := by
  induction b with
  | zero => rw [show a = 0 by omega]; exact Nat.le_refl _
  | succ b ih =>
    rcases Nat.lt_or_ge a (b + 1) with q | q
    · have := ih (by omega)
      show sm f a ≤ sm f b + f b
      omega
    · rw [show a = b + 1 by omega]; exact Nat.le_refl _
/-- how many go on to a land -/
def gH (al : Nat → Nat → Bool) (so : Nat → Bool) (go : Nat → Nat → Nat → Bool) (T q b l : Nat) : Nat := if q = 0 then fwN (alS al so) go 0 l * bwN al go T 0 l else if go (q - 1) b l then bwN al go T q l else 0
theorem fw01 (al : Nat → Nat → Bool) (so : Nat → Bool) (go : Nat → Nat → Nat → Bool) (T l : Nat) : fwN (alS al so) go 0 l = 0 ∨ fwN (alS al so) go 0 l = 1 := by
  unfold fwN
  cases alS al so 0 l
  · exact Or.inl rfl
  · exact Or.inr rfl
theorem gH_lt (al : Nat → Nat → Bool) (so : Nat → Bool) (go : Nat → Nat → Nat → Bool) {T q b l : Nat} (hT : T ≤ 12) : gH al so go T q b l < 2 ^ 31 := by
  unfold gH
  by_cases h : q = 0
  · rw [if_pos h]
    have := bw31 al go (T := T) (p := 0) (l := l) hT
    rcases fw01 al so go T l with e | e <;> rw [e] <;> omega
  · rw [if_neg h]
    have := bw31 al go (T := T) (p := q) (l := l) hT
    cases go (q - 1) b l
    · show (0 : Nat) < 2 ^ 31
      decide
    · exact this
theorem gH_next {al : Nat → Nat → Bool} {so : Nat → Bool} {go : Nat → Nat → Nat → Bool} {T q b l n : Nat} (hn : n < gH al so go T q b l) (hq : q + 1 < T) : n < sm (gH al so go T (q + 1) l) 5 := by
  have h1 : n < bwN al go T q l := by
    unfold gH at hn
    by_cases h : q = 0
    · rw [if_pos h] at hn
      subst h
      rcases fw01 al so go T l with e | e <;> rw [e] at hn <;> omega
    · rw [if_neg h] at hn
      cases hg : go (q - 1) b l
      · rw [hg] at hn; exact absurd hn (Nat.not_lt_zero _)
      · rw [hg] at hn; exact hn
  have ha := bw_al (show q < T by omega) (show ¬ bwN al go T q l = 0 by omega)
  rw [bwN_S _ _ hq, ha] at h1
  have e : sm (gH al so go T (q + 1) l) 5 = sm (fun b => if go q l b then bwN al go T (q + 1) b else 0) 5 := sm_congr 5 (fun i _ => by
    unfold gH
    rw [if_neg (by omega)]
    rfl)
  rw [e]
  exact h1
theorem gH_C {u : St} {T : Nat} {al : Nat → Nat → Bool} {so : Nat → Bool} {go : Nat → Nat → Nat → Bool} (hV : VC u T al so go) (hC : CC u T al so go) (hT : T ≤ 12) {q b l : Nat} (hq : q < T) (hb : b < 5) (hl : l < 5) : fX1_goingTo u (nI l) (nI q) (if q = 0 then -1 else nI b) = some (lN (gH al so go T q b l)) := by
  unfold fX1_goingTo gH
  by_cases h : q = 0
  · subst h
    rw [if_pos (show nI 0 = 0 from rfl), if_pos rfl, show (0 : Int32) = nI 0 from rfl, place_n, cl1_s, through_ok hC hT hq hl, cl1_s]
  · obtain ⟨k, rfl⟩ : ∃ k, q = k + 1 := ⟨q - 1, by omega⟩
    rw [if_neg (nI_ne0 (by omega) (by omega)), if_neg h, if_neg h, if_neg (nI_nm1 (by omega)), nI_pred, (hV u (keepC_rf u)).2.2.2 k b l (by omega) hb hl, cl1_s, bitB, place_n, cl1_s, ldL_s (by omega) (by decide), (hC (k + 1) l hq hl).2, show k + 1 - 1 = k by omega]
    cases go k b l <;> rfl
theorem lN_ltf {a b : Nat} (ha : a < 2 ^ 31) (hb : b < 2 ^ 31) : (lN a < lN b) = (a < b) := propext (lN_lt ha hb)
theorem lN_lef {a b : Nat} (ha : a < 2 ^ 31) (hb : b < 2 ^ 31) : (lN a ≤ lN b) = (a ≤ b) := propext (lN_le ha hb)
theorem landC_row {u : St} {T : Nat} {al : Nat → Nat → Bool} {so : Nat → Bool} {go : Nat → Nat → Nat → Bool} (hV : VC u T al so go) (hC : CC u T al so go) (hT : T ≤ 12) {q b l n : Nat} (hq : q < T) (hb : b < 5) (hl : l < 5) (hn : n < 2 ^ 31) (h1 : sm (gH al so go T q b) l ≤ n) (h2 : n < sm (gH al so go T q b) (l + 1)) (k9 : Int64 → Int32 → Int32 → Option Int32) (v2 : Int32) : fX1_landOf_l25 u k9 v2 (nI q) (if q = 0 then -1 else nI b) NF (lN n) (-1) 0 = k9 (lN (n - sm (gH al so go T q b) l)) (nI l) (nI (q + 1)) := by
  obtain ⟨s, hs, e⟩ := up (fun m (s : Int64 × Int32) i => fX1_landOf_l25 u k9 v2 (nI q) (if q = 0 then -1 else nI b) m s.1 s.2 i) (fun i s => if i ≤ l then s = (lN (n - sm (gH al so go T q b) i), -1) else s = (lN (n - sm (gH al so go T q b) l), nI l)) (l + 1) (fun s => k9 s.1 s.2 (nI (q + 1))) (by
    intro m s hI
    rw [if_neg (by omega)] at hI
    subst hI
    show fX1_landOf_l25b u k9 (fX1_landOf_l25 u k9 v2 (nI q) (if q = 0 then -1 else nI b) m) v2 (lN (n - sm (gH al so go T q b) l)) (nI l) (nI q) (if q = 0 then -1 else nI b) (nI (l + 1)) = _
    unfold fX1_landOf_l25b fX1_landOf_b74
    rw [nI_1, if_neg (nI_nm1 (show l < 2 ^ 31 by omega))]
    by_cases z : 5 ≤ nI (l + 1)
    · rw [if_pos z]
    · rw [if_neg z]) (by
    intro m i s hi hI
    rw [if_pos (show i ≤ l by omega)] at hI
    subst hI
    show ∃ s' : Int64 × Int32, _ ∧ fX1_landOf_l25b u k9 (fX1_landOf_l25 u k9 v2 (nI q) (if q = 0 then -1 else nI b) m) v2 (lN (n - sm (gH al so go T q b) i)) (-1) (nI q) (if q = 0 then -1 else nI b) (nI i) = fX1_landOf_l25 u k9 v2 (nI q) (if q = 0 then -1 else nI b) m s'.1 s'.2 (nI (i + 1))
    unfold fX1_landOf_l25b fX1_landOf_b68
    have hle : sm (gH al so go T q b) i ≤ sm (gH al so go T q b) l := sm_mono _ (by omega)
    rw [if_neg (n5 (by omega)), if_pos rfl, gH_C hV hC hT hq hb (show i < 5 by omega), cl1_s, nI_1]
    by_cases z : i = l
    · subst z
      rw [if_neg (show ¬ lN (gH al so go T q b i) ≤ lN (n - sm (gH al so go T q b) i) from fun y => by
        have y2 := (lN_le (gH_lt al so go hT) (by omega)).mp y
        have : n < sm (gH al so go T q b) i + gH al so go T q b i := h2
        omega)]
      refine ⟨(lN (n - sm (gH al so go T q b) i), nI i), ?_, rfl⟩
      rw [if_neg (by omega)]
    · have h3 : sm (gH al so go T q b) (i + 1) ≤ sm (gH al so go T q b) l := sm_mono _ (by omega)
      have h4 : sm (gH al so go T q b) (i + 1) = sm (gH al so go T q b) i + gH al so go T q b i := rfl
      rw [if_pos ((lN_le (gH_lt al so go hT) (by omega)).mpr (by omega)), nmL_s, lN_sub (by omega)]
      refine ⟨(lN (n - sm (gH al so go T q b) i - gH al so go T q b i), -1), ?_, rfl⟩
      rw [if_pos (by omega), h4, Nat.sub_sub]) NF 0 (lN n, -1) (by omega) (by unfold NF; omega) (by rw [if_pos (Nat.zero_le _)]; rfl)
  have e' : fX1_landOf_l25 u k9 v2 (nI q) (if q = 0 then -1 else nI b) NF (lN n) (-1) 0 = k9 s.1 s.2 (nI (q + 1)) := e
  rw [if_neg (by omega)] at hs
  rw [e', hs]
theorem landM_row {u : St} {T : Nat} {al : Nat → Nat → Bool} {so : Nat → Bool} {go : Nat → Nat → Nat → Bool} (hM : CM u T (alS al so) go) (hT2 : 2 ≤ T) (hT : T ≤ 12) {q b l n : Nat} (hq : q < T) (hb : b < 5) (hl : l < 5) (hn : n < 2 ^ 31) (h1 : sm (gH al so go T q b) l ≤ n) (h2 : n < sm (gH al so go T q b) (l + 1)) (k43 : Int64 → Int32 → Int32 → Option (Int32 × St)) (v2 : Int32) : fX12_history_l56 k43 u v2 (nI q) (nI b) NF (lN n) 0 = k43 (lN (n - sm (gH al so go T q b) l)) (nI l) (nI (q + 1)) := by
  have hbe : ∀ i, i < 5 → gB u 18 (5 * q + i) = lN (bwN (alS al so) go T q i) := fun i hi => (hM.1 q i hq hi).2.2
  have hg0 : q = 0 → ∀ i, i < 5 → gH al so go T q b i = bwN (alS al so) go T q i := by
    intro h i hi
    subst h
    unfold gH
    rw [if_pos rfl, bwN_so al so go (by omega) hi hT2]
    unfold fwN alS
    simp only [Nat.lt_irrefl, decide_false, Bool.false_or]
    cases hs : so i
    · simp
    · cases ha : al 0 i
      · rw [bwN_S _ _ (by omega), ha]; simp
      · simp
  have hg1 : 0 < q → ∀ i, i < 5 → gH al so go T q b i = if go (q - 1) b i then bwN (alS al so) go T q i else 0 := by
    intro h i hi
    unfold gH
    rw [if_neg (by omega), bwN_so al so go hq hi hT2, decide_eq_true h]
    rfl
  obtain ⟨s, hs, e⟩ := up (fX12_history_l56 k43 u v2 (nI q) (nI b)) (fun i s => s = lN (n - sm (gH al so go T q b) i)) l (fun s => k43 s (nI l) (nI (q + 1))) (by
    intro m s hI
    subst hI
    show fX12_history_l56b k43 (fX12_history_l56 k43 u v2 (nI q) (nI b) m) u v2 _ (nI l) (nI q) (nI b) = _
    have h3 : n < sm (gH al so go T q b) l + gH al so go T q b l := h2
    have hb84 : gH al so go T q b l = bwN (alS al so) go T q l → fX12_history_b84 k43 (fX12_history_l56 k43 u v2 (nI q) (nI b) m) u v2 (lN (n - sm (gH al so go T q b) l)) (nI l) (nI q) (nI b) = k43 (lN (n - sm (gH al so go T q b) l)) (nI l) (nI (q + 1)) := by
      intro h4
      unfold fX12_history_b84
      rw [show (5 : Int32) = nI 5 from rfl, pk_mul, nI_add, ldL_s (by omega) (by decide), hbe l hl, if_pos ((lN_lt (by omega) (bw31 _ go hT)).mpr (by omega)), nI_1]
    unfold fX12_history_l56b
    by_cases h0 : q = 0
    · rw [if_pos (by rw [h0]; decide)]
      exact hb84 (hg0 h0 l hl)
    · obtain ⟨k, rfl⟩ : ∃ k, q = k + 1 := ⟨q - 1, by omega⟩
      have h4 := hg1 (by omega) l hl
      rw [show k + 1 - 1 = k by omega] at h4
      rw [if_neg (nI_nle (by omega) (by omega)), nI_pred, show (25 : Int32) = nI 25 from rfl, show (5 : Int32) = nI 5 from rfl, pk_mul, pk_mul, nI_add, nI_add, ldI_s (by omega) (by decide), hM.2 k b l hq hb hl, bitB]
      cases hg : go k b l
      · rw [hg] at h4
        have : gH al so go T (k + 1) b l = 0 := h4
        omega
      · rw [hg] at h4
        exact hb84 h4) (by
    intro m i s hi hI
    subst hI
    refine ⟨_, rfl, ?_⟩
    show fX12_history_l56b k43 (fX12_history_l56 k43 u v2 (nI q) (nI b) m) u v2 _ (nI i) (nI q) (nI b) = _
    have h3 : sm (gH al so go T q b) (i + 1) ≤ sm (gH al so go T q b) l := sm_mono _ (by omega)
    have h4 : sm (gH al so go T q b) (i + 1) = sm (gH al so go T q b) i + gH al so go T q b i := rfl
    rw [h4]
    have hb134 : gH al so go T q b i = bwN (alS al so) go T q i → fX12_history_b134 k43 (fX12_history_l56 k43 u v2 (nI q) (nI b) m) u v2 (nI i) (nI q) (nI b) (lN (n - sm (gH al so go T q b) i)) = fX12_history_l56 k43 u v2 (nI q) (nI b) m (lN (n - (sm (gH al so go T q b) i + gH al so go T q b i))) (nI (i + 1)) := by
      intro h5
      unfold fX12_history_b134 fX12_history_b146
      rw [show (5 : Int32) = nI 5 from rfl, pk_mul, nI_add, ldL_s (by omega) (by decide), hbe i (by omega), nmL_s, ← h5, lN_sub (by omega), Nat.sub_sub, nI_1]
    unfold fX12_history_l56b
    by_cases h0 : q = 0
    · rw [if_pos (by rw [h0]; decide)]
      have h5 := hg0 h0 i (by omega)
      unfold fX12_history_b84 fX12_history_b101
      rw [show (5 : Int32) * nI q = nI (5 * q) from pk_mul 5 q, nI_add, ldL_s (by omega) (by decide), hbe i (by omega), if_neg (fun y => absurd ((lN_lt (by omega) (bw31 _ go hT)).mp y) (by omega)), if_pos (by rw [h0]; decide)]
      exact hb134 h5
    · obtain ⟨k, rfl⟩ : ∃ k, q = k + 1 := ⟨q - 1, by omega⟩
      have h5 := hg1 (by omega) i (by omega)
      rw [show k + 1 - 1 = k by omega] at h5
      rw [if_neg (nI_nle (by omega) (by omega)), nI_pred, show (25 : Int32) * nI k + (5 : Int32) * nI b + nI i = nI (25 * k + 5 * b + i) from by
        rw [show (25 : Int32) = nI 25 from rfl, show (5 : Int32) = nI 5 from rfl, pk_mul, pk_mul, nI_add, nI_add], ldI_s (by omega) (by decide), hM.2 k b i hq hb (by omega), bitB]
      have hb101 : fX12_history_b101 k43 (fX12_history_l56 k43 u v2 (nI (k + 1)) (nI b) m) u v2 (lN (n - sm (gH al so go T (k + 1) b) i)) (nI i) (nI (k + 1)) (nI b) = fX12_history_l56 k43 u v2 (nI (k + 1)) (nI b) m (lN (n - (sm (gH al so go T (k + 1) b) i + gH al so go T (k + 1) b i))) (nI (i + 1)) := by
        unfold fX12_history_b101
        rw [if_neg (nI_nle (by omega) (by omega)), nI_pred, show (25 : Int32) * nI k + (5 : Int32) * nI b + nI i = nI (25 * k + 5 * b + i) from by
          rw [show (25 : Int32) = nI 25 from rfl, show (5 : Int32) = nI 5 from rfl, pk_mul, pk_mul, nI_add, nI_add], ldI_s (by omega) (by decide), hM.2 k b i hq hb (by omega), bitB]
        cases hg : go k b i
        · rw [hg] at h5
          have h6 : gH al so go T (k + 1) b i = 0 := h5
          rw [h6]
          unfold fX12_history_b146
          simp only [Bool.false_eq_true, ↓reduceIte, nmL_s, Int64.sub_zero, Nat.add_zero, nI_1]
        · rw [hg] at h5
          exact hb134 h5
      cases hg : go k b i
      · exact hb101
      · rw [hg] at h5
        have h6 : gH al so go T (k + 1) b i = bwN (alS al so) go T (k + 1) i := h5
        simp only [↓reduceIte]
        unfold fX12_history_b84
        rw [show (5 : Int32) * nI (k + 1) = nI (5 * (k + 1)) from pk_mul 5 (k + 1), nI_add, ldL_s (by omega) (by decide), hbe i (by omega), if_neg (fun y => absurd ((lN_lt (by omega) (bw31 _ go hT)).mp y) (by omega))]
        exact hb101) NF 0 (lN n) (by omega) (by unfold NF; omega) rfl
  subst hs
  exact e
theorem land_loop {u v : St} {T : Nat} {al : Nat → Nat → Bool} {so : Nat → Bool} {go : Nat → Nat → Nat → Bool} (hV : VC u T al so go) (hC : CC u T al so go) (hM : CM v T (alS al so) go) (hT2 : 2 ≤ T) (hT : T ≤ 12) {p : Nat} (hp : p < T) : ∀ (m q n b : Nat), q ≤ p + 1 → p + 1 < m + q → b < 5 → n < 2 ^ 31 → (q < T → n < sm (gH al so go T q b) 5) → (q = 0 → b = 0) → 0 < m → ∃ r, fX1_landOf_l9 u (nI p) m (lN n) (if q = 0 then -1 else nI b) (nI q) = some r ∧ fX12_history_l43 v (nI p) m (lN n) (nI b) (nI q) = some (r, v) := by
  intro m
  induction m with
  | zero => intro q n b h1 h2 h3 h4 h5 h6 h7; omega
  | succ m ih =>
    intro q n b h1 h2 h3 h4 h5 h6 h7
    show ∃ r, fX1_landOf_l9b u (fX1_landOf_l9 u (nI p) m) (nI p) (lN n) (if q = 0 then -1 else nI b) (nI q) = some r ∧ fX12_history_l43b (fX12_history_l43 v (nI p) m) v (nI p) (lN n) (nI b) (nI q) = some (r, v)
    unfold fX1_landOf_l9b fX12_history_l43b
    by_cases hq : q = p + 1
    · subst hq
      rw [if_pos (nI_lt (by omega) (by omega)), if_pos (nI_lt (by omega) (by omega)), if_neg (by omega)]
      exact ⟨_, rfl, rfl⟩
    · rw [if_neg (nI_nlt (by omega) (by omega)), if_neg (nI_nlt (by omega) (by omega))]
      obtain ⟨l, hl, e1, e2⟩ := exL _ _ _ (h5 (by omega))
      rw [landC_row hV hC hT (by omega) h3 hl h4 e1 e2, landM_row hM hT2 hT (by omega) h3 hl h4 e1 e2]
      have e3 : n < sm (gH al so go T q b) l + gH al so go T q b l := e2
      have := ih (q + 1) (n - sm (gH al so go T q b) l) l (by omega) (by omega) hl (by omega) (fun hq1 => gH_next (q := q) (b := b) (by omega) hq1) (fun z => by omega) (by omega)
      rw [if_neg (by omega)] at this
      exact this
theorem T_history {ts : List Tx} {uC uM : St} (h : Rel ts uC uM) (a0 : Int32) (a1 : Int32) : ∃ (r : Int32) (uC' : St) (uM' : St), fX11_history uC a0 a1 = some (r, uC') ∧ fX12_history uM a0 a1 = some (r, uM') ∧ Rel ts uC' uM' := by
  obtain ⟨T, al, so, go, uC', uM', t1, t2, t3, t4, t5, t6, e1, e2, hR, kC, kM, hV, hVM, hC, hM, e3⟩ := cnt_both h
  unfold fX11_history fX12_history
  rw [show (9999 : Int32) = nI 10000 - 1 by decide, show (10000 : Int32) = nI 10000 from rfl]
  by_cases ha : InR a0 10000
  · rw [in_t (by decide) ha, if_neg (inr_0 (by decide) ha), if_neg (inr_n (by decide) ha)]
    by_cases hp : InR a1 T
    · rw [perC_t (by omega) t4 hp, perM_t (by omega) t3 hp]
      obtain ⟨n, hn, rfl⟩ := ha
      obtain ⟨p, hp, rfl⟩ := hp
      simp only [cl1_s, i10, ↓reduceIte, e1, e2, cl2_s, e3, nI_l (show n < 2 ^ 31 by omega), nmL_s]
      by_cases z : lN n < lN (tot al so go T)
      · rw [if_pos z, if_pos z]
        have z2 : n < tot al so go T := by
          have hub : tot al so go T < 2 ^ 31 := by
            have h1 : tot al so go T ≤ sm (fun _ => 5 ^ 11) 5 := sm_le 5 (fun i hi => by
              have h2 : bwN al go T 0 i ≤ 5 ^ 11 := Nat.le_trans (bw_le al go T 0 i) (Nat.pow_le_pow_right (by decide) (by omega))
              rcases fw01 al so go T i with e | e <;> rw [e] <;> omega)
            rw [sm_const] at h1
            exact Nat.lt_of_le_of_lt h1 (by decide)
          exact (lN_lt (by omega) hub).mp z
        obtain ⟨r, r1, r2⟩ := land_loop hV hC hM t1 t2 hp NF 0 n 0 (by omega) (by unfold NF; omega) (by decide) (by omega) (fun _ => z2) (fun _ => rfl) (by unfold NF; omega)
        refine ⟨r, uC', uM', ?_, r2, hR⟩
        unfold fX1_landOf
        rw [nI_l (show n < 2 ^ 31 by omega), nmL_s]
        have r1' : fX1_landOf_l9 uC' (nI p) NF (lN n) (-1) 0 = some r := r1
        rw [r1', cl1_s]
      · rw [if_neg z, if_neg z]
        exact ⟨_, _, _, rfl, rfl, hR⟩
    · rw [perC_f (by omega) t4 hp, perM_f (by omega) t3 hp]
      exact ⟨_, _, _, rfl, rfl, h⟩
  · rw [in_f (by decide) ha]
    simp only [cl1_s, ↓reduceIte]
    by_cases z : a0 < 0
    · rw [if_pos z]
      exact ⟨_, _, _, rfl, rfl, h⟩
    · rw [if_neg z, if_pos (ninr_n (by decide) ha z)]
      exact ⟨_, _, _, rfl, rfl, h⟩
