/-! texts: bytes and runs of them -/
def ltB (n : Nat) : Bool := decide (97 ≤ n ∧ n ≤ 122)
def dgB (n : Nat) : Bool := decide (48 ≤ n ∧ n ≤ 57)
def blB (n : Nat) : Bool := decide (n = 32 ∨ n = 10)
def sgL : List Nat := [40, 41, 59, 43, 45, 42, 60, 61]
def sgB (n : Nat) : Bool := decide (n = 40 ∨ n = 41 ∨ n = 59 ∨ n = 43 ∨ n = 45 ∨ n = 42 ∨ n = 60 ∨ n = 61)
def clI (x : Int32) : Int32 := x.toInt8.toInt32
theorem by_256 : ∀ n, n < 256 → fX5_isLetter (clI (nI n)) = some (if ltB n then 1 else 0) ∧ fX5_isFigure (clI (nI n)) = some (if dgB n then 1 else 0) ∧ fX12_in (nI n) 97 122 = some (if ltB n then 1 else 0) ∧ fX12_in (nI n) 48 57 = some (if dgB n then 1 else 0) ∧ ((clI (nI n) = 32 ∨ clI (nI n) = 10) ↔ blB n = true) ∧ ((nI n = 32 ∨ nI n = 10) ↔ blB n = true) ∧ (ltB n || dgB n || sgB n = true → clI (nI n) = nI n) := by decide +kernel
theorem run_ex (P : Nat → Bool) (b : Nat → Nat) (K : Nat) : ∀ d p, p + d = K → ∃ e, p ≤ e ∧ e ≤ K ∧ (∀ i, p ≤ i → i < e → P (b i) = true) ∧ (e = K ∨ P (b e) = false) := by
  intro d
  induction d with
  | zero => intro p h; exact ⟨p, Nat.le_refl p, by omega, fun i h1 h2 => by omega, Or.inl (by omega)⟩
  | succ d ih =>
    intro p h
    cases hp : P (b p)
    · exact ⟨p, Nat.le_refl p, by omega, fun i h1 h2 => by omega, Or.inr hp⟩
    · obtain ⟨e, h1, h2, h3, h4⟩ := ih (p + 1) (by omega)
      refine ⟨e, by omega, h2, fun i h5 h6 => ?_, h4⟩
      by_cases q : i = p
      · subst q; exact hp
      · exact h3 i (by omega) h6
/-- a text as both sides hold it -/
def TXc (c : St) (b : Nat → Nat) (K : Nat) : Prop := K ≤ 160 ∧ gZ c 100 = nI K ∧ ∀ i, i < K → b i < 256 ∧ gA c 102 i = clI (nI (b i))
def TXm (u : St) (b : Nat → Nat) (K : Nat) : Prop := K ≤ 160 ∧ gZ u 27 = nI K ∧ ∃ base, base + K ≤ 960 ∧ gZ u 26 = nI base ∧ ∀ i, i < K → b i < 256 ∧ gA u 21 (base + i) = nI (b i)
theorem byteAt_in {u : St} {b : Nat → Nat} {K : Nat} (h : TXm u b K) {i : Nat} (hi : i < K) : fX12_byteAt u (nI i) = some (nI (b i)) := by
  obtain ⟨h1, h2, base, h3, h4, h5⟩ := h
  unfold fX12_byteAt
  rw [h2, if_neg (nI_ge hi (by omega)), h4, nI_add, ldI_s (by omega) (by decide), (h5 i hi).2]
theorem byteAt_out {u : St} {b : Nat → Nat} {K : Nat} (h : TXm u b K) : fX12_byteAt u (nI K) = some (-1) := by
  obtain ⟨h1, h2, base, h3, h4, h5⟩ := h
  unfold fX12_byteAt
  rw [h2, if_pos (nI_le (Nat.le_refl _) (by omega))]
theorem txm_Z {u : St} {b : Nat → Nat} {K : Nat} (h : TXm u b K) {k : Nat} (h26 : ¬ 26 = k) (h27 : ¬ 27 = k) (v : Int32) : TXm (setZ u k v) b K := by
  obtain ⟨h1, h2, base, h3, h4, h5⟩ := h
  exact ⟨h1, by rw [gZ_n u v h27]; exact h2, base, h3, by rw [gZ_n u v h26]; exact h4, h5⟩
theorem txm_Y {u : St} {b : Nat → Nat} {K : Nat} (h : TXm u b K) (k : Nat) (v : Int64) : TXm (setY u k v) b K := h
theorem txc_Z {u : St} {b : Nat → Nat} {K : Nat} (h : TXc u b K) {k : Nat} (h100 : ¬ 100 = k) (v : Int32) : TXc (setZ u k v) b K := by
  obtain ⟨h1, h2, h3⟩ := h
  exact ⟨h1, by rw [gZ_n u v h100]; exact h2, h3⟩
theorem setZ_comm (u : St) {k j : Nat} (h : k ≠ j) (x y : Int32) : setZ (setZ u k x) j y = setZ (setZ u j y) k x := by
  show (upd (upd u.1 k x) j y, u.2) = (upd (upd u.1 j y) k x, u.2)
  congr 1
  funext i
  unfold upd
  by_cases e1 : i = j
  · subst e1
    rw [if_pos rfl, if_neg (fun z => h z.symm), if_pos rfl]
  · rw [if_neg e1]
    by_cases e2 : i = k
    · rw [if_pos e2, if_pos e2]
    · rw [if_neg e2, if_neg e2, if_neg e1]
theorem setY_setY (u : St) (k : Nat) (v w : Int64) : setY (setY u k v) k w = setY u k w := by
  show (u.1, vp_updL (vp_updL u.2.1 k v) k w, u.2.2) = (u.1, vp_updL u.2.1 k w, u.2.2)
  congr 2
  funext j
  unfold vp_updL
  by_cases h : j = k <;> simp [h]
theorem setZ_setY (u : St) (k j : Nat) (v : Int64) (x : Int32) : setZ (setY u k v) j x = setY (setZ u j x) k v := rfl
theorem gY_s (u : St) (k : Nat) (v : Int64) : gY (setY u k v) k = v := if_pos rfl
section Lex
variable {c u : St} {b : Nat → Nat} {K : Nat}
theorem skip_C (h : TXc c b K) {s : Nat} (hs : s ≤ K) (h2 : s = K ∨ blB (b s) = false) : ∀ (d p m : Nat), p + d = s → d < m → (∀ i, p ≤ i → i < s → blB (b i) = true) → fX5_advance_l8 m (setZ c 106 (nI p)) = fX5_advance_b60 (setZ c 106 (nI s)) := by
  obtain ⟨hK, h100, hb⟩ := h
  intro d
  induction d with
  | zero =>
    intro p m h1 hm _
    have e : p = s := by omega
    subst e
    obtain ⟨m, rfl⟩ : ∃ q, m = q + 1 := ⟨m - 1, by omega⟩
    show fX5_advance_l8b (fX5_advance_l8 m) (setZ c 106 (nI p)) = _
    unfold fX5_advance_l8b
    rw [gZ_n c _ (by decide), h100, gZ_s]
    rcases h2 with q | q
    · rw [if_pos (by rw [q]; exact nI_le (Nat.le_refl _) (by omega))]
    · by_cases w : p = K
      · rw [if_pos (by rw [w]; exact nI_le (Nat.le_refl _) (by omega))]
      · have hp : p < K := by omega
        have hbl := (by_256 (b p) (hb p hp).1).2.2.2.2.1
        rw [if_neg (nI_ge hp (by omega)), gA_setZ, ldI_s (by omega) (by decide), (hb p hp).2, ldI_s (by omega) (by decide), (hb p hp).2, if_neg (fun z => by rw [hbl.mp (Or.inl z)] at q; exact absurd q (by decide)), if_neg (fun z => by rw [hbl.mp (Or.inr z)] at q; exact absurd q (by decide))]
  | succ d ih =>
    intro p m h1 hm h3
    obtain ⟨m, rfl⟩ : ∃ q, m = q + 1 := ⟨m - 1, by omega⟩
    have hp : p < K := by omega
    have hbl := (by_256 (b p) (hb p hp).1).2.2.2.2.1.mpr (h3 p (Nat.le_refl p) (by omega))
    show fX5_advance_l8b (fX5_advance_l8 m) (setZ c 106 (nI p)) = _
    unfold fX5_advance_l8b fX5_advance_b47
    rw [gZ_n c _ (by decide), h100, gZ_s, if_neg (nI_ge hp (by omega)), gA_setZ, ldI_s (by omega) (by decide), (hb p hp).2, ldI_s (by omega) (by decide), (hb p hp).2, nmS_s, setZ_setZ, nI_1, ih (p + 1) m (by omega) (by omega) (fun i h4 h5 => h3 i (by omega) h5)]
    rcases hbl with q | q
    · rw [if_pos q]
    · by_cases w : clI (nI (b p)) = 32
      · rw [if_pos w]
      · rw [if_neg w, if_pos q]
theorem skip_M (h : TXm u b K) {s : Nat} (hs : s ≤ K) : ∀ (d p m : Nat), p + d = s → (∀ i, p ≤ i → i < s → blB (b i) = true) → fX12_next_l0 (m + d) (setZ u 31 (nI p)) = fX12_next_l0 m (setZ u 31 (nI s)) := by
  intro d
  induction d with
  | zero => intro p m h1 _; rw [show p = s by omega]; rfl
  | succ d ih =>
    intro p m h1 h3
    have hp : p < K := by omega
    have hb := (h.2.2.choose_spec.2.2 p hp).1
    have hbl := (by_256 (b p) hb).2.2.2.2.2.1.mpr (h3 p (Nat.le_refl p) (by omega))
    show fX12_next_l0b (fX12_next_l0 (m + d)) (setZ u 31 (nI p)) = _
    unfold fX12_next_l0b fX12_next_b26
    have hbt := byteAt_in (txm_Z h (k := 31) (by decide) (by decide) (nI p)) hp
    rw [gZ_s, hbt, cl1_s, cl1_s, nmS_s, setZ_setZ, nI_1, ih (p + 1) m (by omega) (fun i h4 h5 => h3 i (by omega) h5)]
    rcases hbl with q | q
    · rw [if_pos q]
    · by_cases w : nI (b p) = 32
      · rw [if_pos w]
      · rw [if_neg w, if_pos q]
theorem word_C (h : TXc c b K) {e : Nat} (he : e ≤ K) (h2 : e = K ∨ ltB (b e) = false) : ∀ (d p m : Nat), p + d = e → d < m → (∀ i, p ≤ i → i < e → ltB (b i) = true) → fX5_readWord_l0 m (setZ c 107 (nI p)) = fX5_readWord_b39 (setZ c 107 (nI e)) := by
  obtain ⟨hK, h100, hb⟩ := h
  intro d
  induction d with
  | zero =>
    intro p m h1 hm _
    have e' : p = e := by omega
    subst e'
    obtain ⟨m, rfl⟩ : ∃ q, m = q + 1 := ⟨m - 1, by omega⟩
    show fX5_readWord_l0b (fX5_readWord_l0 m) (setZ c 107 (nI p)) = _
    unfold fX5_readWord_l0b
    rw [gZ_n c _ (by decide), h100, gZ_s]
    by_cases w : p = K
    · rw [if_pos (by rw [w]; exact nI_le (Nat.le_refl _) (by omega))]
    · have hp : p < K := by omega
      rw [if_neg (nI_ge hp (by omega)), gA_setZ, ldI_s (by omega) (by decide), (hb p hp).2, (by_256 (b p) (hb p hp).1).1, cl1_s, bitB]
      rcases h2 with q | q
      · exact absurd q w
      · rw [if_neg (by rw [q]; decide)]
  | succ d ih =>
    intro p m h1 hm h3
    obtain ⟨m, rfl⟩ : ∃ q, m = q + 1 := ⟨m - 1, by omega⟩
    have hp : p < K := by omega
    show fX5_readWord_l0b (fX5_readWord_l0 m) (setZ c 107 (nI p)) = _
    unfold fX5_readWord_l0b
    rw [gZ_n c _ (by decide), h100, gZ_s, if_neg (nI_ge hp (by omega)), gA_setZ, ldI_s (by omega) (by decide), (hb p hp).2, (by_256 (b p) (hb p hp).1).1, cl1_s, bitB, if_pos (h3 p (Nat.le_refl p) (by omega)), nmS_s, setZ_setZ, nI_1]
    exact ih (p + 1) m (by omega) (by omega) (fun i h4 h5 => h3 i (by omega) h5)
/-- a word's worth -/
def wvN (b : Nat → Nat) (s : Nat) : Nat → Nat
  | 0 => 0
  | n + 1 => 27 * wvN b s n + (b (s + n) - 96)
def wvL (b : Nat → Nat) (s n : Nat) : Int64 := if n ≤ 8 then lN (wvN b s n) else -1
theorem word_M (h : TXm u b K) {s e : Nat} (he : e ≤ K) (h2 : e = K ∨ ltB (b e) = false) : ∀ (d n m : Nat), s + n + d = e → d < m → (∀ i, s ≤ i → i < e → ltB (b i) = true) → fX12_next_l104 m (setY (setZ u 31 (nI (s + n))) 30 (wvL b s n)) (nI n) = some (setY (setZ u 31 (nI e)) 30 (wvL b s (e - s))) := by
  intro d
  induction d with
  | zero =>
    intro n m h1 hm _
    obtain ⟨m, rfl⟩ : ∃ q, m = q + 1 := ⟨m - 1, by omega⟩
    have hn : e - s = n := by omega
    have h1' : s + n = e := h1
    show fX12_next_l104b (fX12_next_l104 m) (setY (setZ u 31 (nI (s + n))) 30 (wvL b s n)) (nI n) = _
    unfold fX12_next_l104b
    rw [hn, h1', gZ_setY, gZ_s]
    by_cases w : e = K
    · have hbt := byteAt_out (txm_Y (txm_Z h (k := 31) (by decide) (by decide) (nI e)) 30 (wvL b s n))
      rw [show nI e = nI K by rw [w]] at hbt ⊢
      rw [hbt, cl1_s, show fX12_in (-1) 97 122 = some 0 from by decide, cl1_s, if_pos rfl]
    · have hp : e < K := by omega
      have hbt := byteAt_in (txm_Y (txm_Z h (k := 31) (by decide) (by decide) (nI e)) 30 (wvL b s n)) hp
      have hb := (h.2.2.choose_spec.2.2 e hp).1
      rcases h2 with q | q
      · exact absurd q w
      · rw [hbt, cl1_s, (by_256 (b e) hb).2.2.1, cl1_s, bitB, if_neg (by rw [q]; decide)]
  | succ d ih =>
    intro n m h1 hm h3
    obtain ⟨m, rfl⟩ : ∃ q, m = q + 1 := ⟨m - 1, by omega⟩
    have hp : s + n < K := by omega
    have hK := h.1
    have hb := (h.2.2.choose_spec.2.2 (s + n) hp).1
    have hl := h3 (s + n) (by omega) (by omega)
    have hbt := byteAt_in (txm_Y (txm_Z h (k := 31) (by decide) (by decide) (nI (s + n))) 30 (wvL b s n)) hp
    show fX12_next_l104b (fX12_next_l104 m) (setY (setZ u 31 (nI (s + n))) 30 (wvL b s n)) (nI n) = _
    unfold fX12_next_l104b fX12_next_b157
    rw [gZ_setY, gZ_s, hbt, cl1_s, (by_256 (b (s + n)) hb).2.2.1, cl1_s, bitB, if_pos hl, cl1_s, gY_s]
    have h97 : 97 ≤ b (s + n) ∧ b (s + n) ≤ 122 := of_decide_eq_true hl
    have hst : ∀ w : Int64, w = wvL b s (n + 1) → (nmS (setY (setY (setZ u 31 (nI (s + n))) 30 (wvL b s n)) 30 w) fun u18 => nmS (setZ u18 31 ((gZ u18 31) + 1)) fun u19 => fX12_next_l104 m u19 (nI n + 1)) = some (setY (setZ u 31 (nI e)) 30 (wvL b s (e - s))) := by
      intro w hw
      subst hw
      rw [nmS_s, nmS_s, setY_setY, gZ_setY, gZ_s, setZ_setY, setZ_setZ, nI_1, nI_1]
      have := ih (n + 1) m (by omega) (by omega) h3
      rw [show s + (n + 1) = s + n + 1 by omega] at this
      rw [← this]
    by_cases w : 8 ≤ n
    · rw [if_pos (show (8 : Int32) ≤ nI n from nI_le (a := 8) w (by omega))]
      exact hst (-1) (by unfold wvL; rw [if_neg (by omega)])
    · rw [if_neg (show ¬ (8 : Int32) ≤ nI n from nI_ge (b := 8) (by omega) (by omega))]
      refine hst _ ?_
      unfold wvL
      rw [if_pos (show n ≤ 8 by omega), if_pos (show n + 1 ≤ 8 by omega), nI_l (by omega), show (27 : Int64) = lN 27 from rfl, show (96 : Int64) = lN 96 from rfl, lN_mul, lN_add, lN_sub (by omega)]
      show lN (27 * wvN b s n + b (s + n) - 96) = lN (27 * wvN b s n + (b (s + n) - 96))
      rw [Nat.add_sub_assoc (by omega)]
/-- a number's value -/
def dvN (b : Nat → Nat) (s : Nat) : Nat → Nat
  | 0 => 0
  | n + 1 => 10 * dvN b s n + (b (s + n) - 48)
theorem num_C (h : TXc c b K) {s e : Nat} (h106 : gZ c 106 = nI s) (he : e ≤ K) (h2 : e = K ∨ dgB (b e) = false) : ∀ (d n m : Nat), s + n + d = e → d < m → (∀ i, s ≤ i → i < e → dgB (b i) = true) → fX5_readNumber_l5 m (setZ (setZ c 107 (nI (s + n))) 108 (nI (dvN b s n))) = some (if e - s ≤ 4 then 2 else 1, setZ (setZ c 107 (nI e)) 108 (nI (dvN b s (e - s)))) := by
  obtain ⟨hK, h100, hb⟩ := h
  intro d
  induction d with
  | zero =>
    intro n m h1 hm _
    obtain ⟨m, rfl⟩ : ∃ q, m = q + 1 := ⟨m - 1, by omega⟩
    have hn : e - s = n := by omega
    have h1' : s + n = e := h1
    show fX5_readNumber_l5b (fX5_readNumber_l5 m) (setZ (setZ c 107 (nI (s + n))) 108 (nI (dvN b s n))) = _
    have hb68 : fX5_readNumber_b68 (setZ (setZ c 107 (nI e)) 108 (nI (dvN b s n))) = some (if n ≤ 4 then 2 else 1, setZ (setZ c 107 (nI e)) 108 (nI (dvN b s n))) := by
      unfold fX5_readNumber_b68
      rw [gZ_n _ _ (by decide), gZ_s, gZ_n _ _ (by decide), gZ_n _ _ (by decide), h106, pk_sub (by omega), hn]
      by_cases w : n ≤ 4
      · rw [if_pos (show nI n ≤ 4 from nI_le (b := 4) w (by omega)), if_pos w]
      · rw [if_neg (show ¬ nI n ≤ 4 from nI_ge (a := 4) (by omega) (by omega)), if_neg w]
    unfold fX5_readNumber_l5b
    rw [hn, h1', gZ_n _ _ (by decide), gZ_n _ _ (by decide), h100, gZ_n _ _ (by decide), gZ_s]
    by_cases w : e = K
    · rw [if_pos (by rw [w]; exact nI_le (Nat.le_refl _) (by omega))]
      exact hb68
    · have hp : e < K := by omega
      rw [if_neg (nI_ge hp (by omega)), gA_setZ, gA_setZ, ldI_s (by omega) (by decide), (hb e hp).2, (by_256 (b e) (hb e hp).1).2.1, cl1_s, bitB]
      rcases h2 with q | q
      · exact absurd q w
      · rw [if_neg (by rw [q]; decide)]
        exact hb68
  | succ d ih =>
    intro n m h1 hm h3
    obtain ⟨m, rfl⟩ : ∃ q, m = q + 1 := ⟨m - 1, by omega⟩
    have hp : s + n < K := by omega
    have hl := h3 (s + n) (by omega) (by omega)
    have h48 : 48 ≤ b (s + n) ∧ b (s + n) ≤ 57 := of_decide_eq_true hl
    have hcl := (by_256 (b (s + n)) (hb _ hp).1).2.2.2.2.2.2 (by rw [hl]; simp)
    show fX5_readNumber_l5b (fX5_readNumber_l5 m) (setZ (setZ c 107 (nI (s + n))) 108 (nI (dvN b s n))) = _
    unfold fX5_readNumber_l5b
    rw [gZ_n _ _ (by decide), gZ_n _ _ (by decide), h100, gZ_n _ _ (by decide), gZ_s, if_neg (nI_ge hp (by omega)), gA_setZ, gA_setZ, ldI_s (by omega) (by decide), (hb _ hp).2, (by_256 _ (hb _ hp).1).2.1, cl1_s, bitB, if_pos hl, ldI_s (by omega) (by decide), (hb _ hp).2, gZ_s, hcl, nmS_s, nmS_s, setZ_setZ, gZ_n _ _ (by decide), gZ_s, nI_1, show (10 : Int32) = nI 10 from rfl, pk_mul, nI_add, show (48 : Int32) = nI 48 from rfl, pk_sub (by omega), show dvN b s n * 10 + b (s + n) - 48 = dvN b s (n + 1) by
      show _ = 10 * dvN b s n + (b (s + n) - 48)
      omega, setZ_comm (setZ c 107 (nI (s + n))) (k := 108) (j := 107) (by decide), setZ_setZ]
    exact ih (n + 1) m (by omega) (by omega) h3
def dvL (b : Nat → Nat) (s n : Nat) : Int64 := lN (dvN b s (if n ≤ 4 then n else 4))
theorem num_M (h : TXm u b K) {s e : Nat} (he : e ≤ K) (h2 : e = K ∨ dgB (b e) = false) : ∀ (d n m : Nat), s + n + d = e → d < m → (∀ i, s ≤ i → i < e → dgB (b i) = true) → fX12_next_l202 m (setY (setZ u 31 (nI (s + n))) 30 (dvL b s n)) (nI n) = some (setZ (setY (setZ u 31 (nI e)) 30 (dvL b s (e - s))) 28 (if e - s ≤ 4 then 2 else 4)) := by
  intro d
  induction d with
  | zero =>
    intro n m h1 hm _
    obtain ⟨m, rfl⟩ : ∃ q, m = q + 1 := ⟨m - 1, by omega⟩
    have hn : e - s = n := by omega
    have h1' : s + n = e := h1
    show fX12_next_l202b (fX12_next_l202 m) (setY (setZ u 31 (nI (s + n))) 30 (dvL b s n)) (nI n) = _
    have hend : (if nI n ≤ 4 then fX12_next_b285 (setY (setZ u 31 (nI e)) 30 (dvL b s n)) 2 else fX12_next_b285 (setY (setZ u 31 (nI e)) 30 (dvL b s n)) 4) = some (setZ (setY (setZ u 31 (nI e)) 30 (dvL b s n)) 28 (if n ≤ 4 then 2 else 4)) := by
      unfold fX12_next_b285
      rw [nmS_s, nmS_s]
      by_cases w : n ≤ 4
      · rw [if_pos (show nI n ≤ 4 from nI_le (b := 4) w (by omega)), if_pos w]
      · rw [if_neg (show ¬ nI n ≤ 4 from nI_ge (a := 4) (by omega) (by have := h.1; omega)), if_neg w]
    unfold fX12_next_l202b
    rw [hn, h1', gZ_setY, gZ_s]
    by_cases w : e = K
    · have hbt := byteAt_out (txm_Y (txm_Z h (k := 31) (by decide) (by decide) (nI e)) 30 (dvL b s n))
      rw [show nI K = nI e by rw [w]] at hbt
      rw [hbt, cl1_s, show fX12_in (-1) 48 57 = some 0 from by decide, cl1_s, if_pos rfl]
      exact hend
    · have hp : e < K := by omega
      have hbt := byteAt_in (txm_Y (txm_Z h (k := 31) (by decide) (by decide) (nI e)) 30 (dvL b s n)) hp
      have hb := (h.2.2.choose_spec.2.2 e hp).1
      rcases h2 with q | q
      · exact absurd q w
      · rw [hbt, cl1_s, (by_256 (b e) hb).2.2.2.1, cl1_s, bitB, if_neg (by rw [q]; decide)]
        exact hend
  | succ d ih =>
    intro n m h1 hm h3
    obtain ⟨m, rfl⟩ : ∃ q, m = q + 1 := ⟨m - 1, by omega⟩
    have hp : s + n < K := by omega
    have hK := h.1
    have hb := (h.2.2.choose_spec.2.2 (s + n) hp).1
    have hl := h3 (s + n) (by omega) (by omega)
    have hbt := byteAt_in (txm_Y (txm_Z h (k := 31) (by decide) (by decide) (nI (s + n))) 30 (dvL b s n)) hp
    have h48 : 48 ≤ b (s + n) ∧ b (s + n) ≤ 57 := of_decide_eq_true hl
    show fX12_next_l202b (fX12_next_l202 m) (setY (setZ u 31 (nI (s + n))) 30 (dvL b s n)) (nI n) = _
    unfold fX12_next_l202b fX12_next_b255
    rw [gZ_setY, gZ_s, hbt, cl1_s, (by_256 (b (s + n)) hb).2.2.2.1, cl1_s, bitB, if_pos hl, cl1_s, gY_s]
    have hst : ∀ w : Int64, w = dvL b s (n + 1) → (nmS (setY (setY (setZ u 31 (nI (s + n))) 30 (dvL b s n)) 30 w) fun u23 => nmS (setZ u23 31 ((gZ u23 31) + 1)) fun u24 => fX12_next_l202 m u24 (nI n + 1)) = some (setZ (setY (setZ u 31 (nI e)) 30 (dvL b s (e - s))) 28 (if e - s ≤ 4 then 2 else 4)) := by
      intro w hw
      subst hw
      rw [nmS_s, nmS_s, setY_setY, gZ_setY, gZ_s, setZ_setY, setZ_setZ, nI_1, nI_1]
      have := ih (n + 1) m (by omega) (by omega) h3
      rw [show s + (n + 1) = s + n + 1 by omega] at this
      rw [← this]
    by_cases w : 4 ≤ n
    · rw [if_pos (show (4 : Int32) ≤ nI n from nI_le (a := 4) w (by omega))]
      refine hst _ ?_
      unfold dvL
      rw [if_neg (show ¬ n + 1 ≤ 4 by omega)]
      by_cases w2 : n ≤ 4
      · rw [if_pos w2, show n = 4 by omega]
      · rw [if_neg w2]
    · rw [if_neg (show ¬ (4 : Int32) ≤ nI n from nI_ge (b := 4) (by omega) (by omega))]
      refine hst _ ?_
      unfold dvL
      rw [if_pos (show n ≤ 4 by omega), if_pos (show n + 1 ≤ 4 by omega), nI_l (by omega), show (10 : Int64) = lN 10 from rfl, show (48 : Int64) = lN 48 from rfl, lN_mul, lN_add, lN_sub (by omega)]
      show lN (10 * dvN b s n + b (s + n) - 48) = lN (10 * dvN b s n + (b (s + n) - 48))
      rw [Nat.add_sub_assoc (by omega)]
end Lex
