theorem i10 : ((1 : Int32) = 0) = False := eq_false (by decide)
theorem i00 : ((0 : Int32) = 0) = True := eq_true rfl
theorem upd_s (f : Nat → Int32) (k : Nat) (x : Int32) : upd f k x k = x := if_pos rfl
theorem upd_n (f : Nat → Int32) {k j : Nat} (x : Int32) (h : j ≠ k) : upd f k x j = f j := if_neg h
theorem updL_s (f : Nat → Int64) (k : Nat) (x : Int64) : vp_updL f k x k = x := if_pos rfl
theorem updL_n (f : Nat → Int64) {k j : Nat} (x : Int64) (h : j ≠ k) : vp_updL f k x j = f j := if_neg h
theorem edge_t {v : Int32} (h : InR v 10000) : fX8_isEdge v = some 1 := by
  unfold fX8_isEdge
  rw [if_neg (inr_0 (by decide) h), show (9999 : Int32) = nI 9999 from rfl, if_neg (le_of_inr (by decide) h)]
theorem edge_f {v : Int32} (h : ¬ InR v 10000) : fX8_isEdge v = some 0 := by
  unfold fX8_isEdge
  by_cases h0 : v < 0
  · rw [if_pos h0]
  · rw [if_neg h0, show (9999 : Int32) = nI 9999 from rfl, if_pos (ninr_l (by decide) h h0)]
theorem nI_inj {a b : Nat} (ha : a < 2 ^ 31) (hb : b < 2 ^ 31) (h : nI a = nI b) : a = b := (nI_eq ha hb).mp h
theorem nI_ne {a b : Nat} (ha : a < 2 ^ 31) (hb : b < 2 ^ 31) (h : a ≠ b) : ¬ nI a = nI b := fun z => h (nI_inj ha hb z)
theorem T_sherd {ts : List Tx} {uC uM : St} (h : Rel ts uC uM) (a0 : Int32) (a1 : Int32) : ∃ (r : Int32) (uC' : St) (uM' : St), fX11_sherd uC a0 a1 = some (r, uC') ∧ fX12_sherd uM a0 a1 = some (r, uM') ∧ Rel ts uC' uM' := by
  obtain ⟨T, h1, h2, h3, h4, h5, h6, h7, h8, ⟨hs1, hs2, S, hS, hc, hm, hk⟩, h10, h11⟩ := id h
  unfold fX11_sherd fX12_sherd
  rw [show (9999 : Int32) = nI 10000 - 1 by decide]
  by_cases ha : InR a0 10000
  · rw [edge_t ha, in_t (by decide) ha]
    by_cases hb : InR a1 10000
    · rw [edge_t hb, in_t (by decide) hb]
      simp only [cl1_s, hc, hm, i10, ↓reduceIte]
      by_cases h8' : S = 8
      · subst h8'
        have e8 : nI 8 = 8 := rfl
        rw [if_pos e8, if_pos e8]
        exact ⟨_, _, _, rfl, rfl, h⟩
      · have hlt : S < 8 := by omega
        have e8 : ¬ nI S = 8 := nI_ne (b := 8) (by omega) (by decide) h8'
        rw [if_neg e8, if_neg e8]
        unfold fX8_add
        simp only [gZ_setA, hc, hm, stI_s hlt (show 8 < 2 ^ 31 by decide), nmI_s, nmS_s, gZ_setZ, cl2_s, ↓reduceIte, gA_setA, nI_1, nI_pred, show (49 = 48) = False by simp, show (163 = 162) = False by simp, show (55 = 54) = False by simp, show (123 = 122) = False by simp]
        refine ⟨nI S, _, _, rfl, rfl, T, h1, h2, h3, h4, h5, h6, h7, h8, ⟨hs1, hs2, S + 1, by omega, rfl, rfl, fun i hi => ?_⟩, h10, h11⟩
        show upd (gA uC 162) S a0 i = upd (gA uM 48) S a0 i ∧ upd (gA uC 163) S a1 i = upd (gA uM 49) S a1 i ∧ InR (upd (gA uM 48) S a0 i) 10000 ∧ InR (upd (gA uM 49) S a1 i) 10000
        by_cases e : i = S
        · subst e
          simp only [upd_s]
          exact ⟨trivial, trivial, ha, hb⟩
        · simp only [upd_n _ _ e]
          exact hk i (by omega)
    · rw [edge_f hb, in_f (by decide) hb]
      exact ⟨_, _, _, rfl, rfl, h⟩
  · rw [edge_f ha, in_f (by decide) ha]
    exact ⟨_, _, _, rfl, rfl, h⟩
theorem marks_t {v : Int32} (h : InR v 1024) : fX6_isMarks v = some 1 := ge_t (n := 1024) (by decide) h
theorem marks_f {v : Int32} (h : ¬ InR v 1024) : fX6_isMarks v = some 0 := ge_f (n := 1024) (by decide) h
theorem nI_and (a b : Nat) (ha : a < 2 ^ 31) (hb : b < 2 ^ 31) : nI a &&& nI b = nI (a &&& b) := by
  apply Int32.toBitVec_inj.mp
  show (nI a).toBitVec &&& (nI b).toBitVec = (nI (a &&& b)).toBitVec
  apply BitVec.eq_of_toNat_eq
  rw [BitVec.toNat_and, pk_tn (by omega), pk_tn (by omega), pk_tn]
  have := Nat.and_le_left (n := a) (m := b)
  omega
theorem inr_and {v w : Int32} {n : Nat} (hn : n < 2 ^ 31) (hv : InR v n) (hw : ¬ w < 0) : InR (v &&& w) n := by
  obtain ⟨k, hk, rfl⟩ := hv
  obtain ⟨j, hj, rfl⟩ := nI_of hw
  refine ⟨k &&& j, ?_, nI_and k j (by omega) hj⟩
  have := Nat.and_le_left (n := k) (m := j)
  omega
theorem T_record {ts : List Tx} {uC uM : St} (h : Rel ts uC uM) (a0 : Int32) (a1 : Int32) : ∃ (r : Int32) (uC' : St) (uM' : St), fX11_record uC a0 a1 = some (r, uC') ∧ fX12_record uM a0 a1 = some (r, uM') ∧ Rel ts uC' uM' := by
  obtain ⟨T, h1, h2, h3, h4, h5, h6, h7, h8, h9, ⟨hs1, hs2, S, hS, hc, hm, hk⟩, h11⟩ := id h
  unfold fX11_record fX12_record
  rw [show (1023 : Int32) = nI 1024 - 1 by decide]
  by_cases ha : InR a0 1024
  · rw [marks_t ha, in_t (by decide) ha]
    by_cases hb : InR a1 1024
    · rw [marks_t hb, in_t (by decide) hb]
      simp only [cl1_s, hc, hm, i10, ↓reduceIte]
      by_cases h8' : S = 10
      · subst h8'
        have e8 : nI 10 = 10 := rfl
        rw [if_pos e8, if_pos e8]
        exact ⟨_, _, _, rfl, rfl, h⟩
      · have hlt : S < 10 := by omega
        have e8 : ¬ nI S = 10 := nI_ne (b := 10) (by omega) (by decide) h8'
        rw [if_neg e8, if_neg e8]
        unfold fX6_add
        simp only [gZ_setA, hc, hm, stI_s hlt (show 10 < 2 ^ 31 by decide), nmI_s, nmS_s, gZ_setZ, cl2_s, ↓reduceIte, gA_setA, nI_1, nI_pred, show (49 = 48) = False by simp, show (163 = 162) = False by simp, show (55 = 54) = False by simp, show (123 = 122) = False by simp]
        refine ⟨nI S, _, _, rfl, rfl, T, h1, h2, h3, h4, h5, h6, h7, h8, h9, ⟨hs1, hs2, S + 1, by omega, rfl, rfl, fun i hi => ?_⟩, h11⟩
        show upd (gA uC 122) S (a0 &&& a1) i = upd (gA uM 54) S (a0 &&& a1) i ∧ upd (gA uC 123) S a1 i = upd (gA uM 55) S a1 i ∧ InR (upd (gA uM 54) S (a0 &&& a1) i) 1024 ∧ InR (upd (gA uM 55) S a1 i) 1024
        by_cases e : i = S
        · subst e
          simp only [upd_s]
          exact ⟨trivial, trivial, inr_and (by decide) ha (inr_0 (by decide) hb), hb⟩
        · simp only [upd_n _ _ e]
          exact hk i (by omega)
    · rw [marks_f hb, in_f (by decide) hb]
      exact ⟨_, _, _, rfl, rfl, h⟩
  · rw [marks_f ha, in_f (by decide) ha]
    exact ⟨_, _, _, rfl, rfl, h⟩
/-! sherds: joined -/
theorem jo_loop (uC uM : St) (hs : gZ uC 161 = gZ uM 50) : ∀ (n : Nat) (x y o k : Int32), fX8_fits_l21 uC n x y o k = fX12_isJoined_l21 uM n o x y k := by
  intro n
  induction n with
  | zero => intro x y o k; rfl
  | succ n ih =>
    intro x y o k
    show fX8_fits_l21b uC (fX8_fits_l21 uC n) x y o k = fX12_isJoined_l21b uM (fX12_isJoined_l21 uM n) o x y k
    unfold fX8_fits_l21b fX12_isJoined_l21b fX8_fits_b45 fX12_isJoined_b49
    simp only [nmI_s, ih, hs, Int32.add_zero]
theorem joined_eq {uC uM : St} (h9 : RelS (gZ uC 160) (gZ uM 47) (gZ uC 161) (gZ uM 50) (gA uC 162) (gA uC 163) (gA uM 48) (gA uM 49)) {S : Nat} (hm : gZ uM 47 = nI S) (hS : S ≤ 8) {i j : Nat} (hi : i < S) (hj : j < S) : fX8_fits uC (nI i) (nI j) = fX12_isJoined uM (nI i) (nI j) := by
  obtain ⟨hs1, hs2, S', hS', hc', hm', hk⟩ := h9
  have e : S' = S := nI_inj (by omega) (by omega) (hm'.symm.trans hm)
  subst e
  unfold fX8_fits fX12_isJoined
  rw [ldI_s (by omega) (by decide), ldI_s (by omega) (by decide), ldI_s (by omega) (by decide), ldI_s (by omega) (by decide), (hk i hi).2.1, (hk j hj).1]
  exact jo_loop uC uM hs1 NF _ _ 0 0
theorem jo_tot (uM : St) : ∀ (n k : Nat) (o x y : Int32), k ≤ 4 → 5 ≤ n + k → ∃ r, fX12_isJoined_l21 uM n o x y (nI k) = some r ∧ (r = 0 ∨ r = 1) := by
  intro n
  induction n with
  | zero => intro k o x y h1 h2; omega
  | succ n ih =>
    intro k o x y h1 h2
    show ∃ r, fX12_isJoined_l21b uM (fX12_isJoined_l21 uM n) o x y (nI k) = some r ∧ _
    unfold fX12_isJoined_l21b fX12_isJoined_b49
    by_cases hk : k = 4
    · subst hk
      rw [if_pos (by decide)]
      by_cases hs : gZ uM 50 < o
      · rw [if_pos hs]
        exact ⟨0, rfl, Or.inl rfl⟩
      · rw [if_neg hs]
        exact ⟨1, rfl, Or.inr rfl⟩
    · rw [if_neg (fun z => by rw [show (4 : Int32) = nI 4 from rfl, nI_leI (by decide) (by omega)] at z; omega)]
      simp only [nmI_s, nI_1]
      by_cases hc : x - x / 10 * 10 + (y - y / 10 * 10) = 9
      · rw [if_pos hc]
        exact ih (k + 1) _ _ _ (by omega) (by omega)
      · rw [if_neg hc]
        exact ih (k + 1) _ _ _ (by omega) (by omega)
theorem isJoined_tot {uM : St} {i j : Nat} (hi : i < 8) (hj : j < 8) : ∃ r, fX12_isJoined uM (nI i) (nI j) = some r ∧ (r = 0 ∨ r = 1) := by
  unfold fX12_isJoined
  rw [ldI_s hi (by decide), ldI_s hj (by decide)]
  exact jo_tot uM NF 0 0 _ _ (by decide) (by unfold NF; omega)
theorem T_joined {ts : List Tx} {uC uM : St} (h : Rel ts uC uM) (a0 : Int32) (a1 : Int32) : ∃ (r : Int32), fX11_joined uC a0 a1 = some r ∧ fX12_joined uM a0 a1 = some r ∧ Rel ts uC uM := by
  obtain ⟨T, h1, h2, h3, h4, h5, h6, h7, h8, h9, h10, h11⟩ := id h
  obtain ⟨hs1, hs2, S, hS, hc, hm, hk⟩ := id h9
  unfold fX11_joined fX12_joined fX8_has
  rw [hc, hm]
  by_cases ha : InR a0 S
  · rw [ge_t (by omega) ha, in_t (by omega) ha]
    by_cases hb : InR a1 S
    · rw [ge_t (by omega) hb, in_t (by omega) hb]
      simp only [cl1_s, i10, ↓reduceIte]
      by_cases e : a0 = a1
      · rw [if_pos e, if_pos e]
        exact ⟨_, rfl, rfl, h⟩
      · rw [if_neg e, if_neg e]
        obtain ⟨i, hi, rfl⟩ := ha
        obtain ⟨j, hj, rfl⟩ := hb
        rw [joined_eq h9 hm hS hi hj]
        obtain ⟨r, hr, h01⟩ := isJoined_tot (uM := uM) (i := i) (j := j) (by omega) (by omega)
        rw [hr]
        refine ⟨r, ?_, ?_, h⟩ <;> rcases h01 with rfl | rfl <;> rfl
    · rw [ge_f (by omega) hb, in_f (by omega) hb]
      exact ⟨_, rfl, rfl, h⟩
  · rw [ge_f (by omega) ha, in_f (by omega) ha]
    exact ⟨_, rfl, rfl, h⟩
