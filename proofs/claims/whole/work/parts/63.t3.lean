theorem setA_self (u : St) (k : Nat) : setA u k (gA u k) = u := by
  obtain ⟨a, b, c, d⟩ := u
  unfold setA gA
  congr 3
  funext j
  unfold va_up
  by_cases h : j = k
  · rw [if_pos h, h]
  · rw [if_neg h]
theorem setB_self (u : St) (k : Nat) : setB u k (gB u k) = u := by
  obtain ⟨a, b, c, d⟩ := u
  unfold setB gB
  congr 3
  funext j
  unfold va_up
  by_cases h : j = k
  · rw [if_pos h, h]
  · rw [if_neg h]
theorem gA_s (u : St) (k : Nat) (g : Nat → Int32) : gA (setA u k g) k = g := if_pos rfl
theorem gB_s (u : St) (k : Nat) (g : Nat → Int64) : gB (setB u k g) k = g := if_pos rfl
def zfill (f : Nat → Int32) (a b : Nat) : Nat → Int32 := fun x => if a ≤ x ∧ x < b then 0 else f x
theorem zfill_0 (f : Nat → Int32) (a : Nat) : zfill f a a = f := by
  funext x
  unfold zfill
  rw [if_neg (by omega)]
theorem zfill_1 (f : Nat → Int32) (a b : Nat) (h : a < b) : zfill (upd f a 0) (a + 1) b = zfill f a b := by
  funext x
  unfold zfill upd
  by_cases h1 : x = a
  · subst h1
    rw [if_neg (by omega), if_pos rfl, if_pos (by omega)]
  · by_cases h2 : a + 1 ≤ x ∧ x < b
    · rw [if_pos h2, if_pos (by omega)]
    · rw [if_neg h2, if_neg h1, if_neg (by omega)]
theorem lay_loop {i n : Nat} (hi : i < 4) (hn : n ≤ 40) : ∀ (m j : Nat) (u : St), j ≤ n → n < m + j → fX7_lay_l17 (nI i) (nI n) m u (nI j) = some (1, setA u 142 (zfill (gA u 142) (40 * i + j) (40 * i + n))) := by
  intro m
  induction m with
  | zero => intro j u h1 h2; omega
  | succ m ih =>
    intro j u h1 h2
    show fX7_lay_l17b (fX7_lay_l17 (nI i) (nI n) m) u (nI i) (nI n) (nI j) = _
    unfold fX7_lay_l17b
    by_cases hj : j = n
    · subst hj
      rw [if_pos (nI_le (Nat.le_refl j) (by omega)), zfill_0, setA_self]
    · rw [if_neg (nI_ge (by omega) (by omega)), show (40 : Int32) = nI 40 from rfl, pk_mul, nI_add, stI_s (by omega) (by decide), nI_1, ih (j + 1) _ (by omega) (by omega), setA_setA, gA_s, show i * 40 + j = 40 * i + j by omega, show 40 * i + (j + 1) = 40 * i + j + 1 by omega, zfill_1 _ _ _ (by omega)]
theorem layM_loop {i n k : Nat} (hi : i < 4) (hn : n ≤ 40) (hk : k < 3) : ∀ (m j : Nat) (u : St), j ≤ n → n < m + j → fX12_sheet_l72 (nI i) (nI k) (nI n) m u (nI j) = some (1, setA u 60 (zfill (gA u 60) (40 * i + j) (40 * i + n))) := by
  intro m
  induction m with
  | zero => intro j u h1 h2; omega
  | succ m ih =>
    intro j u h1 h2
    show fX12_sheet_l72b (fX12_sheet_l72 (nI i) (nI k) (nI n) m) u (nI i) (nI k) (nI n) (nI j) = _
    unfold fX12_sheet_l72b
    by_cases hj : j = n
    · subst hj
      rw [if_pos (nI_le (Nat.le_refl j) (by omega)), zfill_0, setA_self]
    · rw [if_neg (nI_ge (by omega) (by omega)), if_neg (nI_pos (by omega)), show (40 : Int32) = nI 40 from rfl, pk_mul, nI_add, stI_s (by omega) (by decide), nI_1, ih (j + 1) _ (by omega) (by omega), setA_setA, gA_s, show 40 * i + (j + 1) = 40 * i + j + 1 by omega, zfill_1 _ _ _ (by omega)]
theorem sheetC_t {v : Int32} (h : InR v 4) : fX7_isSheet v = some 1 := ge_t (n := 4) (by decide) h
theorem sheetC_f {v : Int32} (h : ¬ InR v 4) : fX7_isSheet v = some 0 := ge_f (n := 4) (by decide) h
theorem sortC_t {v : Int32} (h : InR v 3) : fX7_isSort v = some 1 := ge_t (n := 3) (by decide) h
theorem sortC_f {v : Int32} (h : ¬ InR v 3) : fX7_isSort v = some 0 := ge_f (n := 3) (by decide) h
theorem sheetM_t {v : Int32} (h : InR v 4) : fX12_isSheet v = some 1 := by
  unfold fX12_isSheet
  rw [show (3 : Int32) = nI 4 - 1 by decide, in_t (by decide) h]
  rfl
theorem sheetM_f {v : Int32} (h : ¬ InR v 4) : fX12_isSheet v = some 0 := by
  unfold fX12_isSheet
  rw [show (3 : Int32) = nI 4 - 1 by decide, in_f (by decide) h]
  rfl
theorem i01 : ((0 : Int32) = 1) = False := eq_false (by decide)
theorem nI_nm1 {k : Nat} (h : k < 2 ^ 31) : ¬ nI k = -1 := by
  intro e
  have := congrArg Int32.toInt e
  rw [nI_toInt h] at this
  have e2 : (-1 : Int32).toInt = -1 := rfl
  omega
theorem T_sheet {ts : List Tx} {uC uM : St} (h : Rel ts uC uM) (a0 : Int32) (a1 : Int32) (a2 : Int32) : ∃ (r : Int32) (uC' : St) (uM' : St), fX11_sheet uC a0 a1 a2 = some (r, uC') ∧ fX12_sheet uM a0 a1 a2 = some (r, uM') ∧ Rel ts uC' uM' := by
  obtain ⟨T, h1, h2, h3, h4, h5, h6, h7, h8, h9, h10, h11⟩ := id h
  unfold fX11_sheet fX12_sheet
  by_cases ha : InR a0 4
  · rw [sheetC_t ha, sheetM_t ha]
    obtain ⟨i, hi, rfl⟩ := ha
    simp only [cl1_s, i10, ↓reduceIte]
    by_cases hm1 : a1 = -1
    · subst hm1
      have hb : ∀ (m : Nat) (u : St), fX12_sheet_l72 (nI i) (-1) a2 (m + 1) u 0 = some (1, u) := by
        intro m u
        show fX12_sheet_l72b (fX12_sheet_l72 (nI i) (-1) a2 m) u (nI i) (-1) a2 0 = _
        unfold fX12_sheet_l72b
        by_cases hz : a2 ≤ 0
        · rw [if_pos hz]
        · rw [if_neg hz, if_pos (by decide)]
      rw [if_pos rfl, show fX12_in (-1) (-1) 2 = some 1 by decide]
      unfold fX7_lose fX12_sheet_b29 fX12_sheet_b40 fX12_sheet_b54
      rw [stI_s hi (by decide)]
      simp only [cl1_s, cl2_s, i10, ↓reduceIte, show ((-1 : Int32) < 0) = True from eq_true (by decide)]
      rw [stZ_s hi (by decide), stI_s hi (by decide), stI_s hi (by decide), show NF = 4999 + 1 from rfl, hb]
      refine ⟨1, _, _, rfl, rfl, T, h1, h2, h3, h4, h5, h6, h7, h8, h9, h10, fun j hj => ?_⟩
      show (upd (gA uC 140) i (-1) j = -1 ∧ upd (gA uM 57) i (vp_nar .boolean 0) j = 0) ∨ (upd (gA uM 57) i (vp_nar .boolean 0) j = 1 ∧ upd (gA uC 140) i (-1) j = upd (gA uM 58) i (-1) j ∧ InR (upd (gA uM 58) i (-1) j) 3 ∧ gA uC 141 j = upd (gA uM 59) i a2 j ∧ ∃ n : Nat, n ≤ 40 ∧ upd (gA uM 59) i a2 j = nI n ∧ ∀ x, x < n → gA uC 142 (40 * j + x) = gA uM 60 (40 * j + x))
      by_cases e : j = i
      · subst e
        simp only [upd_s]
        exact Or.inl ⟨trivial, by decide⟩
      · simp only [upd_n _ _ e]
        exact h11 j hj
    · rw [if_neg hm1]
      by_cases hs : InR a1 3
      · rw [sortC_t hs]
        obtain ⟨k, hk, rfl⟩ := hs
        have hin : fX12_in (nI k) (-1) 2 = some 1 := by
          rcases (show k = 0 ∨ k = 1 ∨ k = 2 by omega) with rfl | rfl | rfl <;> decide
        rw [hin]
        simp only [cl1_s, i10, ↓reduceIte, show (nI k < 0) = False from eq_false (nI_pos (by omega))]
        by_cases hg : a2 ≤ 40
        · rw [if_pos hg, if_pos hg]
          unfold fX12_sheet_b29
          simp only [↓reduceIte, show (nI k < 0) = False from eq_false (nI_pos (by omega))]
          by_cases hp : 0 ≤ a2
          · rw [if_pos hp, if_pos hp]
            have hr : InR a2 41 := by
              rw [inR_iff (by decide)]
              refine ⟨fun z => ?_, fun z => ?_⟩
              · rw [Int32.lt_iff_toInt_lt] at z
                rw [Int32.le_iff_toInt_le] at hp
                omega
              · rw [Int32.le_iff_toInt_le] at z hg
                have e1 : (nI 41).toInt = 41 := rfl
                have e2 : (40 : Int32).toInt = 40 := rfl
                omega
            obtain ⟨n, hn, rfl⟩ := hr
            unfold fX7_lay fX12_sheet_b40 fX12_sheet_b54
            simp only [↓reduceIte, show (nI k < 0) = False from eq_false (nI_pos (by omega))]
            rw [stI_s hi (by decide), stI_s hi (by decide), stZ_s hi (by decide), stI_s hi (by decide), stI_s hi (by decide), show (0 : Int32) = nI 0 from rfl, lay_loop hi (by omega) NF 0 _ (by omega) (by unfold NF; omega), layM_loop hi (by omega) hk NF 0 _ (by omega) (by unfold NF; omega)]
            refine ⟨1, _, _, rfl, rfl, T, h1, h2, h3, h4, h5, h6, h7, h8, h9, h10, fun j hj => ?_⟩
            show (upd (gA uC 140) i (nI k) j = -1 ∧ upd (gA uM 57) i (vp_nar .boolean 1) j = 0) ∨ (upd (gA uM 57) i (vp_nar .boolean 1) j = 1 ∧ upd (gA uC 140) i (nI k) j = upd (gA uM 58) i (nI k) j ∧ InR (upd (gA uM 58) i (nI k) j) 3 ∧ upd (gA uC 141) i (nI n) j = upd (gA uM 59) i (nI n) j ∧ ∃ m : Nat, m ≤ 40 ∧ upd (gA uM 59) i (nI n) j = nI m ∧ ∀ x, x < m → zfill (gA uC 142) (40 * i + 0) (40 * i + n) (40 * j + x) = zfill (gA uM 60) (40 * i + 0) (40 * i + n) (40 * j + x))
            by_cases e : j = i
            · subst e
              simp only [upd_s]
              refine Or.inr ⟨by decide, trivial, ⟨k, hk, rfl⟩, trivial, n, by omega, rfl, fun x hx => ?_⟩
              unfold zfill
              rw [if_pos (by omega), if_pos (by omega)]
            · simp only [upd_n _ _ e]
              rcases h11 j hj with q | ⟨q1, q2, q3, q4, m, hm, q5, q6⟩
              · exact Or.inl q
              · refine Or.inr ⟨q1, q2, q3, q4, m, hm, q5, fun x hx => ?_⟩
                unfold zfill
                rw [if_neg (by omega), if_neg (by omega)]
                exact q6 x hx
          · rw [if_neg hp, if_neg hp]
            exact ⟨_, _, _, rfl, rfl, h⟩
        · rw [if_neg hg, if_neg hg]
          exact ⟨_, _, _, rfl, rfl, h⟩
      · rw [sortC_f hs]
        have hin : fX12_in a1 (-1) 2 = some 0 := by
          unfold fX12_in
          by_cases hl : a1 < -1
          · rw [if_pos hl]
          · rw [if_neg hl, if_pos]
            have h0 : ¬ a1 < 0 := by
              intro z
              apply hm1
              apply Int32.toInt_inj.mp
              rw [Int32.lt_iff_toInt_lt] at z hl
              have e1 : (-1 : Int32).toInt = -1 := rfl
              have e2 : (0 : Int32).toInt = 0 := rfl
              omega
            exact ninr_l (n := 2) (by decide) hs h0
        rw [hin]
        exact ⟨_, _, _, rfl, rfl, h⟩
  · rw [sheetC_f ha, sheetM_f ha]
    exact ⟨_, _, _, rfl, rfl, h⟩
theorem T_cell {ts : List Tx} {uC uM : St} (h : Rel ts uC uM) (a0 : Int32) (a1 : Int32) (a2 : Int32) : ∃ (r : Int32) (uC' : St) (uM' : St), fX11_cell uC a0 a1 a2 = some (r, uC') ∧ fX12_cell uM a0 a1 a2 = some (r, uM') ∧ Rel ts uC' uM' := by
  obtain ⟨T, h1, h2, h3, h4, h5, h6, h7, h8, h9, h10, h11⟩ := id h
  unfold fX11_cell fX12_cell
  by_cases ha : InR a0 4
  · rw [sheetC_t ha, sheetM_t ha]
    obtain ⟨i, hi, rfl⟩ := ha
    simp only [cl1_s, i10, ↓reduceIte]
    unfold fX7_isMissing
    rw [ldI_s hi (by decide), ldI_s hi (by decide)]
    rcases h11 i hi with ⟨q1, q2⟩ | ⟨q1, q2, ⟨k, hk, q3⟩, q4, n, hn, q5, q6⟩
    · rw [if_pos q1, if_pos q2]
      exact ⟨_, _, _, rfl, rfl, h⟩
    · rw [q2, q3, if_neg (nI_nm1 (by omega)), q1]
      simp only [cl1_s, i10, ↓reduceIte]
      have hh : fX7_holds uC (nI i) a1 1 = fX12_in a1 0 (nI n - 1) := by
        unfold fX7_holds fX12_in
        rw [ldI_s hi (by decide), q4, q5]
        by_cases z : a1 < 0
        · rw [if_pos z, if_pos z]
        · rw [if_neg z, if_neg z, if_neg (by decide)]
      rw [hh, ldI_s hi (by decide), q5]
      by_cases hb : InR a1 n
      · rw [in_t (by omega) hb]
        obtain ⟨j, hj, rfl⟩ := hb
        simp only [cl1_s, i10, ↓reduceIte]
        unfold fX7_write fX12_cell_b81 fX7_cut
        rw [ldI_s hi (by decide), ldI_s hi (by decide), q2, q3]
        have key : ∀ v : Int32, ∃ (r : Int32) (uC' : St) (uM' : St), (stI uC 142 160 (nI i * 40 + nI j) v fun u3 => some ((1 : Int32), u3)) = some (r, uC') ∧ (stI uM 60 160 (40 * nI i + nI j) v fun u7 => some ((1 : Int32), u7)) = some (r, uM') ∧ Rel ts uC' uM' := by
          intro v
          rw [show (40 : Int32) = nI 40 from rfl, pk_mul, pk_mul, nI_add, nI_add, stI_s (by omega) (by decide), stI_s (by omega) (by decide)]
          refine ⟨1, _, _, rfl, rfl, T, h1, h2, h3, h4, h5, h6, h7, h8, h9, h10, fun x hx => ?_⟩
          show (gA uC 140 x = -1 ∧ gA uM 57 x = 0) ∨ (gA uM 57 x = 1 ∧ gA uC 140 x = gA uM 58 x ∧ InR (gA uM 58 x) 3 ∧ gA uC 141 x = gA uM 59 x ∧ ∃ m : Nat, m ≤ 40 ∧ gA uM 59 x = nI m ∧ ∀ y, y < m → upd (gA uC 142) (i * 40 + j) v (40 * x + y) = upd (gA uM 60) (40 * i + j) v (40 * x + y))
          rcases h11 x hx with q | ⟨p1, p2, p3, p4, m, hm, p5, p6⟩
          · exact Or.inl q
          · refine Or.inr ⟨p1, p2, p3, p4, m, hm, p5, fun y hy => ?_⟩
            rw [Nat.mul_comm i 40]
            by_cases e : 40 * x + y = 40 * i + j
            · rw [e, upd_s, upd_s]
            · rw [upd_n _ _ e, upd_n _ _ e]
              exact p6 y hy
        rcases (show k = 0 ∨ k = 1 ∨ k = 2 by omega) with rfl | rfl | rfl
        · have e0 : (nI 0 : Int32) = 0 := rfl
          rw [if_pos e0, if_pos e0]
          obtain ⟨r, c', m', e1, e2, e3⟩ := key (Int32.toInt8 a2).toInt32
          refine ⟨r, c', m', ?_, e2, e3⟩
          simp only [cl1_s, e1, cl2_s]
        · have e0 : ¬ (nI 1 : Int32) = 0 := by decide
          have e1' : (nI 1 : Int32) = 1 := rfl
          rw [if_neg e0, if_neg e0, if_pos e1', ldI_s hi (by decide), q3, if_pos e1']
          obtain ⟨r, c', m', e1, e2, e3⟩ := key (Int32.toInt16 a2).toInt32
          refine ⟨r, c', m', ?_, e2, e3⟩
          simp only [cl1_s, e1, cl2_s]
        · have e0 : ¬ (nI 2 : Int32) = 0 := by decide
          have e1' : ¬ (nI 2 : Int32) = 1 := by decide
          rw [if_neg e0, if_neg e0, if_neg e1', ldI_s hi (by decide), q3, if_neg e1']
          obtain ⟨r, c', m', e1, e2, e3⟩ := key a2
          refine ⟨r, c', m', ?_, e2, e3⟩
          simp only [cl1_s, e1, cl2_s]
      · rw [in_f (by omega) hb]
        exact ⟨_, _, _, rfl, rfl, h⟩
  · rw [sheetC_f ha, sheetM_f ha]
    exact ⟨_, _, _, rfl, rfl, h⟩
