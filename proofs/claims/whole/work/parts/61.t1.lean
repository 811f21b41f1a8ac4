theorem inr_0 {v : Int32} {n : Nat} (hn : n < 2 ^ 31) (h : InR v n) : ¬ v < 0 := ((inR_iff hn).mp h).1
theorem inr_n {v : Int32} {n : Nat} (hn : n < 2 ^ 31) (h : InR v n) : ¬ nI n ≤ v := ((inR_iff hn).mp h).2
theorem inr_l {v : Int32} {n : Nat} (hn : n + 1 < 2 ^ 31) (h : InR v (n + 1)) : v ≤ nI n := by
  obtain ⟨k, hk, rfl⟩ := h
  exact nI_le (by omega) (by omega)
theorem ninr_n {v : Int32} {n : Nat} (hn : n < 2 ^ 31) (h : ¬ InR v n) (h0 : ¬ v < 0) : nI n ≤ v := by
  rcases pk_ix v hn with h1 | h1 | ⟨j, hj, e⟩
  · exact absurd h1 h0
  · exact h1
  · exact absurd ⟨j, hj, e⟩ h
theorem ninr_l {v : Int32} {n : Nat} (hn : n + 1 < 2 ^ 31) (h : ¬ InR v (n + 1)) (h0 : ¬ v < 0) : nI n < v := by
  obtain ⟨j, hj, rfl⟩ := nI_of h0
  refine nI_lt ?_ hj
  rcases Nat.lt_or_ge n j with q | q
  · exact q
  · exact absurd ⟨j, by omega, rfl⟩ h
theorem le_of_inr {v : Int32} {n : Nat} (hn : n + 1 < 2 ^ 31) (h : InR v (n + 1)) : ¬ nI n < v := by
  obtain ⟨k, hk, rfl⟩ := h
  exact nI_nlt (by omega) (by omega)
theorem nle_of_ninr {v : Int32} {n : Nat} (hn : n + 1 < 2 ^ 31) (h : ¬ InR v (n + 1)) (h0 : ¬ v < 0) : ¬ v ≤ nI n := by
  have := ninr_l hn h h0
  rw [Int32.lt_iff_toInt_lt] at this
  rw [Int32.le_iff_toInt_le]
  omega
theorem in_t {v : Int32} {n : Nat} (hn : n < 2 ^ 31) (h : InR v n) : fX12_in v 0 (nI n - 1) = some 1 := by
  obtain ⟨k, hk, rfl⟩ := h
  have e : nI n - 1 = nI (n - 1) := by
    cases n with
    | zero => omega
    | succ n => exact nI_pred n
  unfold fX12_in
  rw [e, if_neg (nI_pos (by omega)), if_neg (nI_nlt (by omega) (by omega))]
theorem in_f {v : Int32} {n : Nat} (hn : n < 2 ^ 31) (h : ¬ InR v n) : fX12_in v 0 (nI n - 1) = some 0 := by
  unfold fX12_in
  by_cases h0 : v < 0
  · rw [if_pos h0]
  · rw [if_neg h0, if_pos]
    cases n with
    | zero =>
      show nI 0 - 1 < v
      rw [Int32.lt_iff_toInt_lt]
      have : ¬ v.toInt < 0 := fun z => h0 (by rw [Int32.lt_iff_toInt_lt]; exact z)
      show (-1 : Int) < v.toInt
      omega
    | succ n =>
      rw [nI_pred]
      exact ninr_l hn h h0
theorem ge_t {v : Int32} {n : Nat} (hn : n < 2 ^ 31) (h : InR v n) : (if v < 0 then some (0 : Int32) else (if nI n ≤ v then some 0 else (some 1))) = some 1 := by
  rw [if_neg (inr_0 hn h), if_neg (inr_n hn h)]
theorem ge_f {v : Int32} {n : Nat} (hn : n < 2 ^ 31) (h : ¬ InR v n) : (if v < 0 then some (0 : Int32) else (if nI n ≤ v then some 0 else (some 1))) = some 0 := by
  by_cases h0 : v < 0
  · rw [if_pos h0]
  · rw [if_neg h0, if_pos (ninr_n hn h h0)]
theorem landC_t {v : Int32} (h : InR v 5) : fX11_isLand v = some 1 := ge_t (n := 5) (by decide) h
theorem landC_f {v : Int32} (h : ¬ InR v 5) : fX11_isLand v = some 0 := ge_f (n := 5) (by decide) h
theorem landM_t {v : Int32} (h : InR v 5) : fX12_isLand v = some 1 := by
  unfold fX12_isLand
  rw [show (4 : Int32) = nI 5 - 1 by decide, in_t (by decide) h]
  rfl
theorem landM_f {v : Int32} (h : ¬ InR v 5) : fX12_isLand v = some 0 := by
  unfold fX12_isLand
  rw [show (4 : Int32) = nI 5 - 1 by decide, in_f (by decide) h]
  rfl
theorem T_soil {ts : List Tx} {uC uM : St} (h : Rel ts uC uM) (a0 : Int32) : ∃ (r : Int32) (uC' : St) (uM' : St), fX11_soil uC a0 = some (r, uC') ∧ fX12_soil uM a0 = some (r, uM') ∧ Rel ts uC' uM' := by
  by_cases hr : InR a0 32
  · obtain ⟨T, h1, h2, h3, h4, h5, h6, h7, h8, h9, h10, h11⟩ := h
    refine ⟨gZ uM 2, setZ uC 20 a0, setZ uM 2 a0, ?_, ?_, T, h1, h2, ⟨rfl, hr, h3.2.2⟩, h4, h5, h6, h7, h8, h9, h10, h11⟩
    · unfold fX11_soil
      rw [if_neg (inr_0 (by decide) hr), show (31 : Int32) = nI 31 from rfl, if_pos (inr_l (by decide) hr), nmI_s, nmS_s, h3.1]
    · unfold fX12_soil
      rw [show (31 : Int32) = nI 32 - 1 by decide, in_t (by decide) hr]
      rfl
  · refine ⟨-2, uC, uM, ?_, ?_, h⟩
    · unfold fX11_soil
      by_cases h0 : a0 < 0
      · rw [if_pos h0]
      · rw [if_neg h0, show (31 : Int32) = nI 31 from rfl, if_neg (nle_of_ninr (by decide) hr h0)]
    · unfold fX12_soil
      rw [show (31 : Int32) = nI 32 - 1 by decide, in_f (by decide) hr]
      rfl
theorem T_judged {ts : List Tx} {uC uM : St} (h : Rel ts uC uM) (a0 : Int32) (a1 : Int32) : ∃ (r : Int64), fX11_judged uC a0 a1 = some r ∧ fX12_judged uM a0 a1 = some r ∧ Rel ts uC uM := by
  obtain ⟨T, h1, h2, h3, h4, h5, h6, h7, ⟨J, hJ, hc, hm, hk⟩, h9, h10, h11⟩ := id h
  unfold fX11_judged fX12_judged fX0_has fX0_keptFor
  rw [hc, hm]
  by_cases ha : InR a0 J
  · rw [ge_t (by omega) ha, in_t (by omega) ha]
    by_cases hb : InR a1 5
    · rw [landC_t hb, landM_t hb]
      obtain ⟨j, hj, rfl⟩ := ha
      obtain ⟨l, hl, rfl⟩ := hb
      simp only [cl1_s]
      rw [show (5 : Int32) = nI 5 from rfl, pk_mul, nI_add, pk_mul, nI_add, ldL_s (by omega) (by decide), ldL_s (by omega) (by decide)]
      refine ⟨gB uM 46 (5 * j + l), ?_, rfl, h⟩
      rw [if_neg (by decide), if_neg (by decide), Nat.mul_comm j 5, hk _ (by omega)]
      rfl
    · rw [landC_f hb, landM_f hb]
      exact ⟨_, rfl, rfl, h⟩
  · rw [ge_f (by omega) ha, in_f (by omega) ha]
    exact ⟨_, rfl, rfl, h⟩
theorem T_set {ts : List Tx} {uC uM : St} (h : Rel ts uC uM) (a0 : Int32) (a1 : Int32) : ∃ (r : Int32) (uC' : St) (uM' : St), fX11_set uC a0 a1 = some (r, uC') ∧ fX12_set uM a0 a1 = some (r, uM') ∧ Rel ts uC' uM' := by
  unfold fX11_set fX12_set
  by_cases h0 : a0 = 0
  · subst h0
    rw [if_pos rfl, if_pos rfl]
    by_cases hr : InR a1 5
    · obtain ⟨T, h1, h2, h3, h4, h5, h6, h7, h8, h9, h10, h11⟩ := h
      rw [if_neg (inr_0 (by decide) hr), show (4 : Int32) = nI 4 from rfl, if_pos (inr_l (by decide) hr), show nI 4 = nI 5 - 1 by decide, in_t (by decide) hr]
      refine ⟨gZ uM 50, setZ uC 161 a1, setZ uM 50 a1, ?_, ?_, T, h1, h2, h3, h4, h5, h6, h7, h8, ⟨rfl, hr, h9.2.2⟩, h10, h11⟩
      · rw [nmI_s, nmS_s, h9.1]
      · rfl
    · rw [show (4 : Int32) = nI 5 - 1 by decide, in_f (by decide) hr]
      refine ⟨-2, uC, uM, ?_, rfl, h⟩
      by_cases hn : a1 < 0
      · rw [if_pos hn]
      · rw [if_neg hn, show nI 5 - 1 = nI 4 by decide, if_neg (nle_of_ninr (by decide) hr hn)]
  · rw [if_neg h0, if_neg h0]
    by_cases h01 : a0 = 1
    · subst h01
      rw [if_pos rfl, if_pos rfl]
      unfold fX12_in
      by_cases hl : a1 < 1
      · rw [if_pos hl, if_pos hl]
        exact ⟨_, _, _, rfl, rfl, h⟩
      · rw [if_neg hl, if_neg hl]
        by_cases hg : a1 ≤ 10
        · have hg2 : ¬ (10 : Int32) < a1 := by
            rw [Int32.lt_iff_toInt_lt]
            rw [Int32.le_iff_toInt_le] at hg
            omega
          obtain ⟨T, h1, h2, h3, h4, h5, h6, h7, h8, h9, h10, h11⟩ := h
          rw [if_pos hg, if_neg hg2]
          have hr : InR a1 11 := by
            rw [inR_iff (by decide)]
            constructor
            · intro z
              apply hl
              rw [Int32.lt_iff_toInt_lt] at z ⊢
              have : (0 : Int32).toInt = 0 := rfl
              have : (1 : Int32).toInt = 1 := rfl
              omega
            · intro z
              apply hg2
              rw [Int32.le_iff_toInt_le] at z
              rw [Int32.lt_iff_toInt_lt]
              have : (nI 11).toInt = 11 := rfl
              have : (10 : Int32).toInt = 10 := rfl
              omega
          refine ⟨gZ uM 51, setZ uC 121 a1, setZ uM 51 a1, ?_, ?_, T, h1, h2, h3, h4, h5, h6, h7, h8, h9, ⟨rfl, hr, h10.2.2⟩, h11⟩
          · rw [nmI_s, nmS_s, h10.1]
          · rfl
        · have hg2 : (10 : Int32) < a1 := by
            rw [Int32.lt_iff_toInt_lt]
            rw [Int32.le_iff_toInt_le] at hg
            omega
          rw [if_neg hg, if_pos hg2]
          exact ⟨_, _, _, rfl, rfl, h⟩
    · rw [if_neg h01, if_neg h01]
      exact ⟨_, _, _, rfl, rfl, h⟩
