theorem setZ_self (u : St) (k : Nat) : setZ u k (gZ u k) = u := by
  obtain ⟨a, b⟩ := u
  unfold setZ gZ
  congr 1
  funext j
  unfold upd
  by_cases h : j = k
  · rw [if_pos h, h]
  · rw [if_neg h]
theorem setA_setZ (u : St) (k j : Nat) (v : Int32) (g : Nat → Int32) : setA (setZ u k v) j g = setZ (setA u j g) k v := rfl
theorem gZ_s (u : St) (k : Nat) (v : Int32) : gZ (setZ u k v) k = v := if_pos rfl
theorem perC_t {u : St} {T : Nat} (hT : T < 2 ^ 31) (h : gZ u 220 = nI T) {v : Int32} (hv : InR v T) : fX11_isPeriod u v = some 1 := by
  unfold fX11_isPeriod
  rw [h]
  exact ge_t hT hv
theorem perC_f {u : St} {T : Nat} (hT : T < 2 ^ 31) (h : gZ u 220 = nI T) {v : Int32} (hv : ¬ InR v T) : fX11_isPeriod u v = some 0 := by
  unfold fX11_isPeriod
  rw [h]
  exact ge_f hT hv
theorem perM_t {u : St} {T : Nat} (hT : T < 2 ^ 31) (h : gZ u 1 = nI T) {v : Int32} (hv : InR v T) : fX12_isPeriod u v = some 1 := by
  unfold fX12_isPeriod
  rw [h, in_t hT hv]
  rfl
theorem perM_f {u : St} {T : Nat} (hT : T < 2 ^ 31) (h : gZ u 1 = nI T) {v : Int32} (hv : ¬ InR v T) : fX12_isPeriod u v = some 0 := by
  unfold fX12_isPeriod
  rw [h, in_f hT hv]
  rfl
theorem plaC_t {u : St} {T : Nat} (hT : T < 2 ^ 31) (h : gZ u 220 = nI T) {a v : Int32} (ha : InR a 5) (hv : InR v T) : fX11_isPlace u a v = some 1 := by
  unfold fX11_isPlace
  rw [landC_t ha, perC_t hT h hv]
  rfl
theorem plaM_t {u : St} {T : Nat} (hT : T < 2 ^ 31) (h : gZ u 1 = nI T) {a v : Int32} (ha : InR a 5) (hv : InR v T) : fX12_isPlace u a v = some 1 := by
  unfold fX12_isPlace
  rw [landM_t ha, perM_t hT h hv]
  rfl
theorem plaC_f {u : St} {T : Nat} (hT : T < 2 ^ 31) (h : gZ u 220 = nI T) {a v : Int32} (hv : ¬ (InR a 5 ∧ InR v T)) : fX11_isPlace u a v = some 0 := by
  unfold fX11_isPlace
  by_cases ha : InR a 5
  · rw [landC_t ha, perC_f hT h (fun z => hv ⟨ha, z⟩)]
    rfl
  · rw [landC_f ha]
    rfl
theorem plaM_f {u : St} {T : Nat} (hT : T < 2 ^ 31) (h : gZ u 1 = nI T) {a v : Int32} (hv : ¬ (InR a 5 ∧ InR v T)) : fX12_isPlace u a v = some 0 := by
  unfold fX12_isPlace
  by_cases ha : InR a 5
  · rw [landM_t ha, perM_f hT h (fun z => hv ⟨ha, z⟩)]
    rfl
  · rw [landM_f ha]
    rfl
/-! feed -/
def ftape (f : Nat → Int32) (K : Nat) (g : Nat → Int32) (j : Nat) : Nat → Int32 := fun x => if K ≤ x ∧ x < K + j then g (x - K) else f x
theorem ftape_0 (f : Nat → Int32) (K : Nat) (g : Nat → Int32) : ftape f K g 0 = f := by
  funext x
  unfold ftape
  rw [if_neg (by omega)]
theorem ftape_1 (f : Nat → Int32) (K : Nat) (g : Nat → Int32) (j : Nat) : upd (ftape f K g j) (K + j) (g j) = ftape f K g (j + 1) := by
  funext x
  unfold ftape upd
  by_cases h : x = K + j
  · subst h
    rw [if_pos rfl, if_pos (by omega), show K + j - K = j by omega]
  · rw [if_neg h]
    dsimp only
    by_cases h2 : K ≤ x ∧ x < K + j
    · rw [if_pos h2, if_pos (by omega)]
    · rw [if_neg h2, if_neg (by omega)]
def fdM (w : Int64) (j : Nat) : Int32 := Int64.toInt32 ((w >>> (Int32.toInt64 (8 * nI j) &&& 63)) &&& 255)
def fdC (w : Int64) (j : Nat) : Int32 := vp_nar .byte ((Int32.toInt8 (Int64.toInt32 (w >>> (Int32.toInt64 (8 * nI j) &&& 63)))).toInt32)
theorem by255 (x : Int64) : Int64.toInt32 (x &&& 255) = Int64.toInt32 x &&& 255 := by
  apply Int32.toBitVec_inj.mp
  show ((x.toBitVec &&& 255#64).signExtend 32) = (x.toBitVec.signExtend 32) &&& 255#32
  ext i hi
  simp [BitVec.getElem_signExtend]
theorem fd_r (w : Int64) (j : Nat) : InR (fdM w j) 256 ∧ fdC w j = (fdM w j).toInt8.toInt32 := by
  unfold fdM fdC
  rw [pk_vb, by255]
  generalize Int64.toInt32 (w >>> (Int32.toInt64 (8 * nI j) &&& 63)) = x
  constructor
  · obtain ⟨k, hk, e⟩ := pk_andE x (m := 255) 8 (by decide)
    exact ⟨k, hk, e⟩
  · congr 1
    apply Int8.toBitVec_inj.mp
    show x.toBitVec.signExtend 8 = (x.toBitVec &&& 255#32).signExtend 8
    ext i hi
    simp [BitVec.getElem_signExtend]
    have h8 : ∀ i : Nat, i < 8 → (255#8).getLsbD i = true := by decide
    intro _
    have := h8 i hi
    simpa [BitVec.getLsbD_eq_getElem, hi] using this
theorem take_loop {n K : Nat} (w : Int64) (hK : K + n ≤ 160) (u : St) (hz : gZ u 100 = nI K) : ∀ (m j : Nat), j ≤ n → n < m + j → fX5_take_l3 (nI n) w m (setA u 102 (ftape (gA u 102) K (fdC w) j)) (nI j) = some (nI (K + n), setZ (setA u 102 (ftape (gA u 102) K (fdC w) n)) 100 (nI (K + n))) := by
  intro m
  induction m with
  | zero => intro j h1 h2; omega
  | succ m ih =>
    intro j h1 h2
    show fX5_take_l3b (fX5_take_l3 (nI n) w m) _ (nI n) w (nI j) = _
    unfold fX5_take_l3b
    by_cases hj : j = n
    · subst hj
      rw [if_pos (nI_le (Nat.le_refl j) (by omega)), nmS_s, gZ_setA, hz, nI_add, gZ_s]
    · rw [if_neg (nI_ge (by omega) (by omega)), gZ_setA, hz, nI_add, stB_s (by omega) (by decide), setA_setA, gA_s, nI_1]
      exact (congrArg (fun F => fX5_take_l3 (nI n) w m (setA u 102 F) (nI (j + 1))) (ftape_1 (gA u 102) K (fdC w) j)).trans (ih (j + 1) (by omega) (by omega))
theorem feedM_loop {n K : Nat} (w : Int64) (hK : K + n ≤ 160) (u : St) : ∀ (m j : Nat), j ≤ n → n < m + j → fX12_feed_l31 (nI n) w m (setZ (setA u 24 (ftape (gA u 24) K (fdM w) j)) 25 (nI (K + j))) (nI j) = some (nI (K + n), setZ (setA u 24 (ftape (gA u 24) K (fdM w) n)) 25 (nI (K + n))) := by
  intro m
  induction m with
  | zero => intro j h1 h2; omega
  | succ m ih =>
    intro j h1 h2
    show fX12_feed_l31b (fX12_feed_l31 (nI n) w m) _ (nI n) w (nI j) = _
    unfold fX12_feed_l31b
    by_cases hj : j = n
    · subst hj
      rw [if_pos (nI_le (Nat.le_refl j) (by omega)), gZ_s]
    · rw [if_neg (nI_ge (by omega) (by omega)), gZ_s, stI_s (by omega) (by decide), nmS_s, gZ_setA, gZ_s, setA_setZ, setZ_setZ, gA_setZ, setA_setA, gA_s, nI_1, nI_1]
      exact (congrArg (fun F => fX12_feed_l31 (nI n) w m (setZ (setA u 24 F) 25 (nI (K + j + 1))) (nI (j + 1))) (ftape_1 (gA u 24) K (fdM w) j)).trans (ih (j + 1) (by omega) (by omega))
theorem i32_lt {a b : Int32} : a < b ↔ ¬ b ≤ a := by
  rw [Int32.lt_iff_toInt_lt, Int32.le_iff_toInt_le]
  omega
theorem i32_le {a b : Int32} : a ≤ b ↔ ¬ b < a := by
  rw [Int32.lt_iff_toInt_lt, Int32.le_iff_toInt_le]
  omega
theorem T_feed {ts : List Tx} {uC uM : St} (h : Rel ts uC uM) (a0 : Int32) (a1 : Int64) : ∃ (r : Int32) (uC' : St) (uM' : St), fX11_feed uC a0 a1 = some (r, uC') ∧ fX12_feed uM a0 a1 = some (r, uM') ∧ Rel ts uC' uM' := by
  obtain ⟨T, h1, h2, h3, h4, ⟨K, hK, hc, hm, hk⟩, h6, h7, h8, h9, h10, h11⟩ := id h
  unfold fX11_feed fX12_feed fX12_in
  by_cases q1 : a0 < 1
  · simp only [q1, ↓reduceIte, cl1_s]
    exact ⟨_, _, _, rfl, rfl, h⟩
  · by_cases q2 : a0 ≤ 8
    · have q3 : ¬ (8 : Int32) < a0 := fun z => i32_lt.mp z q2
      simp only [q1, q2, q3, ↓reduceIte, cl1_s, i10]
      have hr : InR a0 9 := by
        rw [inR_iff (by decide)]
        constructor
        · intro z
          apply q1
          rw [Int32.lt_iff_toInt_lt] at z ⊢
          have : (0 : Int32).toInt = 0 := rfl
          have : (1 : Int32).toInt = 1 := rfl
          omega
        · intro z
          rw [Int32.le_iff_toInt_le] at z q2
          have : (nI 9).toInt = 9 := rfl
          have : (8 : Int32).toInt = 8 := rfl
          omega
      obtain ⟨n, hn, rfl⟩ := hr
      rw [hc, hm, show (160 : Int32) = nI 160 from rfl, pk_sub (show K ≤ 160 from hK), nI_add]
      by_cases q4 : K + n ≤ 160
      · rw [if_pos (nI_le (by omega) (by omega)), if_pos (nI_le q4 (by decide))]
        have e1 := take_loop a1 q4 uC hc NF 0 (by omega) (by unfold NF; omega)
        have e2 := feedM_loop a1 q4 uM NF 0 (by omega) (by unfold NF; omega)
        rw [ftape_0, setA_self] at e1
        rw [ftape_0, setA_self, Nat.add_zero, ← hm, setZ_self] at e2
        unfold fX5_take
        rw [show (0 : Int32) = nI 0 from rfl, e1, e2]
        refine ⟨_, _, _, rfl, rfl, T, h1, h2, h3, h4, ⟨K + n, q4, rfl, rfl, fun i hi => ?_⟩, h6, h7, h8, h9, h10, h11⟩
        show InR (ftape (gA uM 24) K (fdM a1) n i) 256 ∧ ftape (gA uC 102) K (fdC a1) n i = (ftape (gA uM 24) K (fdM a1) n i).toInt8.toInt32
        unfold ftape
        by_cases e : K ≤ i ∧ i < K + n
        · rw [if_pos e, if_pos e]
          exact fd_r a1 _
        · rw [if_neg e, if_neg e]
          exact hk i (by omega)
      · rw [if_neg (nI_ge (by omega) (by omega)), if_neg (nI_ge (by omega) (by omega))]
        exact ⟨_, _, _, rfl, rfl, h⟩
    · have q3 : (8 : Int32) < a0 := i32_lt.mpr q2
      simp only [q1, q2, q3, ↓reduceIte, cl1_s]
      exact ⟨_, _, _, rfl, rfl, h⟩
theorem T_law {ts : List Tx} {uC uM : St} (h : Rel ts uC uM) (a0 : Int32) (a1 : Int32) (a2 : Int32) : ∃ (r : Int32) (uC' : St) (uM' : St), fX11_law uC a0 a1 a2 = some (r, uC') ∧ fX12_law uM a0 a1 a2 = some (r, uM') ∧ Rel ts uC' uM' := by
  obtain ⟨T, h1, h2, h3, h4, h5, h6, ⟨Q, hQ, hc, hm, hk⟩, h8, h9, h10, h11⟩ := id h
  obtain ⟨t1, t2, t3, t4, t5, t6, t7, t8⟩ := id h1
  obtain ⟨x1, x2, x3, x4, x5⟩ := id h6
  unfold fX11_law fX12_law
  by_cases hp : InR a0 5 ∧ InR a1 T
  · rw [plaC_t (by omega) t4 hp.1 hp.2, plaM_t (by omega) t3 hp.1 hp.2]
    simp only [cl1_s, i10, ↓reduceIte, x3, x4]
    by_cases ht : InR a2 ts.length
    · rw [in_t (by omega) ht, if_neg (inr_0 (by omega) ht), if_pos (i32_lt.mpr (inr_n (by omega) ht))]
      simp only [cl1_s, i10, ↓reduceIte, hc, hm]
      by_cases h8' : Q = 20
      · subst h8'
        have e8 : nI 20 = 20 := rfl
        rw [if_pos e8, if_pos e8]
        exact ⟨_, _, _, rfl, rfl, h⟩
      · have hlt : Q < 20 := by omega
        have e8 : ¬ nI Q = 20 := nI_ne (b := 20) (by omega) (by decide) h8'
        rw [if_neg e8, if_neg e8]
        unfold fX3_add
        simp only [gZ_setA, hc, hm, stI_s hlt (show 20 < 2 ^ 31 by decide), nmI_s, nmS_s, gZ_s, cl2_s, nI_1, nI_pred]
        refine ⟨nI Q, _, _, rfl, rfl, T, h1, h2, h3, h4, h5, h6, ⟨Q + 1, by omega, rfl, rfl, fun i hi => ?_⟩, h8, h9, h10, h11⟩
        show upd (gA uC 63) Q a0 i = upd (gA uM 39) Q a0 i ∧ upd (gA uC 64) Q a1 i = upd (gA uM 40) Q a1 i ∧ upd (gA uC 65) Q a2 i = upd (gA uM 41) Q a2 i ∧ InR (upd (gA uM 39) Q a0 i) 5 ∧ InR (upd (gA uM 40) Q a1 i) T ∧ InR (upd (gA uM 41) Q a2 i) ts.length
        by_cases e : i = Q
        · subst e
          simp only [upd_s]
          exact ⟨trivial, trivial, trivial, hp.1, hp.2, ht⟩
        · simp only [upd_n _ _ e]
          exact hk i (by omega)
    · rw [in_f (by omega) ht]
      simp only [cl1_s, ↓reduceIte]
      by_cases z : a2 < 0
      · rw [if_pos z]
        exact ⟨_, _, _, rfl, rfl, h⟩
      · rw [if_neg z, if_neg (fun y => i32_lt.mp y (ninr_n (by omega) ht z))]
        exact ⟨_, _, _, rfl, rfl, h⟩
  · rw [plaC_f (by omega) t4 hp, plaM_f (by omega) t3 hp]
    exact ⟨_, _, _, rfl, rfl, h⟩
theorem lw_loop {uC uM : St} {T N Q : Nat} (hT : T ≤ 12) (hQ : Q ≤ 20) (hc : gZ uC 60 = nI Q) (hm : gZ uM 38 = nI Q) (hk : ∀ i, i < Q → gA uC 63 i = gA uM 39 i ∧ gA uC 64 i = gA uM 40 i ∧ gA uC 65 i = gA uM 41 i ∧ InR (gA uM 39 i) 5 ∧ InR (gA uM 40 i) T ∧ InR (gA uM 41 i) N) (hN : 1 ≤ N) (a p : Int32) : ∀ (m i : Nat) (tx pr be : Int32), i ≤ Q → Q < m + i → ((be = -1 ∧ tx = 0 ∧ pr = -1) ∨ (∃ b : Nat, b < Q ∧ be = nI b ∧ tx = gA uM 41 b ∧ pr = gA uM 40 b)) → ∃ r, fX3_textFor_l8 uC a p m tx pr (nI i) = some r ∧ fX12_theLaw_l5 uM a p m be (nI i) = some r ∧ InR r N := by
  intro m
  induction m with
  | zero => intro i tx pr be h1 h2; omega
  | succ m ih =>
    intro i tx pr be h1 h2 hb
    show ∃ r, fX3_textFor_l8b uC (fX3_textFor_l8 uC a p m) a p tx pr (nI i) = some r ∧ fX12_theLaw_l5b uM (fX12_theLaw_l5 uM a p m) a p be (nI i) = some r ∧ _
    unfold fX3_textFor_l8b fX12_theLaw_l5b fX3_textFor_b68 fX12_theLaw_b57 fX12_theLaw_b60
    rw [hc, hm]
    by_cases hi : i = Q
    · subst hi
      rw [if_pos (nI_le (Nat.le_refl i) (by omega)), if_pos (nI_le (Nat.le_refl i) (by omega))]
      rcases hb with ⟨rfl, rfl, rfl⟩ | ⟨b, hb1, rfl, rfl, rfl⟩
      · rw [if_pos rfl]
        exact ⟨0, rfl, rfl, 0, by omega, rfl⟩
      · rw [if_neg (nI_nm1 (by omega)), ldI_s (by omega) (by decide)]
        exact ⟨_, rfl, rfl, (hk b hb1).2.2.2.2.2⟩
    · rw [if_neg (nI_ge (by omega) (by omega)), if_neg (nI_ge (by omega) (by omega))]
      obtain ⟨k1, k2, k3, k4, k5, k6⟩ := hk i (by omega)
      simp only [ldI_s (show i < 20 by omega) (show 20 < 2 ^ 31 by decide), k1, k2, k3, nI_1]
      by_cases e1 : gA uM 39 i = a
      · rw [if_pos e1, if_pos e1]
        by_cases e2 : p < gA uM 40 i
        · rw [if_pos e2, if_pos e2]
          exact ih (i + 1) _ _ _ (by omega) (by omega) hb
        · rw [if_neg e2, if_neg e2]
          rcases hb with ⟨rfl, rfl, rfl⟩ | ⟨b, hb1, rfl, rfl, rfl⟩
          · rw [if_pos rfl, if_neg]
            · exact ih (i + 1) _ _ _ (by omega) (by omega) (Or.inr ⟨i, by omega, rfl, rfl, rfl⟩)
            · intro z
              have := inr_0 (by omega) k5
              apply this
              rw [Int32.lt_iff_toInt_lt] at z ⊢
              have : (-1 : Int32).toInt = -1 := rfl
              have : (0 : Int32).toInt = 0 := rfl
              omega
          · rw [if_neg (nI_nm1 (by omega)), ldI_s (by omega) (by decide)]
            by_cases e3 : gA uM 40 i < gA uM 40 b
            · rw [if_pos e3, if_pos e3]
              exact ih (i + 1) _ _ _ (by omega) (by omega) (Or.inr ⟨b, hb1, rfl, rfl, rfl⟩)
            · rw [if_neg e3, if_neg e3]
              exact ih (i + 1) _ _ _ (by omega) (by omega) (Or.inr ⟨i, by omega, rfl, rfl, rfl⟩)
      · rw [if_neg e1, if_neg e1]
        exact ih (i + 1) _ _ _ (by omega) (by omega) hb
theorem theLaw_eq {ts : List Tx} {uC uM : St} (h : Rel ts uC uM) (a p : Int32) : ∃ r, fX3_textFor uC a p = some r ∧ fX12_theLaw uM a p = some r ∧ InR r ts.length := by
  obtain ⟨T, h1, h2, h3, h4, h5, h6, ⟨Q, hQ, hc, hm, hk⟩, h8, h9, h10, h11⟩ := id h
  obtain ⟨t1, t2, t3⟩ := id h1
  exact lw_loop t2 hQ hc hm hk h6.1 a p NF 0 0 (-1) (-1) (by omega) (by unfold NF; omega) (Or.inl ⟨rfl, rfl, rfl⟩)
theorem T_lawOf {ts : List Tx} {uC uM : St} (h : Rel ts uC uM) (a0 : Int32) (a1 : Int32) : ∃ (r : Int32), fX11_lawOf uC a0 a1 = some r ∧ fX12_lawOf uM a0 a1 = some r ∧ Rel ts uC uM := by
  obtain ⟨T, h1, h2, h3, h4, h5, h6, h7, h8, h9, h10, h11⟩ := id h
  obtain ⟨t1, t2, t3, t4, t5, t6, t7, t8⟩ := id h1
  unfold fX11_lawOf fX12_lawOf
  by_cases hp : InR a0 5 ∧ InR a1 T
  · rw [plaC_t (by omega) t4 hp.1 hp.2, plaM_t (by omega) t3 hp.1 hp.2]
    obtain ⟨r, e1, e2, _⟩ := theLaw_eq h a0 a1
    rw [e1, e2]
    exact ⟨r, rfl, rfl, h⟩
  · rw [plaC_f (by omega) t4 hp, plaM_f (by omega) t3 hp]
    exact ⟨_, rfl, rfl, h⟩
