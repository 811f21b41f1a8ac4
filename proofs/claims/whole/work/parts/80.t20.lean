theorem l64_lt {a b : Int64} : a < b ↔ ¬ b ≤ a := by
  rw [Int64.lt_iff_toInt_lt, Int64.le_iff_toInt_le]
  omega
theorem gr_max (a b : Int64) : fX12_greater a b = some (jmaxL a b) := by
  unfold fX12_greater jmaxL
  by_cases h : b < a
  · rw [if_pos h, if_neg (l64_lt.mp h)]
  · rw [if_neg h]
    by_cases h2 : a ≤ b
    · rw [if_pos h2]
    · exact absurd (l64_lt.mpr h2) h
theorem T_worst {ts : List Tx} {uC uM : St} (h : Rel ts uC uM) (a0 : Int32) (a1 : Int32) : ∃ (r : Int64) (uC' : St) (uM' : St), fX11_worst uC a0 a1 = some (r, uC') ∧ fX12_worst uM a0 a1 = some (r, uM') ∧ Rel ts uC' uM' := by
  obtain ⟨T, al, so, go, uC', uM', t1, t2, t3, t4, t5, t6, e1, e2, hR, kC, kM, hV, hVM, hC, hM, e3⟩ := cnt_both h
  unfold fX11_worst fX12_worst
  by_cases hp : InR a0 5 ∧ InR a1 T
  · rw [plaC_t (by omega) t4 hp.1 hp.2, plaM_t (by omega) t3 hp.1 hp.2]
    obtain ⟨⟨l, hl, rfl⟩, ⟨p, hp, rfl⟩⟩ := hp
    simp only [cl1_s, i10, ↓reduceIte, e1, e2, place_n, cl2_s, thr_eq hC hM t1 t2 hp hl, fX2_worstOf, through_ok hC t2 hp hl, e3, gr_max]
    exact ⟨_, _, _, rfl, rfl, hR⟩
  · rw [plaC_f (by omega) t4 hp, plaM_f (by omega) t3 hp]
    exact ⟨_, _, _, rfl, rfl, h⟩
/-- the first that is least -/
def bfN (W : Nat → Int64) (a : Int64) : Nat → Int64 × Int32
  | 0 => (a, -1)
  | x + 1 => if W x < (bfN W a x).1 then (W x, nI x) else bfN W a x
def tlN (v : Int32) : Int32 := if v = -1 then -1 else 10 * (v / 5) + (v - v / 5 * 5)
theorem tl_n {x : Nat} (h : x < 2 ^ 31) : tlN (nI x) = 10 * (nI x / 5) + (nI x - nI x / 5 * 5) := if_neg (nI_nm1 h)
theorem told_n (v : Int32) : fX2_told v = some (tlN v) := by
  unfold fX2_told tlN
  by_cases h : v = -1
  · rw [if_pos h, if_pos h]
  · rw [if_neg h, if_neg h]
def thX (al : Nat → Nat → Bool) (so : Nat → Bool) (go : Nat → Nat → Nat → Bool) (T x : Nat) : Int64 := lN (fwN (alS al so) go (x / 5) (x % 5) * bwN al go T (x / 5) (x % 5))
theorem thX_C {u : St} {T : Nat} {al : Nat → Nat → Bool} {so : Nat → Bool} {go : Nat → Nat → Nat → Bool} (hC : CC u T al so go) (hT : T ≤ 12) {x : Nat} (hx : x < 5 * T) : fX1_through u (nI x) = some (thX al so go T x) := by
  have := through_ok hC hT (show x / 5 < T by omega) (show x % 5 < 5 by omega)
  rw [show 5 * (x / 5) + x % 5 = x by omega] at this
  exact this
theorem thX_M {u v : St} {T : Nat} {al : Nat → Nat → Bool} {so : Nat → Bool} {go : Nat → Nat → Nat → Bool} (hC : CC u T al so go) (hM : CM v T (alS al so) go) (h2 : 2 ≤ T) (hT : T ≤ 12) {x : Nat} (hx : x < 5 * T) : fX12_through v (nI x - nI x / 5 * 5) (nI x / 5) = some (thX al so go T x) := by
  rw [show (5 : Int32) = nI 5 from rfl, pk_rem (by omega) (by decide) (by decide), pk_div (by omega) (by decide) (by decide), thr_eq hC hM h2 hT (by omega) (by omega)]
  rfl
theorem T_question {ts : List Tx} {uC uM : St} (h : Rel ts uC uM) : ∃ (r : Int32) (uC' : St) (uM' : St), fX11_question uC = some (r, uC') ∧ fX12_question uM = some (r, uM') ∧ Rel ts uC' uM' := by
  obtain ⟨T, al, so, go, uC', uM', t1, t2, t3, t4, t5, t6, e1, e2, hR, kC, kM, hV, hVM, hC, hM, e3⟩ := cnt_both h
  have z40 : gZ uC' 40 = nI T := (kC.1 40 (by decide)).trans t6
  have z1 : gZ uM' 1 = nI T := (kM.1 1 (by decide)).trans t3
  generalize lN (tot al so go T) = a at e2 e3
  obtain ⟨s, hs, f1⟩ := up (fun m (s : Int64 × Int32) i => fX2_best_l16 uC' a m s.1 s.2 i) (fun x s => s = bfN (fun x => jmaxL (thX al so go T x) (a - thX al so go T x)) a x) (5 * T) (fun s => some (tlN s.2)) (by
    intro m s hI
    show fX2_best_l16b uC' (fX2_best_l16 uC' a m) a s.1 s.2 (nI (5 * T)) = _
    unfold fX2_best_l16b
    rw [z40, show (5 : Int32) = nI 5 from rfl, pk_mul, Nat.mul_comm T 5, if_pos (nI_le (Nat.le_refl _) (by omega)), told_n, cl1_s]) (by
    intro m x s hx hI
    refine ⟨_, rfl, ?_⟩
    show fX2_best_l16b uC' (fX2_best_l16 uC' a m) a s.1 s.2 (nI x) = _
    unfold fX2_best_l16b fX2_best_b63
    rw [z40, show (5 : Int32) = nI 5 from rfl, pk_mul, Nat.mul_comm T 5, if_neg (nI_ge hx (by omega)), thX_C hC t2 hx, cl1_s, nmL_s, nI_1]
    subst hI
    generalize hW : (fun x => jmaxL (thX al so go T x) (a - thX al so go T x)) = W
    have hWx : jmaxL (thX al so go T x) (a - thX al so go T x) = W x := by rw [← hW]
    rw [hWx]
    show _ = fX2_best_l16 uC' a m (if W x < (bfN W a x).1 then (W x, nI x) else bfN W a x).1 (if W x < (bfN W a x).1 then (W x, nI x) else bfN W a x).2 (nI (x + 1))
    by_cases z : W x < (bfN W a x).1
    · rw [if_pos z, if_neg (l64_lt.mp z)]
    · rw [if_neg z]
      by_cases z2 : (bfN W a x).1 ≤ W x
      · rw [if_pos z2]
      · exact absurd (l64_lt.mpr z2) z) NF 0 (a, -1) (by omega) (by unfold NF; omega) rfl
  obtain ⟨s', hs', f2⟩ := up (fun m (s : Int64 × Int32) i => fX12_question_l13 uM' a m s.1 s.2 i) (fun x s => s.1 = (bfN (fun x => jmaxL (thX al so go T x) (a - thX al so go T x)) a x).1 ∧ s.2 = tlN (bfN (fun x => jmaxL (thX al so go T x) (a - thX al so go T x)) a x).2) (5 * T) (fun s => some (s.2, uM')) (by
    intro m s hI
    show fX12_question_l13b (fX12_question_l13 uM' a m) uM' s.1 a s.2 (nI (5 * T)) = _
    unfold fX12_question_l13b
    rw [z1, show (5 : Int32) = nI 5 from rfl, pk_mul, if_pos (nI_le (Nat.le_refl _) (by omega))]) (by
    intro m x s hx hI
    show ∃ s' : Int64 × Int32, _ ∧ fX12_question_l13b (fX12_question_l13 uM' a m) uM' s.1 a s.2 (nI x) = fX12_question_l13 uM' a m s'.1 s'.2 (nI (x + 1))
    unfold fX12_question_l13b fX12_question_b79
    rw [z1, thX_M hC hM t1 t2 hx, show (5 : Int32) * nI T = nI (5 * T) from pk_mul 5 T, if_neg (nI_ge hx (by omega)), cl1_s, gr_max, cl1_s, cl1_s, nmI_s, nI_1]
    obtain ⟨i1, i2⟩ := hI
    generalize hW : (fun x => jmaxL (thX al so go T x) (a - thX al so go T x)) = W at i1 i2
    have hWx : jmaxL (thX al so go T x) (a - thX al so go T x) = W x := by rw [← hW]
    rw [hWx, i1, i2]
    have e : bfN W a (x + 1) = if W x < (bfN W a x).1 then (W x, nI x) else bfN W a x := rfl
    by_cases z : W x < (bfN W a x).1
    · rw [if_pos z]
      rw [if_pos z] at e
      refine ⟨(W x, _), ?_, rfl⟩
      rw [e]
      exact ⟨rfl, (tl_n (by omega)).symm⟩
    · rw [if_neg z]
      rw [if_neg z] at e
      refine ⟨((bfN W a x).1, tlN (bfN W a x).2), ?_, rfl⟩
      rw [e]
      exact ⟨rfl, rfl⟩) NF 0 (a, -1) (by omega) (by unfold NF; omega) ⟨rfl, rfl⟩
  refine ⟨tlN s.2, uC', uM', ?_, ?_, hR⟩
  · unfold fX11_question fX2_best
    rw [e1, cl1_s, e3, cl1_s]
    have f1' : fX2_best_l16 uC' a NF a (-1) 0 = some (tlN s.2) := f1
    rw [f1', cl1_s]
  · unfold fX12_question
    rw [e2, cl2_s]
    have f2' : fX12_question_l13 uM' a NF a (-1) 0 = some (s'.2, uM') := f2
    rw [f2', hs'.2, hs]
/-! two questions -/
def fdN (b : Int64) (f : Nat → Int64) : Nat → Int64
  | 0 => b
  | i + 1 => jminL (fdN b f i) (f i)
def pX (al : Nat → Nat → Bool) (so : Nat → Bool) (go : Nat → Nat → Nat → Bool) (T x y : Nat) : Int64 := lN (prX al so go T x y)
def yesN (al : Nat → Nat → Bool) (so : Nat → Bool) (go : Nat → Nat → Nat → Bool) (T x : Nat) : Nat → Int64 := fdN (thX al so go T x) (fun y => jmaxL (pX al so go T x y) (thX al so go T x - pX al so go T x y))
def noN (al : Nat → Nat → Bool) (so : Nat → Bool) (go : Nat → Nat → Nat → Bool) (T x : Nat) (a : Int64) : Nat → Int64 := fdN (a - thX al so go T x) (fun y => jmaxL (thX al so go T y - pX al so go T x y) (a - thX al so go T x - (thX al so go T y - pX al so go T x y)))
def w2N (al : Nat → Nat → Bool) (so : Nat → Bool) (go : Nat → Nat → Nat → Bool) (T : Nat) (a : Int64) (x : Nat) : Int64 := jmaxL (yesN al so go T x (5 * T)) (noN al so go T x a (5 * T))
theorem w2C {u : St} {T : Nat} {al : Nat → Nat → Bool} {so : Nat → Bool} {go : Nat → Nat → Nat → Bool} (hV : VC u T al so go) (hC : CC u T al so go) (h2 : 2 ≤ T) (hT : T ≤ 12) (h40 : gZ u 40 = nI T) {p l : Nat} (hp : p < T) (hl : l < 5) : ∃ w : Nat → Int64, fX2_worstWithNext u (nI l) (nI p) = some (w2N al so go T (lN (tot al so go T)) (5 * p + l), setB u 23 w) := by
  obtain ⟨w, e4, hw⟩ := countWith_ok hV hC hT hp hl
  refine ⟨w, ?_⟩
  have hC2 : CC (setB u 23 w) T al so go := hC
  have htt : thX al so go T (5 * p + l) = lN (fwN (alS al so) go p l * bwN al go T p l) := by
    unfold thX
    rw [show (5 * p + l) / 5 = p by omega, show (5 * p + l) % 5 = l by omega]
  unfold fX2_worstWithNext
  rw [e4, cl1_s, place_n, cl1_s, through_ok hC2 hT hp hl, cl1_s, total_ok hC2 h2 hT, cl1_s, nmL_s, ← htt]
  generalize lN (tot al so go T) = a
  obtain ⟨s, hs, f1⟩ := up (fun m (s : Int64 × Int64) i => fX2_worstWithNext_l43 (setB u 23 w) (thX al so go T (5 * p + l)) (a - thX al so go T (5 * p + l)) m s.1 s.2 i) (fun x s => s.1 = yesN al so go T (5 * p + l) x ∧ s.2 = noN al so go T (5 * p + l) a x) (5 * T) (fun s => some (jmaxL s.1 s.2, setB u 23 w)) (by
    intro m s hI
    show fX2_worstWithNext_l43b (fX2_worstWithNext_l43 (setB u 23 w) (thX al so go T (5 * p + l)) (a - thX al so go T (5 * p + l)) m) (setB u 23 w) (thX al so go T (5 * p + l)) (a - thX al so go T (5 * p + l)) s.1 s.2 (nI (5 * T)) = _
    unfold fX2_worstWithNext_l43b
    rw [gZ_setB, h40, show (5 : Int32) = nI 5 from rfl, pk_mul, Nat.mul_comm T 5, if_pos (nI_le (Nat.le_refl _) (by omega))]) (by
    intro m x s hx hI
    show ∃ s' : Int64 × Int64, _ ∧ fX2_worstWithNext_l43b (fX2_worstWithNext_l43 (setB u 23 w) (thX al so go T (5 * p + l)) (a - thX al so go T (5 * p + l)) m) (setB u 23 w) (thX al so go T (5 * p + l)) (a - thX al so go T (5 * p + l)) s.1 s.2 (nI x) = fX2_worstWithNext_l43 (setB u 23 w) (thX al so go T (5 * p + l)) (a - thX al so go T (5 * p + l)) m s'.1 s'.2 (nI (x + 1))
    unfold fX2_worstWithNext_l43b
    have hwx := hw (x / 5) (x % 5) (by omega) (by omega)
    rw [show 5 * (x / 5) + x % 5 = x by omega] at hwx
    have hpx : lN (prN al so go T p l (x / 5) (x % 5)) = pX al so go T (5 * p + l) x := by
      unfold pX prX
      rw [show (5 * p + l) / 5 = p by omega, show (5 * p + l) % 5 = l by omega]
    rw [gZ_setB, h40, show (5 : Int32) = nI 5 from rfl, pk_mul, Nat.mul_comm T 5, if_neg (nI_ge hx (by omega)), ldL_s (by omega) (by decide), gB_s, hwx, hpx, thX_C hC2 hT hx, cl1_s, nmL_s, nmL_s, nmL_s, nI_1]
    refine ⟨(_, _), ⟨?_, ?_⟩, rfl⟩
    · rw [hI.1]; rfl
    · rw [hI.2]; rfl) NF 0 (thX al so go T (5 * p + l), a - thX al so go T (5 * p + l)) (by omega) (by unfold NF; omega) ⟨rfl, rfl⟩
  have f1' : fX2_worstWithNext_l43 (setB u 23 w) (thX al so go T (5 * p + l)) (a - thX al so go T (5 * p + l)) NF (thX al so go T (5 * p + l)) (a - thX al so go T (5 * p + l)) 0 = some (jmaxL s.1 s.2, setB u 23 w) := f1
  rw [f1', hs.1, hs.2]
  rfl
theorem w2M {u : St} {T : Nat} {al : Nat → Nat → Bool} {so : Nat → Bool} {go : Nat → Nat → Nat → Bool} (h1 : gZ u 1 = nI T) (hP : ∀ x y, x < 5 * T → y < 5 * T → gB u 20 (60 * x + y) = lN (prX al so go T x y)) (hT : T ≤ 12) {x : Nat} (hx : x < 5 * T) (a : Int64) : fX12_ofTwo u (nI x) a = some (w2N al so go T a x) := by
  have hself : ∀ y, lN (prX al so go T y y) = thX al so go T y := fun y => by
    unfold prX thX
    rw [prN_self]
  have hid : ∀ x, 60 * x + x < 3600 ↔ 60 * x + x < 3600 := fun _ => Iff.rfl
  have l1 : fX12_leastAmong u (nI x) 1 a = some (yesN al so go T x (5 * T)) := by
    unfold fX12_leastAmong fX12_leastAmong_b26
    rw [show (60 : Int32) = nI 60 from rfl, pk_mul, nI_add, ldL_s (by omega) (by decide), hP x x hx hx, hself, if_neg (by decide)]
    obtain ⟨r, hr, e⟩ := up (fX12_leastAmong_l35 u (nI x) 1 (thX al so go T x)) (fun i acc => acc = yesN al so go T x i) (5 * T) (fun acc => some acc) (by
      intro m acc hI
      show fX12_leastAmong_l35b u (fX12_leastAmong_l35 u (nI x) 1 (thX al so go T x) m) (nI x) 1 (thX al so go T x) acc (nI (5 * T)) = _
      unfold fX12_leastAmong_l35b
      rw [h1, show (5 : Int32) = nI 5 from rfl, pk_mul, if_pos (nI_le (Nat.le_refl _) (by omega))]) (by
      intro m y acc hy hI
      refine ⟨_, rfl, ?_⟩
      subst hI
      show fX12_leastAmong_l35b u (fX12_leastAmong_l35 u (nI x) 1 (thX al so go T x) m) (nI x) 1 (thX al so go T x) _ (nI y) = _
      unfold fX12_leastAmong_l35b fX12_leastAmong_b91 fX12_leastAmong_b120
      rw [h1, show (5 : Int32) = nI 5 from rfl, pk_mul 5 T, if_neg (nI_ge hy (by omega)), if_neg (by decide), show (60 : Int32) = nI 60 from rfl, pk_mul, nI_add, ldL_s (by omega) (by decide), hP x y hx hy, gr_max, cl1_s, nI_1]
      show _ = fX12_leastAmong_l35 u (nI x) 1 (thX al so go T x) m (jminL (yesN al so go T x y) (jmaxL (pX al so go T x y) (thX al so go T x - pX al so go T x y))) (nI (y + 1))
      show (if _ ≤ jmaxL (pX al so go T x y) (thX al so go T x - pX al so go T x y) then _ else fX12_leastAmong_l35 u (nI x) 1 (thX al so go T x) m (jmaxL (pX al so go T x y) (thX al so go T x - pX al so go T x y)) (nI (y + 1))) = _
      unfold jminL
      by_cases z : jmaxL (pX al so go T x y) (thX al so go T x - pX al so go T x y) < yesN al so go T x y
      · rw [if_pos z, if_neg (l64_lt.mp z)]
      · rw [if_neg z]
        by_cases z2 : yesN al so go T x y ≤ jmaxL (pX al so go T x y) (thX al so go T x - pX al so go T x y)
        · rw [if_pos z2]
        · exact absurd (l64_lt.mpr z2) z) NF 0 (thX al so go T x) (by omega) (by unfold NF; omega) rfl
    subst hr
    exact e
  have l0 : fX12_leastAmong u (nI x) 0 a = some (noN al so go T x a (5 * T)) := by
    unfold fX12_leastAmong fX12_leastAmong_b26
    rw [show (60 : Int32) = nI 60 from rfl, pk_mul, nI_add, ldL_s (by omega) (by decide), hP x x hx hx, hself, if_pos (by decide)]
    obtain ⟨r, hr, e⟩ := up (fX12_leastAmong_l35 u (nI x) 0 (a - thX al so go T x)) (fun i acc => acc = noN al so go T x a i) (5 * T) (fun acc => some acc) (by
      intro m acc hI
      show fX12_leastAmong_l35b u (fX12_leastAmong_l35 u (nI x) 0 (a - thX al so go T x) m) (nI x) 0 (a - thX al so go T x) acc (nI (5 * T)) = _
      unfold fX12_leastAmong_l35b
      rw [h1, show (5 : Int32) = nI 5 from rfl, pk_mul, if_pos (nI_le (Nat.le_refl _) (by omega))]) (by
      intro m y acc hy hI
      refine ⟨_, rfl, ?_⟩
      subst hI
      show fX12_leastAmong_l35b u (fX12_leastAmong_l35 u (nI x) 0 (a - thX al so go T x) m) (nI x) 0 (a - thX al so go T x) _ (nI y) = _
      unfold fX12_leastAmong_l35b fX12_leastAmong_b91 fX12_leastAmong_b120
      rw [h1, show (5 : Int32) = nI 5 from rfl, pk_mul 5 T, if_neg (nI_ge hy (by omega)), if_pos rfl, show (60 : Int32) = nI 60 from rfl, pk_mul, pk_mul, nI_add, nI_add, ldL_s (by omega) (by decide), ldL_s (by omega) (by decide), hP x y hx hy, hP y y hy hy, hself, gr_max, cl1_s, nI_1]
      show _ = fX12_leastAmong_l35 u (nI x) 0 (a - thX al so go T x) m (jminL (noN al so go T x a y) (jmaxL (thX al so go T y - pX al so go T x y) (a - thX al so go T x - (thX al so go T y - pX al so go T x y)))) (nI (y + 1))
      show (if _ ≤ jmaxL (thX al so go T y - pX al so go T x y) (a - thX al so go T x - (thX al so go T y - pX al so go T x y)) then _ else fX12_leastAmong_l35 u (nI x) 0 (a - thX al so go T x) m (jmaxL (thX al so go T y - pX al so go T x y) (a - thX al so go T x - (thX al so go T y - pX al so go T x y))) (nI (y + 1))) = _
      unfold jminL
      generalize jmaxL (thX al so go T y - pX al so go T x y) (a - thX al so go T x - (thX al so go T y - pX al so go T x y)) = g
      by_cases z : g < noN al so go T x a y
      · rw [if_pos z, if_neg (l64_lt.mp z)]
      · rw [if_neg z]
        by_cases z2 : noN al so go T x a y ≤ g
        · rw [if_pos z2]
        · exact absurd (l64_lt.mpr z2) z) NF 0 (a - thX al so go T x) (by omega) (by unfold NF; omega) rfl
    subst hr
    exact e
  unfold fX12_ofTwo
  rw [l1, cl1_s, l0, cl1_s, gr_max, cl1_s]
  rfl
theorem T_worstOfTwo {ts : List Tx} {uC uM : St} (h : Rel ts uC uM) (a0 : Int32) (a1 : Int32) : ∃ (r : Int64) (uC' : St) (uM' : St), fX11_worstOfTwo uC a0 a1 = some (r, uC') ∧ fX12_worstOfTwo uM a0 a1 = some (r, uM') ∧ Rel ts uC' uM' := by
  obtain ⟨T, al, so, go, uC', uM', t1, t2, t3, t4, t5, t6, e1, e2, hR, kC, kM, hV, hVM, hC, hM, e3⟩ := cnt_both h
  have z40 : gZ uC' 40 = nI T := (kC.1 40 (by decide)).trans t6
  have z1 : gZ uM' 1 = nI T := (kM.1 1 (by decide)).trans t3
  unfold fX11_worstOfTwo fX12_worstOfTwo
  by_cases hp : InR a0 5 ∧ InR a1 T
  · rw [plaC_t (by omega) t4 hp.1 hp.2, plaM_t (by omega) t3 hp.1 hp.2]
    obtain ⟨⟨l, hl, rfl⟩, ⟨p, hp, rfl⟩⟩ := hp
    obtain ⟨w, e4⟩ := w2C hV hC t1 t2 z40 hp hl
    obtain ⟨s, P, e5, hP⟩ := pairUp_ok z1 hM t1 t2
    have e6 := w2M (u := setB (setB uM' 19 s) 20 P) (T := T) (al := al) (so := so) (go := go) z1 hP t2 (show 5 * p + l < 5 * T by omega) (lN (tot al so go T))
    simp only [cl1_s, i10, ↓reduceIte, e1, e2, cl2_s, e4, e5]
    rw [show (5 : Int32) = nI 5 from rfl, pk_mul, nI_add, e6, cl1_s]
    exact ⟨_, _, _, rfl, rfl, Rel_keep hR (k23 uC' w) (keepM_tr (m19 uM' s) (m20 _ P))⟩
  · rw [plaC_f (by omega) t4 hp, plaM_f (by omega) t3 hp]
    exact ⟨_, _, _, rfl, rfl, h⟩
theorem T_firstOfTwo {ts : List Tx} {uC uM : St} (h : Rel ts uC uM) : ∃ (r : Int32) (uC' : St) (uM' : St), fX11_firstOfTwo uC = some (r, uC') ∧ fX12_firstOfTwo uM = some (r, uM') ∧ Rel ts uC' uM' := by
  obtain ⟨T, al, so, go, uC', uM', t1, t2, t3, t4, t5, t6, e1, e2, hR, kC, kM, hV, hVM, hC, hM, e3⟩ := cnt_both h
  have z40 : gZ uC' 40 = nI T := (kC.1 40 (by decide)).trans t6
  have z1 : gZ uM' 1 = nI T := (kM.1 1 (by decide)).trans t3
  obtain ⟨s, P, e5, hP⟩ := pairUp_ok z1 hM t1 t2
  have hw2 : ∀ w p l, p < T → l < 5 → ∃ w', fX2_worstWithNext (setB uC' 23 w) (nI l) (nI p) = some (w2N al so go T (lN (tot al so go T)) (5 * p + l), setB uC' 23 w') := by
    intro w p l hp hl
    obtain ⟨w', e⟩ := w2C (u := setB uC' 23 w) (VC_k hV (k23 uC' w)) hC t1 t2 z40 hp hl
    rw [setB_setB] at e
    exact ⟨w', e⟩
  have hm2 : ∀ x, x < 5 * T → fX12_ofTwo (setB (setB uM' 19 s) 20 P) (nI x) (lN (tot al so go T)) = some (w2N al so go T (lN (tot al so go T)) x) := fun x hx => w2M (u := setB (setB uM' 19 s) 20 P) (T := T) (al := al) (so := so) (go := go) z1 hP t2 hx (lN (tot al so go T))
  generalize hA : lN (tot al so go T) = a at e2 e3 hw2 hm2
  generalize hW : w2N al so go T a = W at hw2 hm2
  obtain ⟨⟨w, lf⟩, hs, f1⟩ := up (fun m (s : (Nat → Int64) × (Int64 × Int32)) i => fX2_bestWithNext_l13 m (setB uC' 23 s.1) s.2.1 s.2.2 i) (fun p s => s.2 = bfN W a (5 * p)) T (fun s => some (tlN s.2.2, setB uC' 23 s.1)) (by
    intro m s hI
    show fX2_bestWithNext_l13b (fX2_bestWithNext_l13 m) (setB uC' 23 s.1) s.2.1 s.2.2 (nI T) = _
    unfold fX2_bestWithNext_l13b
    rw [gZ_setB, z40, if_pos (nI_le (Nat.le_refl _) (by omega)), told_n, cl1_s]) (by
    intro m p s hp hI
    show ∃ s' : (Nat → Int64) × (Int64 × Int32), _ ∧ fX2_bestWithNext_l13b (fX2_bestWithNext_l13 m) (setB uC' 23 s.1) s.2.1 s.2.2 (nI p) = fX2_bestWithNext_l13 m (setB uC' 23 s'.1) s'.2.1 s'.2.2 (nI (p + 1))
    unfold fX2_bestWithNext_l13b
    rw [gZ_setB, z40, if_neg (nI_ge hp (by omega))]
    generalize hk2 : fX2_bestWithNext_l13 m = k13
    obtain ⟨s', hs', e⟩ := up (fun m (s : (Nat → Int64) × (Int64 × Int32)) i => fX2_bestWithNext_l25 k13 (nI p) m (setB uC' 23 s.1) s.2.1 s.2.2 i) (fun l s => s.2 = bfN W a (5 * p + l)) 5 (fun s => k13 (setB uC' 23 s.1) s.2.1 s.2.2 (nI (p + 1))) (by
      intro m s hI
      show fX2_bestWithNext_l25b k13 (fX2_bestWithNext_l25 k13 (nI p) m) (setB uC' 23 s.1) s.2.1 s.2.2 (nI p) 5 = _
      unfold fX2_bestWithNext_l25b
      rw [if_pos (by decide), nI_1]) (by
      intro m l s hl hI
      show ∃ s' : (Nat → Int64) × (Int64 × Int32), _ ∧ fX2_bestWithNext_l25b k13 (fX2_bestWithNext_l25 k13 (nI p) m) (setB uC' 23 s.1) s.2.1 s.2.2 (nI p) (nI l) = fX2_bestWithNext_l25 k13 (nI p) m (setB uC' 23 s'.1) s'.2.1 s'.2.2 (nI (l + 1))
      unfold fX2_bestWithNext_l25b fX2_bestWithNext_b59
      obtain ⟨w', e⟩ := hw2 s.1 p l hp hl
      rw [if_neg (n5 hl), e, cl2_s, place_n, cl1_s, nI_1, hI]
      have e : bfN W a (5 * p + (l + 1)) = if W (5 * p + l) < (bfN W a (5 * p + l)).1 then (W (5 * p + l), nI (5 * p + l)) else bfN W a (5 * p + l) := rfl
      by_cases z : W (5 * p + l) < (bfN W a (5 * p + l)).1
      · rw [if_neg (l64_lt.mp z)]
        rw [if_pos z] at e
        exact ⟨(w', (W (5 * p + l), nI (5 * p + l))), e.symm, rfl⟩
      · rw [if_neg z] at e
        by_cases z2 : (bfN W a (5 * p + l)).1 ≤ W (5 * p + l)
        · rw [if_pos z2]
          exact ⟨(w', bfN W a (5 * p + l)), e.symm, rfl⟩
        · exact absurd (l64_lt.mpr z2) z) NF 0 s (by omega) (by unfold NF; omega) hI
    exact ⟨s', hs', e⟩) NF 0 (gB uC' 23, (a, -1)) (by omega) (by unfold NF; omega) rfl
  obtain ⟨s', hs', f2⟩ := up (fun m (r : Int64 × Int32) i => fX12_firstOfTwo_l17 (setB (setB uM' 19 s) 20 P) a m r.1 r.2 i) (fun x r => r.1 = (bfN W a x).1 ∧ r.2 = tlN (bfN W a x).2) (5 * T) (fun r => some (r.2, setB (setB uM' 19 s) 20 P)) (by
    intro m r hI
    show fX12_firstOfTwo_l17b (fX12_firstOfTwo_l17 (setB (setB uM' 19 s) 20 P) a m) (setB (setB uM' 19 s) 20 P) a r.1 r.2 (nI (5 * T)) = _
    unfold fX12_firstOfTwo_l17b
    rw [gZ_setB, gZ_setB, z1, show (5 : Int32) = nI 5 from rfl, pk_mul, if_pos (nI_le (Nat.le_refl _) (by omega))]) (by
    intro m x r hx hI
    show ∃ r' : Int64 × Int32, _ ∧ fX12_firstOfTwo_l17b (fX12_firstOfTwo_l17 (setB (setB uM' 19 s) 20 P) a m) (setB (setB uM' 19 s) 20 P) a r.1 r.2 (nI x) = fX12_firstOfTwo_l17 (setB (setB uM' 19 s) 20 P) a m r'.1 r'.2 (nI (x + 1))
    unfold fX12_firstOfTwo_l17b fX12_firstOfTwo_b64
    rw [gZ_setB, gZ_setB, z1, show (5 : Int32) * nI T = nI (5 * T) from pk_mul 5 T, if_neg (nI_ge hx (by omega)), hm2 x hx, cl1_s, nmI_s, nI_1]
    obtain ⟨i1, i2⟩ := hI
    rw [i1, i2]
    have e : bfN W a (x + 1) = if W x < (bfN W a x).1 then (W x, nI x) else bfN W a x := rfl
    by_cases z : W x < (bfN W a x).1
    · rw [if_pos z]
      rw [if_pos z] at e
      refine ⟨(W x, _), ?_, rfl⟩
      rw [e]
      exact ⟨rfl, (tl_n (by omega)).symm⟩
    · rw [if_neg z]
      rw [if_neg z] at e
      refine ⟨((bfN W a x).1, tlN (bfN W a x).2), ?_, rfl⟩
      rw [e]
      exact ⟨rfl, rfl⟩) NF 0 (a, -1) (by omega) (by unfold NF; omega) ⟨rfl, rfl⟩
  refine ⟨tlN lf.2, setB uC' 23 w, setB (setB uM' 19 s) 20 P, ?_, ?_, Rel_keep hR (k23 uC' w) (keepM_tr (m19 uM' s) (m20 _ P))⟩
  · unfold fX11_firstOfTwo fX2_bestWithNext
    have f1' : fX2_bestWithNext_l13 NF (setB uC' 23 (gB uC' 23)) a (-1) 0 = some (tlN lf.2, setB uC' 23 w) := f1
    rw [show setB uC' 23 (gB uC' 23) = uC' from setB_self uC' 23] at f1'
    rw [e1, cl1_s, e3, cl1_s, f1', cl2_s]
  · unfold fX12_firstOfTwo
    have f2' : fX12_firstOfTwo_l17 (setB (setB uM' 19 s) 20 P) a NF a (-1) 0 = some (s'.2, setB (setB uM' 19 s) 20 P) := f2
    rw [e2, cl2_s, e5, cl1_s, f2', hs'.2, show 5 * T = 5 * T from rfl, ← hs]
