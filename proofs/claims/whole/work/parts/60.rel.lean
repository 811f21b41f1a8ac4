/-! pure words -/
theorem cl1_s {α ρ : Type} (x : α) (k : α → Option ρ) : cl1 (some x) k = k x := rfl
theorem cl2_s {α ρ : Type} (x : α) (u : St) (k : α → St → Option ρ) : cl2 (some (x, u)) k = k x u := rfl
theorem nmI_s {ρ : Type} (x : Int32) (k : Int32 → Option ρ) : nmI x k = k x := rfl
theorem nmL_s {ρ : Type} (x : Int64) (k : Int64 → Option ρ) : nmL x k = k x := rfl
theorem nmS_s {ρ : Type} (x : St) (k : St → Option ρ) : nmS x k = k x := rfl
theorem oob {j m : Nat} (h : j < m) (hm : m < 2 ^ 31) : ¬ (nI j < 0 ∨ m ≤ (nI j).toNatClampNeg) := nI_in h hm
theorem ldI_s {ρ : Type} {f : Nat → Int32} {m j : Nat} {k : Int32 → Option ρ} (h : j < m) (hm : m < 2 ^ 31) : ldI f m (nI j) k = k (f j) := by
  unfold ldI
  rw [if_neg (oob h hm), nI_clamp (by omega)]
theorem ldL_s {ρ : Type} {f : Nat → Int64} {m j : Nat} {k : Int64 → Option ρ} (h : j < m) (hm : m < 2 ^ 31) : ldL f m (nI j) k = k (f j) := by
  unfold ldL
  rw [if_neg (oob h hm), nI_clamp (by omega)]
theorem stI_s {ρ : Type} {u : St} {a m j : Nat} {x : Int32} {k : St → Option ρ} (h : j < m) (hm : m < 2 ^ 31) : stI u a m (nI j) x k = k (setA u a (upd (gA u a) j x)) := by
  unfold stI
  rw [if_neg (oob h hm), nI_clamp (by omega)]
theorem stZ_s {ρ : Type} {u : St} {a m j : Nat} {x : Int32} {k : St → Option ρ} (h : j < m) (hm : m < 2 ^ 31) : stZ u a m (nI j) x k = k (setA u a (upd (gA u a) j (vp_nar .boolean x))) := by
  unfold stZ
  rw [if_neg (oob h hm), nI_clamp (by omega)]
theorem stB_s {ρ : Type} {u : St} {a m j : Nat} {x : Int32} {k : St → Option ρ} (h : j < m) (hm : m < 2 ^ 31) : stB u a m (nI j) x k = k (setA u a (upd (gA u a) j (vp_nar .byte x))) := by
  unfold stB
  rw [if_neg (oob h hm), nI_clamp (by omega)]
theorem stL_s {ρ : Type} {u : St} {a m j : Nat} {x : Int64} {k : St → Option ρ} (h : j < m) (hm : m < 2 ^ 31) : stL u a m (nI j) x k = k (setB u a (vp_updL (gB u a) j x)) := by
  unfold stL
  rw [if_neg (oob h hm), nI_clamp (by omega)]
/-- a truth as an int -/
def bI (p : Prop) [Decidable p] : Int32 := if p then 1 else 0
theorem bI_t {p : Prop} [Decidable p] (h : p) : bI p = 1 := if_pos h
theorem bI_f {p : Prop} [Decidable p] (h : ¬ p) : bI p = 0 := if_neg h
theorem bI_0 {p : Prop} [Decidable p] : bI p = 0 ↔ ¬ p := by
  unfold bI
  by_cases h : p <;> simp [h]
theorem bI_1 {p : Prop} [Decidable p] : bI p = 1 ↔ p := by
  unfold bI
  by_cases h : p <;> simp [h]
theorem bI_01 {p : Prop} [Decidable p] : bI p = 0 ∨ bI p = 1 := by
  unfold bI
  by_cases h : p <;> simp [h]
theorem bI_c {p q : Prop} [Decidable p] [Decidable q] (h : p ↔ q) : bI p = bI q := by
  unfold bI
  by_cases hp : p
  · rw [if_pos hp, if_pos (h.mp hp)]
  · rw [if_neg hp, if_neg (fun z => hp (h.mpr z))]
theorem nar_bI {p : Prop} [Decidable p] : vp_nar .boolean (bI p) = bI p := by
  rcases bI_01 (p := p) with h | h <;> rw [h] <;> decide
theorem rtZ_s {ρ : Type} {p : Prop} [Decidable p] (r : ρ) : rtZ (bI p) r = some r := if_pos bI_01
theorem setZ_setZ (u : St) (k : Nat) (v w : Int32) : setZ (setZ u k v) k w = setZ u k w := by
  unfold setZ
  congr 1
  funext j
  unfold upd
  by_cases h : j = k <;> simp [h]
theorem setA_setA (u : St) (k : Nat) (v w : Nat → Int32) : setA (setA u k v) k w = setA u k w := by
  unfold setA
  congr 3
  funext j
  unfold va_up
  by_cases h : j = k <;> simp [h]
theorem setB_setB (u : St) (k : Nat) (v w : Nat → Int64) : setB (setB u k v) k w = setB u k w := by
  unfold setB
  congr 3
  funext j
  unfold va_up
  by_cases h : j = k <;> simp [h]
def InR (x : Int32) (n : Nat) : Prop := ∃ k : Nat, k < n ∧ x = nI k
theorem inR_iff {x : Int32} {n : Nat} (hn : n < 2 ^ 31) : InR x n ↔ ¬ x < 0 ∧ ¬ nI n ≤ x := by
  constructor
  · rintro ⟨k, hk, rfl⟩
    exact ⟨nI_pos (by omega), fun h => by rw [nI_leI hn (by omega)] at h; omega⟩
  · rintro ⟨h1, h2⟩
    rcases pk_ix x hn with h | h | ⟨j, hj, e⟩
    · exact absurd h h1
    · exact absurd h h2
    · exact ⟨j, hj, e⟩
/-- how many of the first n -/
def cnt (P : Nat → Prop) [DecidablePred P] : Nat → Nat
  | 0 => 0
  | n + 1 => cnt P n + if P n then 1 else 0
theorem cnt_le (P : Nat → Prop) [DecidablePred P] : ∀ n, cnt P n ≤ n
  | 0 => Nat.le_refl 0
  | n + 1 => by
    have := cnt_le P n
    show cnt P n + (if P n then 1 else 0) ≤ n + 1
    by_cases h : P n
    · rw [if_pos h]; omega
    · rw [if_neg h]; omega
/-- the ways that are open -/
def opn (A4 A5 A6 A7 : Nat → Int32) (a b p : Int32) (n : Nat) : Nat := cnt (fun w => A4 w = a ∧ A5 w = b ∧ A6 w ≤ p ∧ p ≤ A7 w) n
def RelW (sz wm : Int32) (op A4 A5 A6 A7 : Nat → Int32) : Prop := ∃ W : Nat, W ≤ 20 ∧ sz = nI W ∧ wm = nI W ∧ ∀ p a b : Nat, p < 12 → a < 5 → b < 5 → op ((p * 5 + a) * 5 + b) = nI (opn A4 A5 A6 A7 (nI a) (nI b) (nI p) W)
/-- papers that stand, as bits -/
def stnd (ln : Nat → Int32) (fg : Nat → Prop) [DecidablePred fg] : Nat → Int32
  | 0 => 0
  | i + 1 => if ¬ fg i ∧ ln i &&& (stnd ln fg i ^^^ (-1)) = 0 then stnd ln fg i ||| (1 : Int32) <<< (nI i &&& 31) else stnd ln fg i
/-- a bit, as the class asks for it -/
def bt (x : Int32) (i : Nat) : Prop := x >>> (nI i &&& 31) &&& 1 = 1
def RelP (T : Nat) (szC fgC stC szM : Int32) (C3 C4 C5 C6 C7 M9 M10 M11 M12 M13 M14 : Nat → Int32) : Prop := ∃ P : Nat, P ≤ 16 ∧ szC = nI P ∧ szM = nI P ∧ (∀ i, i < P → C3 i = M9 i ∧ C4 i = M10 i ∧ C5 i = M11 i ∧ C6 i = M12 i ∧ C7 i = M13 i ∧ InR (M9 i) 6 ∧ InR (M10 i) 5 ∧ InR (M11 i) 5 ∧ InR (M12 i) T ∧ InR (M13 i) (2 ^ i)) ∧ (∀ i, i < P → M14 i = fgC >>> (nI i &&& 31) &&& 1) ∧ InR fgC (2 ^ P) ∧ stC = stnd M13 (fun i => ¬ M14 i = 0) P
def RelTape (szC szM : Int32) (tC tM : Nat → Int32) : Prop := ∃ K : Nat, K ≤ 160 ∧ szC = nI K ∧ szM = nI K ∧ ∀ i, i < K → InR (tM i) 256 ∧ tC i = (tM i).toInt8.toInt32
def RelLaw (T N : Nat) (szC szM : Int32) (C3 C4 C5 M39 M40 M41 : Nat → Int32) : Prop := ∃ Q : Nat, Q ≤ 20 ∧ szC = nI Q ∧ szM = nI Q ∧ ∀ i, i < Q → C3 i = M39 i ∧ C4 i = M40 i ∧ C5 i = M41 i ∧ InR (M39 i) 5 ∧ InR (M40 i) T ∧ InR (M41 i) N
def RelJ (szC szM : Int32) (kC kM : Nat → Int64) : Prop := ∃ J : Nat, J ≤ 12 ∧ szC = nI J ∧ szM = nI J ∧ ∀ i, i < 5 * J → kC i = kM i
def RelS (szC szM slC slM : Int32) (lC rC lM rM : Nat → Int32) : Prop := slC = slM ∧ InR slM 5 ∧ ∃ S : Nat, S ≤ 8 ∧ szC = nI S ∧ szM = nI S ∧ ∀ i, i < S → lC i = lM i ∧ rC i = rM i ∧ InR (lM i) 10000 ∧ InR (rM i) 10000
def RelR (szC szM eC eM : Int32) (mC kC mM kM : Nat → Int32) : Prop := eC = eM ∧ InR eM 11 ∧ ∃ S : Nat, S ≤ 10 ∧ szC = nI S ∧ szM = nI S ∧ ∀ i, i < S → mC i = mM i ∧ kC i = kM i ∧ InR (mM i) 1024 ∧ InR (kM i) 1024
def RelSh (soC siC itC thM soM siM itM : Nat → Int32) : Prop := ∀ i, i < 4 → (soC i = -1 ∧ thM i = 0) ∨ (thM i = 1 ∧ soC i = soM i ∧ InR (soM i) 3 ∧ siC i = siM i ∧ ∃ n : Nat, n ≤ 40 ∧ siM i = nI n ∧ ∀ j, j < n → itC (40 * i + j) = itM (40 * i + j))
/-- what of a side's state outlasts a question -/
def keepM (u v : St) : Prop := (∀ k, k ∈ ([0, 1, 2, 3, 8, 23, 25, 38, 45, 47, 50, 51, 53] : List Nat) → gZ v k = gZ u k) ∧ (∀ k, k ∈ ([4, 5, 6, 7, 9, 10, 11, 12, 13, 14, 21, 22, 24, 39, 40, 41, 48, 49, 54, 55, 57, 58, 59, 60] : List Nat) → gA v k = gA u k) ∧ gB v 46 = gB u 46
def keepC (u v : St) : Prop := (∀ k, k ∈ ([0, 4, 20, 24, 40, 60, 61, 68, 80, 81, 82, 100, 120, 121, 160, 161, 200, 220] : List Nat) → gZ v k = gZ u k) ∧ (∀ k, k ∈ ([63, 64, 65, 83, 84, 85, 86, 87, 102, 122, 123, 140, 141, 142, 162, 163, 165, 201] : List Nat) → gA v k = gA u k) ∧ gB v 1 = gB u 1
/-- a code worked out on a stack -/
def ev1 (env : Nat → Int32) (c : Int32) (st : List Int32) : List Int32 :=
  if -6 ≤ c then (if 0 ≤ c then c else env (-1 - c).toNatClampNeg) :: st
  else if -8 ≤ c then (match st with
    | [] => []
    | x :: r => (if c = -7 then -x else bI (x = 0)) :: r)
  else (match st with
    | y :: x :: r => (if c = -9 then bI (x ≠ 0 ∨ y ≠ 0) else if c = -10 then bI (x ≠ 0 ∧ y ≠ 0) else if c = -11 then bI (x < y) else if c = -12 then bI (x = y) else if c = -13 then x + y else if c = -14 then x - y else x * y) :: r
    | r => r)
/-- the part of a code from i on, n long -/
def evN (env : Nat → Int32) (f : Nat → Int32) : Nat → Nat → List Int32 → List Int32
  | _, 0, st => st
  | i, n + 1, st => evN env f (i + 1) n (ev1 env (f i) st)
def top0 : List Int32 → Int32
  | [] => 0
  | x :: _ => x
/-- what the names come to in a model's state, for a link -/
def EnvOK (u : St) (a b p : Int32) (env : Nat → Int32) : Prop := env 0 = a ∧ env 1 = b ∧ env 2 = p ∧ env 3 = gZ u 1 - 1 ∧ (∃ s : Int32, fX12_standing u (-1) = some s ∧ fX12_bitsOf s = some (env 4)) ∧ fX12_openWays u a b p = some (env 5)
/-- what a reading of a text leaves -/
def keepR (u v : St) : Prop := (∀ k, k ∈ ([0, 1, 2, 3, 8, 23, 25, 38, 45, 47, 50, 51, 53] : List Nat) → gZ v k = gZ u k) ∧ gA v = gA u ∧ gB v = gB u
/-- text i of the model's rows comes, by its reading, to what the code comes to -/
def TxOK (B : Nat → Int32) (n : Int32) (i : Nat) (tx : Tx) : Prop := ∃ (sp N : Nat), tx.1 = nI sp ∧ tx.2.1 = N ∧ sp ≤ N ∧ N ≤ 160 ∧ ∀ (u : St) (a b p : Int32) (env : Nat → Int32), (∀ j, j < 160 → gA u 21 (160 * i + j) = B (160 * i + j)) → gA u 22 i = n → EnvOK u a b p env →
  (∃ u' : St, fX12_read u (nI i) a b p 0 = some (top0 (evN env tx.2.2 0 sp []), u') ∧ keepR u u') ∧ ∃ u' : St, fX12_read u (nI i) a b p 1 = some (top0 (evN env tx.2.2 sp (N - sp) []), u') ∧ keepR u u'
def RelText (ts : List Tx) (cC cM : Int32) (B Z : Nat → Int32) : Prop := 1 ≤ ts.length ∧ ts.length ≤ 6 ∧ cC = nI ts.length ∧ cM = nI ts.length ∧ ∀ (i : Nat) (tx : Tx), ts[i]? = some tx → TxOK B (Z i) i tx
def RelT (T : Nat) (t1 t220 t24 t68 t4 t40 : Int32) : Prop := 2 ≤ T ∧ T ≤ 12 ∧ t1 = nI T ∧ t220 = nI T ∧ t24 = nI T ∧ t68 = nI (T - 1) ∧ t4 = nI T ∧ t40 = nI T
def Rel (ts : List Tx) (c m : St) : Prop := ∃ T : Nat, RelT T (gZ m 1) (gZ c 220) (gZ c 24) (gZ c 68) (gZ c 4) (gZ c 40)
  ∧ RelW (gZ c 200) (gZ m 3) (gA c 201) (gA m 4) (gA m 5) (gA m 6) (gA m 7)
  ∧ (gZ c 20 = gZ m 2 ∧ InR (gZ m 2) 32 ∧ gA c 165 0 = 0)
  ∧ RelP T (gZ c 80) (gZ c 81) (gZ c 82) (gZ m 8) (gA c 83) (gA c 84) (gA c 85) (gA c 86) (gA c 87) (gA m 9) (gA m 10) (gA m 11) (gA m 12) (gA m 13) (gA m 14)
  ∧ RelTape (gZ c 100) (gZ m 25) (gA c 102) (gA m 24)
  ∧ RelText ts (gZ c 61) (gZ m 23) (gA m 21) (gA m 22)
  ∧ RelLaw T ts.length (gZ c 60) (gZ m 38) (gA c 63) (gA c 64) (gA c 65) (gA m 39) (gA m 40) (gA m 41)
  ∧ RelJ (gZ c 0) (gZ m 45) (gB c 1) (gB m 46)
  ∧ RelS (gZ c 160) (gZ m 47) (gZ c 161) (gZ m 50) (gA c 162) (gA c 163) (gA m 48) (gA m 49)
  ∧ RelR (gZ c 120) (gZ m 53) (gZ c 121) (gZ m 51) (gA c 122) (gA c 123) (gA m 54) (gA m 55)
  ∧ RelSh (gA c 140) (gA c 141) (gA c 142) (gA m 57) (gA m 58) (gA m 59) (gA m 60)
theorem keepM_rf (u : St) : keepM u u := ⟨fun _ _ => rfl, fun _ _ => rfl, rfl⟩
theorem keepC_rf (u : St) : keepC u u := ⟨fun _ _ => rfl, fun _ _ => rfl, rfl⟩
theorem keepM_tr {u v w : St} (h : keepM u v) (k : keepM v w) : keepM u w := ⟨fun j hj => (k.1 j hj).trans (h.1 j hj), fun j hj => (k.2.1 j hj).trans (h.2.1 j hj), k.2.2.trans h.2.2⟩
theorem keepC_tr {u v w : St} (h : keepC u v) (k : keepC v w) : keepC u w := ⟨fun j hj => (k.1 j hj).trans (h.1 j hj), fun j hj => (k.2.1 j hj).trans (h.2.1 j hj), k.2.2.trans h.2.2⟩
theorem Rel_keep {ts : List Tx} {c m c' m' : St} (h : Rel ts c m) (hc : keepC c c') (hm : keepM m m') : Rel ts c' m' := by
  obtain ⟨T, h1, h2, h3, h4, h5, h6, h7, h8, h9, h10, h11⟩ := h
  obtain ⟨cz, ca, cb⟩ := hc
  obtain ⟨mz, ma, mb⟩ := hm
  refine ⟨T, ?_, ?_, ?_, ?_, ?_, ?_, ?_, ?_, ?_, ?_, ?_⟩
  · rw [mz 1 (by decide), cz 220 (by decide), cz 24 (by decide), cz 68 (by decide), cz 4 (by decide), cz 40 (by decide)]; exact h1
  · rw [cz 200 (by decide), mz 3 (by decide), ca 201 (by decide), ma 4 (by decide), ma 5 (by decide), ma 6 (by decide), ma 7 (by decide)]; exact h2
  · rw [cz 20 (by decide), mz 2 (by decide), ca 165 (by decide)]; exact h3
  · rw [cz 80 (by decide), cz 81 (by decide), cz 82 (by decide), mz 8 (by decide), ca 83 (by decide), ca 84 (by decide), ca 85 (by decide), ca 86 (by decide), ca 87 (by decide), ma 9 (by decide), ma 10 (by decide), ma 11 (by decide), ma 12 (by decide), ma 13 (by decide), ma 14 (by decide)]; exact h4
  · rw [cz 100 (by decide), mz 25 (by decide), ca 102 (by decide), ma 24 (by decide)]; exact h5
  · rw [cz 61 (by decide), mz 23 (by decide), ma 21 (by decide), ma 22 (by decide)]; exact h6
  · rw [cz 60 (by decide), mz 38 (by decide), ca 63 (by decide), ca 64 (by decide), ca 65 (by decide), ma 39 (by decide), ma 40 (by decide), ma 41 (by decide)]; exact h7
  · rw [cz 0 (by decide), mz 45 (by decide), cb, mb]; exact h8
  · rw [cz 160 (by decide), mz 47 (by decide), cz 161 (by decide), mz 50 (by decide), ca 162 (by decide), ca 163 (by decide), ma 48 (by decide), ma 49 (by decide)]; exact h9
  · rw [cz 120 (by decide), mz 53 (by decide), cz 121 (by decide), mz 51 (by decide), ca 122 (by decide), ca 123 (by decide), ma 54 (by decide), ma 55 (by decide)]; exact h10
  · rw [ca 140 (by decide), ca 141 (by decide), ca 142 (by decide), ma 57 (by decide), ma 58 (by decide), ma 59 (by decide), ma 60 (by decide)]; exact h11
