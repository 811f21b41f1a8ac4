def NF : Nat := 5000
def Run (X : Cx) (cc : ByteArray) (nL : Nat) (own : String) (R : Room) (V : Vx) (ret : Option FieldType) (Rt : Option Value → va_W → Prop) : Prop := OK X cc nL own R V ∧ (cT X).sig.returnType = ret ∧ Ende X 0 0 Rt
theorem r_i {w : va_W} {v r : Int32} (hf : some v = some r) : rEq (some (.int r)) w (some (.int v)) w := by
  cases hf
  exact ⟨rfl, rfl⟩
theorem r_l {w : va_W} {v r : Int64} (hf : some v = some r) : rEq (some (.long r)) w (some (.long v)) w := by
  cases hf
  exact ⟨rfl, rfl⟩
theorem r_iS {v : Int32} {u : St} {r : Int32 × St} {wf : St → va_W} (hf : some (v, u) = some r) : rEq (some (.int r.1)) (wf r.2) (some (.int v)) (wf u) := by
  cases hf
  exact ⟨rfl, rfl⟩
theorem r_lS {v : Int64} {u : St} {r : Int64 × St} {wf : St → va_W} (hf : some (v, u) = some r) : rEq (some (.long r.1)) (wf r.2) (some (.long v)) (wf u) := by
  cases hf
  exact ⟨rfl, rfl⟩
theorem r_vS {u r : St} {wf : St → va_W} (hf : some u = some r) : rEq none (wf r) none (wf u) := by
  cases hf
  exact ⟨rfl, rfl⟩
theorem ne_toInt {x v : Int32} (h : ¬ x = v) : ¬ x.toInt = v.toInt := fun z => h (Int32.toInt_inj.mp z)
theorem nz_of {ρ : Type} {y : Int32} {a : Option ρ} {r : ρ} (hf : (if y = 0 then none else a) = some r) : ¬ y = 0 := by
  intro h
  rw [if_pos h] at hf
  cases hf
def jmax (x y : Int32) : Int32 := if x < y then y else x
def jmin (x y : Int32) : Int32 := if y < x then y else x
def jmaxL (x y : Int64) : Int64 := if y < x then x else y
def jminL (x y : Int64) : Int64 := if y < x then y else x
/-- numbers moved inside one row -/
def cpA {ρ : Type} (u : St) (a m : Nat) (sp dp n : Int32) (k : St → Option ρ) : Option ρ := if sp < 0 ∨ dp < 0 ∨ n < 0 ∨ m < sp.toNatClampNeg + n.toNatClampNeg ∨ m < dp.toNatClampNeg + n.toNatClampNeg then none else k (setA u a (va_cpy (gA u a) (gA u a) sp.toNatClampNeg dp.toNatClampNeg n.toNatClampNeg))
section More
variable {X : Cx} {cc : ByteArray} {nL k n : Nat} {own : String} {R : Room} {V : Vx} {w : va_W} {pc pc' idx : Nat} {lv : List (Nat × Value)} {st : List Value} {ρ : Type}
theorem a_alen {a : Nat} {xx : vp_A} {ty : FieldType} {v : Int32} (hX : OK X cc nL own R V) (q0 t0 : Nat) {cA : ClassId} (ha : w[q0]? = some (a, .inl (cA, xx))) (ht : (tysL (vc V))[t0]? = some (cA, ty)) (hv : Int32.ofNat xx.1 = v) (d : decode cc pc = .ok (.arraylength, 1)) (hp : pc + 1 = pc') (kk : At X nL k n w pc' lv (.int v :: st)) : At X nL k n w pc lv (.ref a :: st) := by
  subst hp
  exact fun H locs ls hP hD hS hl => va_alen hX.1 hX.2.1 hX.2.2.2.2.2.1 hP q0 t0 ha ht hv d (kk H locs ls hP hD hS hl)
theorem fits_int (x : Int32) : fits .int (.int x) = true := rfl
theorem a_cpA {wf : St → va_W} {u : St} {ix m a : Nat} {sp dp nn : Int32} {kf : St → Option ρ} {r : ρ} (hX : OK X cc nL own R V) (q0 : Nat) (ha : (wf u)[q0]? = some (a, .inl (vc V 0, m, .inl (gA u ix)))) (hw : ∀ g, (wf u).set q0 (a, .inl (vc V 0, m, .inl g)) = wf (setA u ix g)) (hk : Cond.methodLink own idx arraycopyName ∈ gtbl) (hfr : 1 ≤ R.frames) (hlo : (st.map fun v => v.category).sum + (nativeFrameWords "java/lang/System" "arraycopy" 5 + 11) ≤ R.locals) (d : decode cc pc = .ok (.invokestatic idx, 3)) (hp : pc + 3 = pc') (hf : cpA u ix m sp dp nn kf = some r) (kk : ∀ u', kf u' = some r → At X nL k n (wf u') pc' lv st) : At X nL k n (wf u) pc lv (.int nn :: .int dp :: .ref a :: .int sp :: .ref a :: st) := by
  subst hp
  unfold cpA at hf
  by_cases h : sp < 0 ∨ dp < 0 ∨ nn < 0 ∨ m < sp.toNatClampNeg + nn.toNatClampNeg ∨ m < dp.toNatClampNeg + nn.toNatClampNeg
  · rw [if_pos h] at hf; cases hf
  · rw [if_neg h] at hf
    have h1 : ¬ sp < 0 := fun z => h (Or.inl z)
    have h2 : ¬ dp < 0 := fun z => h (Or.inr (Or.inl z))
    have h3 : ¬ nn < 0 := fun z => h (Or.inr (Or.inr (Or.inl z)))
    have h4 : ¬ m < sp.toNatClampNeg + nn.toNatClampNeg := fun z => h (Or.inr (Or.inr (Or.inr (Or.inl z))))
    have h5 : ¬ m < dp.toNatClampNeg + nn.toNatClampNeg := fun z => h (Or.inr (Or.inr (Or.inr (Or.inr z))))
    refine fun H locs ls hP hD hS hl => va_copyi hX.1 hX.2.1 (hX.2.2.1.trans hl.1.symm) hX.2.2.2.1 (hX.2.2.2.2.1 _ hk) (hX.2.2.2.2.1 _ Nt_acopy) (hX.2.2.2.2.1 _ Sc_acopy) (hX.2.2.2.2.1 _ J_J10) hX.2.2.2.2.2.1 hP hD hS q0 q0 0 0 ha ha rfl rfl rfl h1 h2 h3 (Nat.le_of_not_lt h4) (Nat.le_of_not_lt h5) (fun i _ => fits_int _) (by rw [hX.2.2.2.2.2.2.2.2.2.1]; exact hfr) (by rw [hX.2.2.2.2.2.2.2.2.2.1]; exact hlo) d (fun H1 locs1 hP hD hS => ?_)
    rw [hw] at hP hD
    exact kk _ hf H1 locs1 ls hP hD hS hl
theorem a_jmax {x y : Int32} (hX : OK X cc nL own R V) (hk : Cond.methodLink own idx Lib.Math.max.name ∈ gtbl) (hfr : 1 ≤ R.frames) (hlo : (st.map fun v => v.category).sum + 13 ≤ R.locals) (d : decode cc pc = .ok (.invokestatic idx, 3)) (hp : pc + 3 = pc') (kk : At X nL 0 0 w pc' lv (.int (jmax x y) :: st)) : At X nL 0 0 w pc lv (.int y :: .int x :: st) := by
  subst hp
  exact fun H locs ls hP hD hS hl => va_mmax hX.1 hX.2.1 (hX.2.2.1.trans hl.1.symm) hX.2.2.2.1 (hX.2.2.2.2.1 _ hk) (hX.2.2.2.2.1 _ Sc_max) (hX.2.2.2.2.1 _ J_J9) (hX.2.2.2.2.1 _ Cd_max) (by rw [hX.2.2.2.2.2.2.2.2.2.1]; exact hfr) (by rw [hX.2.2.2.2.2.2.2.2.2.1]; exact hlo) (Nat.zero_le _) (Nat.zero_le _) d (kk H locs ls hP hD hS hl)
theorem a_jmin {x y : Int32} (hX : OK X cc nL own R V) (hk : Cond.methodLink own idx Lib.Math.min.name ∈ gtbl) (hfr : 1 ≤ R.frames) (hlo : (st.map fun v => v.category).sum + 13 ≤ R.locals) (d : decode cc pc = .ok (.invokestatic idx, 3)) (hp : pc + 3 = pc') (kk : At X nL 0 0 w pc' lv (.int (jmin x y) :: st)) : At X nL 0 0 w pc lv (.int y :: .int x :: st) := by
  subst hp
  exact fun H locs ls hP hD hS hl => va_mmin hX.1 hX.2.1 (hX.2.2.1.trans hl.1.symm) hX.2.2.2.1 (hX.2.2.2.2.1 _ hk) (hX.2.2.2.2.1 _ Sc_min) (hX.2.2.2.2.1 _ J_J9) (hX.2.2.2.2.1 _ Cd_min) (by rw [hX.2.2.2.2.2.2.2.2.2.1]; exact hfr) (by rw [hX.2.2.2.2.2.2.2.2.2.1]; exact hlo) (Nat.zero_le _) (Nat.zero_le _) d (kk H locs ls hP hD hS hl)
theorem a_jmaxL {x y : Int64} (hX : OK X cc nL own R V) (hk : Cond.methodLink own idx Lib.MathLoose.max_long.x ∈ gtbl) (hfr : 1 ≤ R.frames) (hlo : (st.map fun v => v.category).sum + 15 ≤ R.locals) (d : decode cc pc = .ok (.invokestatic idx, 3)) (hp : pc + 3 = pc') (kk : At X nL 0 0 w pc' lv (.long (jmaxL x y) :: st)) : At X nL 0 0 w pc lv (.long y :: .long x :: st) := by
  subst hp
  exact fun H locs ls hP hD hS hl => va_mmax_long hX.1 hX.2.1 (hX.2.2.1.trans hl.1.symm) hX.2.2.2.1 (hX.2.2.2.2.1 _ hk) (hX.2.2.2.2.1 _ Sc_max_long) (hX.2.2.2.2.1 _ J_J9) (hX.2.2.2.2.1 _ Cd_max_long) (by rw [hX.2.2.2.2.2.2.2.2.2.1]; exact hfr) (by rw [hX.2.2.2.2.2.2.2.2.2.1]; exact hlo) (Nat.zero_le _) (Nat.zero_le _) d (kk H locs ls hP hD hS hl)
theorem a_jminL {x y : Int64} (hX : OK X cc nL own R V) (hk : Cond.methodLink own idx Lib.MathLoose.min_long.x ∈ gtbl) (hfr : 1 ≤ R.frames) (hlo : (st.map fun v => v.category).sum + 15 ≤ R.locals) (d : decode cc pc = .ok (.invokestatic idx, 3)) (hp : pc + 3 = pc') (kk : At X nL 0 0 w pc' lv (.long (jminL x y) :: st)) : At X nL 0 0 w pc lv (.long y :: .long x :: st) := by
  subst hp
  exact fun H locs ls hP hD hS hl => va_mmin_long hX.1 hX.2.1 (hX.2.2.1.trans hl.1.symm) hX.2.2.2.1 (hX.2.2.2.2.1 _ hk) (hX.2.2.2.2.1 _ Sc_min_long) (hX.2.2.2.2.1 _ J_J9) (hX.2.2.2.2.1 _ Cd_min_long) (by rw [hX.2.2.2.2.2.2.2.2.2.1]; exact hfr) (by rw [hX.2.2.2.2.2.2.2.2.2.1]; exact hlo) (Nat.zero_le _) (Nat.zero_le _) d (kk H locs ls hP hD hS hl)
end More
