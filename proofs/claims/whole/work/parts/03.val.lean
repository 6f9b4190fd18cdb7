/-! machine numbers and what they are modulo 12289: IV of an int, LV of a long; the number is the residue, the last place a bound -/
def ss_IV (x : Int32) (a : ss_F) (b : Nat) : Prop := ss_z x.toInt = a ∧ x.toInt.natAbs ≤ b
def ss_LV (x : Int64) (a : ss_F) (b : Nat) : Prop := ss_z x.toInt = a ∧ x.toInt.natAbs ≤ b
/-- an int that is not negative -/
def ss_NV (x : Int32) (a : ss_F) (b : Nat) : Prop := ∃ n : Nat, x = nI n ∧ ss_n n = a ∧ n ≤ b
/-- a residue as an int -/
def ss_e (a : ss_F) : Int32 := nI a.val
theorem ss_e_toInt (a : ss_F) : (ss_e a).toInt = (a.val : Int) := nI_toInt (by have := a.isLt; omega)
theorem ss_e_inj {a c : ss_F} (h : ss_e a = ss_e c) : a = c := by
  have := congrArg Int32.toInt h
  rw [ss_e_toInt, ss_e_toInt] at this
  exact Fin.ext (by omega)
theorem ss_e0 : ss_e 0 = 0 := by decide
theorem ss_e1 : ss_e 1 = 1 := by decide
theorem ss_e_eq0 (a : ss_F) : ss_e a = 0 ↔ a = 0 := ⟨fun h => ss_e_inj (h.trans ss_e0.symm), fun h => by rw [h, ss_e0]⟩
theorem ss_e_eq1 (a : ss_F) : ss_e a = 1 ↔ a = 1 := ⟨fun h => ss_e_inj (h.trans ss_e1.symm), fun h => by rw [h, ss_e1]⟩
theorem ss_NV_e (a : ss_F) : ss_NV (ss_e a) a 12288 := ⟨a.val, rfl, ss_n_of a, by have := a.isLt; omega⟩
theorem ss_NV_n (n : Nat) : ss_NV (nI n) (ss_n n) n := ⟨n, rfl, rfl, Nat.le_refl n⟩
theorem ss_NV_I {x : Int32} {a : ss_F} {b : Nat} (h : ss_NV x a b) (hb : b < 2 ^ 31) : ss_IV x a b := by
  obtain ⟨n, rfl, rfl, hn⟩ := h
  constructor
  · rw [nI_toInt (by omega), ss_nz]
  · rw [nI_toInt (by omega)]; omega
theorem ss_IV_e (a : ss_F) : ss_IV (ss_e a) a 12288 := ss_NV_I (ss_NV_e a) (by decide)
theorem ss_IV_n (n : Nat) (h : n < 2 ^ 31) : ss_IV (nI n) (ss_n n) n := ss_NV_I (ss_NV_n n) h
theorem ss_NV_add {x y : Int32} {a c : ss_F} {b d : Nat} (hx : ss_NV x a b) (hy : ss_NV y c d) : ss_NV (x + y) (a + c) (b + d) := by
  obtain ⟨m, rfl, rfl, hm⟩ := hx
  obtain ⟨n, rfl, rfl, hn⟩ := hy
  exact ⟨m + n, nI_add m n, ss_n_add m n, by omega⟩
theorem ss_NV_mul {x y : Int32} {a c : ss_F} {b d : Nat} (hx : ss_NV x a b) (hy : ss_NV y c d) : ss_NV (x * y) (a * c) (b * d) := by
  obtain ⟨m, rfl, rfl, hm⟩ := hx
  obtain ⟨n, rfl, rfl, hn⟩ := hy
  exact ⟨m * n, pk_mul m n, ss_n_mul m n, Nat.mul_le_mul hm hn⟩
/-- the remainder of an int that is not negative -/
theorem ss_NV_rem {x : Int32} {a : ss_F} {b : Nat} (h : ss_NV x a b) (hb : b < 2 ^ 31 := by decide) : x - x / 12289 * 12289 = ss_e a := by
  obtain ⟨n, rfl, rfl, hn⟩ := h
  exact pk_rem (d := 12289) (by omega) (by decide) (by decide)
theorem ss_IV_le {x : Int32} {a : ss_F} {b d : Nat} (h : ss_IV x a b) (hd : b ≤ d) : ss_IV x a d := ⟨h.1, Nat.le_trans h.2 hd⟩
theorem ss_LV_le {x : Int64} {a : ss_F} {b d : Nat} (h : ss_LV x a b) (hd : b ≤ d) : ss_LV x a d := ⟨h.1, Nat.le_trans h.2 hd⟩
theorem ss_IV_add {x y : Int32} {a c : ss_F} {b d : Nat} (hx : ss_IV x a b) (hy : ss_IV y c d) (h : b + d < 2 ^ 31 := by decide) : ss_IV (x + y) (a + c) (b + d) := by
  obtain ⟨rfl, h1⟩ := hx
  obtain ⟨rfl, h2⟩ := hy
  have e := Jvm.Kit.i32_add (x := x) (y := y) (by omega) (by omega)
  exact ⟨by rw [e, ss_z_add], by rw [e]; omega⟩
theorem ss_IV_sub {x y : Int32} {a c : ss_F} {b d : Nat} (hx : ss_IV x a b) (hy : ss_IV y c d) (h : b + d < 2 ^ 31 := by decide) : ss_IV (x - y) (a - c) (b + d) := by
  obtain ⟨rfl, h1⟩ := hx
  obtain ⟨rfl, h2⟩ := hy
  have e := Jvm.Kit.i32_sub (x := x) (y := y) (by omega) (by omega)
  exact ⟨by rw [e, ss_z_sub], by rw [e]; omega⟩
theorem ss_IV_neg {x : Int32} {a : ss_F} {b : Nat} (hx : ss_IV x a b) (h : b < 2 ^ 31 := by decide) : ss_IV (-x) (-a) b := by
  obtain ⟨rfl, h1⟩ := hx
  have e := Jvm.Kit.i32_neg (x := x) (by omega)
  exact ⟨by rw [e, ss_z_neg], by rw [e]; omega⟩
theorem ss_abs_mul {x y : Int} {b d : Nat} (h1 : x.natAbs ≤ b) (h2 : y.natAbs ≤ d) : (x * y).natAbs ≤ b * d := by
  rw [Int.natAbs_mul]
  exact Nat.mul_le_mul h1 h2
theorem ss_IV_mul {x y : Int32} {a c : ss_F} {b d : Nat} (hx : ss_IV x a b) (hy : ss_IV y c d) (h : b * d < 2 ^ 31 := by decide) : ss_IV (x * y) (a * c) (b * d) := by
  obtain ⟨rfl, h1⟩ := hx
  obtain ⟨rfl, h2⟩ := hy
  have h3 := ss_abs_mul h1 h2
  generalize b * d = m at h h3
  have e : (x * y).toInt = x.toInt * y.toInt := by
    apply Jvm.Kit.i32_mul
    · generalize x.toInt * y.toInt = t at h3; omega
    · generalize x.toInt * y.toInt = t at h3; omega
  exact ⟨by rw [e, ss_z_mul], by rw [e]; exact h3⟩
theorem ss_IV_L {x : Int32} {a : ss_F} {b : Nat} (h : ss_IV x a b) : ss_LV x.toInt64 a b := by
  unfold ss_LV
  rw [Jvm.Kit.i64_of_i32]
  exact h
theorem ss_LV_add {x y : Int64} {a c : ss_F} {b d : Nat} (hx : ss_LV x a b) (hy : ss_LV y c d) (h : b + d < 2 ^ 62 := by decide) : ss_LV (x + y) (a + c) (b + d) := by
  obtain ⟨rfl, h1⟩ := hx
  obtain ⟨rfl, h2⟩ := hy
  have e := Jvm.Kit.i64_add (x := x) (y := y) (by omega) (by omega)
  exact ⟨by rw [e, ss_z_add], by rw [e]; omega⟩
theorem ss_LV_sub {x y : Int64} {a c : ss_F} {b d : Nat} (hx : ss_LV x a b) (hy : ss_LV y c d) (h : b + d < 2 ^ 62 := by decide) : ss_LV (x - y) (a - c) (b + d) := by
  obtain ⟨rfl, h1⟩ := hx
  obtain ⟨rfl, h2⟩ := hy
  have e := Jvm.Kit.i64_sub (x := x) (y := y) (by omega) (by omega)
  exact ⟨by rw [e, ss_z_sub], by rw [e]; omega⟩
theorem ss_LV_neg {x : Int64} {a : ss_F} {b : Nat} (hx : ss_LV x a b) (h : b < 2 ^ 62 := by decide) : ss_LV (-x) (-a) b := by
  obtain ⟨rfl, h1⟩ := hx
  have e := Jvm.Kit.i64_neg (x := x) (by omega)
  exact ⟨by rw [e, ss_z_neg], by rw [e]; omega⟩
theorem ss_LV_mul {x y : Int64} {a c : ss_F} {b d : Nat} (hx : ss_LV x a b) (hy : ss_LV y c d) (h : b * d < 2 ^ 62 := by decide) : ss_LV (x * y) (a * c) (b * d) := by
  obtain ⟨rfl, h1⟩ := hx
  obtain ⟨rfl, h2⟩ := hy
  have h3 := ss_abs_mul h1 h2
  generalize b * d = m at h h3
  have e : (x * y).toInt = x.toInt * y.toInt := by
    apply Jvm.Kit.i64_mul
    · generalize x.toInt * y.toInt = t at h3; omega
    · generalize x.toInt * y.toInt = t at h3; omega
  exact ⟨by rw [e, ss_z_mul], by rw [e]; exact h3⟩
theorem ss_LV_0 : ss_LV 0 0 0 := ⟨by decide, by decide⟩
theorem ss_LV_m1 : ss_LV (-1) (-1) 1 := ⟨by decide, by decide⟩
/-- the remainder of a long, as the divisor leaves it: two cases by its sign -/
theorem ss_tm (V : Int) : (0 ≤ V.tmod 12289 → V.tmod 12289 = V % 12289) ∧ (V.tmod 12289 < 0 → V.tmod 12289 + 12289 = V % 12289) := by
  by_cases h : 0 ≤ V
  · rw [Int.tmod_eq_emod_of_nonneg h]
    omega
  · have e : V.tmod 12289 = -((-V) % 12289) := by
      rw [← Int.tmod_eq_emod_of_nonneg (a := -V) (b := 12289) (by omega), Int.neg_tmod, Int.neg_neg]
    rw [e]
    omega
