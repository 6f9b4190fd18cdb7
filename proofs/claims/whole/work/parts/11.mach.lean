/-! the remainders as they are printed, indices, bounds -/
theorem ss_rem64 (v : Int64) : (v - v / 12289 * 12289).toInt = v.toInt.tmod 12289 := by
  rw [Jvm.Kit.i64_rem]
  rfl
theorem ss_red {v : Int64} {a : ss_F} {b : Nat} (h : ss_LV v a b) : (0 ≤ (v - v / 12289 * 12289).toInt32 → (v - v / 12289 * 12289).toInt32 = ss_e a) ∧ (¬ 0 ≤ (v - v / 12289 * 12289).toInt32 → (v - v / 12289 * 12289).toInt32 + 12289 = ss_e a) := by
  obtain ⟨rfl, _⟩ := h
  have e1 := ss_rem64 v
  have tb := tmod_bounds (a := v.toInt) (M := 12289) (by decide)
  have t := ss_tm v.toInt
  have e2 : (v - v / 12289 * 12289).toInt32.toInt = v.toInt.tmod 12289 := by
    rw [Jvm.Kit.i32_of_i64 (by rw [e1]; omega) (by rw [e1]; omega), e1]
  generalize (v - v / 12289 * 12289).toInt32 = r at e2
  have c : (12289 : Int32).toInt = 12289 := by decide
  refine ⟨fun h0 => ?_, fun h0 => ?_⟩
  · rw [Jvm.Kit.i32_nonneg, e2] at h0
    apply Int32.toInt_inj.mp
    rw [e2, ss_e_toInt, ss_z_val, t.1 h0]
    omega
  · rw [Jvm.Kit.i32_nonneg, e2] at h0
    apply Int32.toInt_inj.mp
    rw [Jvm.Kit.i32_add (by rw [e2, c]; omega) (by rw [e2, c]; omega), e2, c, ss_e_toInt, ss_z_val, t.2 (by omega)]
    omega
theorem ss_redY {v : Int64} {a : ss_F} {b : Nat} (h : ss_LV v a b) : (0 ≤ (v - v / 12289 * 12289) → (v - v / 12289 * 12289).toInt32 = ss_e a) ∧ (¬ 0 ≤ (v - v / 12289 * 12289) → ((v - v / 12289 * 12289) + 12289).toInt32 = ss_e a) := by
  obtain ⟨rfl, _⟩ := h
  have e1 := ss_rem64 v
  have tb := tmod_bounds (a := v.toInt) (M := 12289) (by decide)
  have t := ss_tm v.toInt
  generalize (v - v / 12289 * 12289) = r at e1
  have c : (12289 : Int64).toInt = 12289 := by decide
  refine ⟨fun h0 => ?_, fun h0 => ?_⟩
  · rw [Jvm.Kit.i64_nonneg, e1] at h0
    apply Int32.toInt_inj.mp
    rw [Jvm.Kit.i32_of_i64 (by omega) (by omega), e1, ss_e_toInt, ss_z_val, t.1 h0]
    omega
  · rw [Jvm.Kit.i64_nonneg, e1] at h0
    have e3 : (r + 12289).toInt = v.toInt.tmod 12289 + 12289 := by
      rw [Jvm.Kit.i64_add (by rw [e1, c]; omega) (by rw [e1, c]; omega), e1, c]
    apply Int32.toInt_inj.mp
    rw [Jvm.Kit.i32_of_i64 (by omega) (by omega), e3, ss_e_toInt, ss_z_val, t.2 (by omega)]
    omega
theorem ss_ix (s i : Nat) : nI s * 32 + nI i = nI (32 * s + i) := by
  rw [show (32 : Int32) = nI 32 from rfl, pk_mul, nI_add, Nat.mul_comm]
theorem ss_iy (s i : Nat) : 32 * nI s + nI i = nI (32 * s + i) := by
  rw [show (32 : Int32) = nI 32 from rfl, pk_mul, nI_add]
theorem ss_i0 (s : Nat) : nI s * 32 = nI (32 * s + 0) := by
  rw [show (32 : Int32) = nI 32 from rfl, pk_mul, Nat.mul_comm, Nat.add_zero]
theorem ss_cl {k : Nat} (h : k < 2 ^ 31) : (nI k).toNatClampNeg = k := nI_clamp h
theorem ss_IV_any (x : Int32) : ss_IV x (ss_z x.toInt) (2 ^ 31) := ⟨rfl, by have := x.le_toInt; have := x.toInt_lt; omega⟩
/-- an int that is a series' number, or a place -/
theorem ss_rg {x : Int32} {b : Nat} (h0 : 0 ≤ x) (hb : x < nI b) (hb2 : b < 2 ^ 31) : ∃ j : Nat, j < b ∧ x = nI j := by
  obtain ⟨j, hj, rfl⟩ := nI_of (x := x) (Int32.not_lt.mpr h0)
  exact ⟨j, (nI_ltI hj hb2).mp hb, rfl⟩
