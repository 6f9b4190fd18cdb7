/-! the numbers modulo 12289: residues of whole numbers, powers, inverses -/
abbrev ss_F : Type := Fin 12289
def ss_z (x : Int) : ss_F := ⟨(x % 12289).toNat, by omega⟩
def ss_n (n : Nat) : ss_F := ⟨n % 12289, Nat.mod_lt _ (by decide)⟩
theorem ss_z_val (x : Int) : (ss_z x).val = (x % 12289).toNat := rfl
theorem ss_n_val (n : Nat) : (ss_n n).val = n % 12289 := rfl
theorem ss_lt (a : ss_F) : a.val < 12289 := a.isLt
theorem ss_nz (n : Nat) : ss_z (n : Int) = ss_n n := by
  apply Fin.ext
  rw [ss_z_val, ss_n_val]
  omega
theorem ss_z_add (x y : Int) : ss_z (x + y) = ss_z x + ss_z y := by
  apply Fin.ext
  rw [Fin.val_add, ss_z_val, ss_z_val, ss_z_val]
  omega
theorem ss_z_sub (x y : Int) : ss_z (x - y) = ss_z x - ss_z y := by
  apply Fin.ext
  rw [Fin.val_sub, ss_z_val, ss_z_val, ss_z_val]
  omega
theorem ss_z_neg (x : Int) : ss_z (-x) = -ss_z x := by
  apply Fin.ext
  rw [Fin.val_neg', ss_z_val, ss_z_val]
  omega
theorem ss_n_add (x y : Nat) : ss_n (x + y) = ss_n x + ss_n y := by
  apply Fin.ext
  rw [Fin.val_add, ss_n_val, ss_n_val, ss_n_val]
  omega
theorem ss_n_mul (x y : Nat) : ss_n (x * y) = ss_n x * ss_n y := by
  apply Fin.ext
  rw [Fin.val_mul, ss_n_val, ss_n_val, ss_n_val]
  exact Nat.mul_mod x y 12289
theorem ss_n_of (a : ss_F) : ss_n a.val = a := by
  apply Fin.ext
  rw [ss_n_val]
  exact Nat.mod_eq_of_lt a.isLt
theorem ss_z_of (a : ss_F) : ss_z (a.val : Int) = a := by rw [ss_nz, ss_n_of]
theorem ss_z_mul (x y : Int) : ss_z (x * y) = ss_z x * ss_z y := by
  obtain ⟨a, ha⟩ : ∃ a : Nat, x % 12289 = (a : Int) := ⟨(x % 12289).toNat, by omega⟩
  obtain ⟨b, hb⟩ : ∃ b : Nat, y % 12289 = (b : Int) := ⟨(y % 12289).toNat, by omega⟩
  have ex : ss_z x = ss_n a := by apply Fin.ext; rw [ss_z_val, ss_n_val]; omega
  have ey : ss_z y = ss_n b := by apply Fin.ext; rw [ss_z_val, ss_n_val]; omega
  rw [ex, ey, ← ss_n_mul]
  apply Fin.ext
  rw [ss_z_val, ss_n_val, Int.mul_emod, ha, hb]
  have e : ((a : Int) * (b : Int)) = ((a * b : Nat) : Int) := (Int.natCast_mul a b).symm
  rw [e]
  omega
theorem ss_z0 : ss_z 0 = 0 := by decide +kernel
theorem ss_z1 : ss_z 1 = 1 := by decide +kernel
theorem ss_n0 : ss_n 0 = 0 := by decide +kernel
theorem ss_n1 : ss_n 1 = 1 := by decide +kernel
theorem ss_n_succ (n : Nat) : ss_n (n + 1) = ss_n n + 1 := by rw [ss_n_add, ss_n1]
theorem ss_n_small {n : Nat} (h : n < 12289) : (ss_n n).val = n := Nat.mod_eq_of_lt h
theorem ss_n_ne {n : Nat} (h0 : 0 < n) (h : n < 12289) : ss_n n ≠ 0 := by
  intro e
  have := congrArg Fin.val e
  rw [ss_n_small h] at this
  have z : (0 : ss_F).val = 0 := rfl
  omega
def ss_p (x : ss_F) : Nat → ss_F
  | 0 => 1
  | n + 1 => ss_p x n * x
theorem ss_p0 (x : ss_F) : ss_p x 0 = 1 := rfl
theorem ss_ps (x : ss_F) (n : Nat) : ss_p x (n + 1) = ss_p x n * x := rfl
theorem ss_p1 (x : ss_F) : ss_p x 1 = x := by
  rw [ss_ps, ss_p0]
  grobner
theorem ss_p_add (x : ss_F) (m n : Nat) : ss_p x (m + n) = ss_p x m * ss_p x n := by
  induction n with
  | zero => rw [Nat.add_zero, ss_p0]; grobner
  | succ n ih => rw [← Nat.add_assoc, ss_ps, ss_ps, ih]; grobner
theorem ss_p_mulb (x y : ss_F) (n : Nat) : ss_p (x * y) n = ss_p x n * ss_p y n := by
  induction n with
  | zero => rw [ss_p0, ss_p0, ss_p0]; grobner
  | succ n ih => rw [ss_ps, ss_ps, ss_ps, ih]; grobner
theorem ss_p_one (n : Nat) : ss_p 1 n = 1 := by
  induction n with
  | zero => rfl
  | succ n ih => rw [ss_ps, ih]; grobner
theorem ss_p_mul (x : ss_F) (m n : Nat) : ss_p x (m * n) = ss_p (ss_p x m) n := by
  induction n with
  | zero => rw [Nat.mul_zero, ss_p0, ss_p0]
  | succ n ih => rw [Nat.mul_succ, ss_p_add, ih, ss_ps]
theorem ss_p_zero {n : Nat} (h : 0 < n) : ss_p 0 n = 0 := by
  obtain ⟨k, rfl⟩ : ∃ k, n = k + 1 := ⟨n - 1, by omega⟩
  rw [ss_ps]
  grobner
/-- the power by squaring, as the component walks it -/
def ss_pw : Nat → Nat → ss_F → ss_F → ss_F
  | 0, _, a, _ => a
  | k + 1, e, a, q => if e = 0 then a else ss_pw k (e / 2) (if e % 2 = 1 then a * q else a) (q * q)
theorem ss_pw_eq : ∀ (k e : Nat) (a q : ss_F), e < 2 ^ k → ss_pw k e a q = a * ss_p q e := by
  intro k
  induction k with
  | zero =>
    intro e a q h
    have : e = 0 := by omega
    subst this
    show a = a * ss_p q 0
    rw [ss_p0]
    grobner
  | succ k ih =>
    intro e a q h
    show (if e = 0 then a else ss_pw k (e / 2) (if e % 2 = 1 then a * q else a) (q * q)) = _
    by_cases h0 : e = 0
    · rw [if_pos h0, h0, ss_p0]
      grobner
    · rw [if_neg h0, ih _ _ _ (by rw [Nat.pow_succ] at h; omega)]
      have e2 : ss_p q (2 * (e / 2)) = ss_p (q * q) (e / 2) := by
        rw [ss_p_mul]
        congr 1
        rw [ss_ps, ss_p1]
      by_cases h1 : e % 2 = 1
      · rw [if_pos h1]
        have e3 : e = 2 * (e / 2) + 1 := by omega
        have e4 : ss_p q e = ss_p q (2 * (e / 2)) * q := by
          conv => lhs; rw [e3]
          rw [ss_ps]
        rw [e4, e2]
        grobner
      · rw [if_neg h1]
        have e3 : e = 2 * (e / 2) := by omega
        have e4 : ss_p q e = ss_p q (2 * (e / 2)) := by
          conv => lhs; rw [e3]
        rw [e4, e2]
/-- the inverse: the power 12287 -/
def ss_i (a : ss_F) : ss_F := ss_p a 12287
theorem ss_n_mod (n : Nat) : ss_n (n % 12289) = ss_n n := by
  apply Fin.ext
  rw [ss_n_val, ss_n_val]
  exact Nat.mod_mod n 12289
/-- repeated squaring, of naturals -/
def ss_cs : Nat → Nat → Nat
  | 0, q => q
  | k + 1, q => ss_cs k (q * q % 12289)
theorem ss_cs_eq : ∀ k q : Nat, ss_n (ss_cs k q) = ss_p (ss_n q) (2 ^ k) := by
  intro k
  induction k with
  | zero =>
    intro q
    show ss_n q = ss_p (ss_n q) 1
    rw [ss_p1]
  | succ k ih =>
    intro q
    show ss_n (ss_cs k (q * q % 12289)) = _
    rw [ih, ss_n_mod, ss_n_mul, Nat.pow_succ, Nat.mul_comm (2 ^ k) 2, ss_p_mul]
    congr 1
    rw [ss_ps, ss_p1]
theorem ss_base : ∀ a, a < 111 → a = 0 ∨ ss_cs 12 (a * a * a % 12289) = 1 := by decide +kernel
theorem ss_div : ∀ a, a < 111 → a < 2 ∨ 12289 % a ≠ 0 := by decide +kernel
theorem ss_m1 : ss_p (-1) 12288 = 1 := by
  have m : ss_p (-1) 12288 = ss_p (ss_p (-1) 2) 6144 := ss_p_mul (-1) 2 6144
  rw [m]
  have e : ss_p (-1) 2 = 1 := by
    rw [ss_ps, ss_p1]
    grobner
  rw [e, ss_p_one]
theorem ss_prime {a : Nat} (h2 : 2 ≤ a) (h : a < 12289) : 12289 % a ≠ 0 := by
  by_cases hb : a < 111
  · rcases ss_div a hb with h' | h'
    · omega
    · exact h'
  · intro h0
    have e : a * (12289 / a) = 12289 := by have := Nat.div_add_mod 12289 a; omega
    have hq : 12289 / a < 111 := by
      apply Nat.div_lt_of_lt_mul
      have : 111 * 111 ≤ a * 111 := Nat.mul_le_mul_right 111 (by omega)
      omega
    generalize 12289 / a = q at e hq
    rcases ss_div q hq with h' | h'
    · have : q = 0 ∨ q = 1 := by omega
      rcases this with rfl | rfl <;> omega
    · exact h' (by rw [← e]; exact Nat.mul_mod_left a q)
theorem ss_fer : ∀ n a : Nat, a < n → 0 < a → a < 12289 → ss_p (ss_n a) 12288 = 1 := by
  intro n
  induction n with
  | zero => intro a h; omega
  | succ n ih =>
    intro a hn h0 h
    by_cases hb : a < 111
    · rcases ss_base a hb with h' | h'
      · omega
      · have e := ss_cs_eq 12 (a * a * a % 12289)
        rw [h', ss_n1, ss_n_mod, ss_n_mul, ss_n_mul] at e
        have e3 : ss_p (ss_n a) 3 = ss_n a * ss_n a * ss_n a := by
          rw [ss_ps, ss_ps, ss_p1]
        have m : ss_p (ss_n a) 12288 = ss_p (ss_p (ss_n a) 3) (2 ^ 12) := ss_p_mul (ss_n a) 3 (2 ^ 12)
        rw [m, e3, ← e]
    · have hr : 12289 % a ≠ 0 := ss_prime (by omega) h
      have hra : 12289 % a < a := Nat.mod_lt _ (by omega)
      have e : a * (12289 / a) + 12289 % a = 12289 := Nat.div_add_mod 12289 a
      have hq : 12289 / a < 111 := by
        apply Nat.div_lt_of_lt_mul
        have : 111 * 111 ≤ a * 111 := Nat.mul_le_mul_right 111 (by omega)
        omega
      have hq0 : 0 < 12289 / a := Nat.div_pos (by omega) (by omega)
      generalize 12289 / a = q at e hq hq0
      generalize 12289 % a = r at e hr hra
      have iq := ih q (by omega) hq0 (by omega)
      have ir := ih r (by omega) (by omega) (by omega)
      have e2 : ss_n a * ss_n q = (-1) * ss_n r := by
        have := congrArg ss_n e
        rw [ss_n_add, ss_n_mul] at this
        have z : ss_n 12289 = 0 := by decide +kernel
        rw [z] at this
        grobner
      have e3 := congrArg (fun t => ss_p t 12288) e2
      rw [ss_p_mulb, ss_p_mulb, iq, ir, ss_m1] at e3
      grobner
theorem ss_i_mul {a : ss_F} (h : a ≠ 0) : a * ss_i a = 1 := by
  have h0 : 0 < a.val := by
    rcases Nat.eq_zero_or_pos a.val with z | z
    · exact absurd (Fin.ext z) h
    · exact z
  have e := ss_fer (a.val + 1) a.val (by omega) h0 a.isLt
  rw [ss_n_of] at e
  have m : ss_p a 12288 = ss_p a 12287 * a := ss_ps a 12287
  rw [m] at e
  show a * ss_p a 12287 = 1
  generalize ss_p a 12287 = c at e
  grobner
theorem ss_i_uniq {a b : ss_F} (h : a * b = 1) : b = ss_i a := by
  have ha : a ≠ 0 := by
    intro z
    rw [z] at h
    have : (0 : ss_F) * b = 0 := by grobner
    rw [this] at h
    exact absurd h (by decide)
  have e := ss_i_mul ha
  generalize ss_i a = c at e
  grobner
theorem ss_nzd {a b : ss_F} (ha : a ≠ 0) (h : a * b = 0) : b = 0 := by
  have e := ss_i_mul ha
  generalize ss_i a = c at e
  grobner
