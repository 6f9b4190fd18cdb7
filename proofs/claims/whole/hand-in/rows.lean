section
theorem pk_us {f : Nat → Int32} {k : Nat} {x : Int32} : upd f k x k = x := if_pos rfl
theorem pk_un {f : Nat → Int32} {k j : Nat} {x : Int32} (h : j ≠ k) : upd f k x j = f j := if_neg h
theorem pk_sub {a b : Nat} (h : b ≤ a) : nI a - nI b = nI (a - b) := by
  obtain ⟨c, rfl⟩ : ∃ c, a = c + b := ⟨a - b, by omega⟩
  rw [← nI_add, Int32.add_sub_cancel, Nat.add_sub_cancel]
theorem pk_m1 (n : Nat) : nI (n + 1) + (-1) = nI n := by
  rw [← nI_1, Int32.add_assoc, show (1 : Int32) + (-1) = 0 from rfl, Int32.add_zero]
theorem pk_mul (a b : Nat) : nI a * nI b = nI (a * b) := (Int32.ofNat_mul a b).symm
theorem pk_div {a d : Nat} (ha : a < 2 ^ 31) (h0 : 0 < d) (hd : d < 2 ^ 31) : nI a / nI d = nI (a / d) := by
  apply Int32.toInt_inj.mp
  rw [lg_idiv_nonneg (by rw [nI_toInt ha]; omega) (by rw [nI_toInt hd]; omega), nI_toInt ha, nI_toInt hd, nI_toInt (Nat.lt_of_le_of_lt (Nat.div_le_self a d) ha)]
  first | rfl | exact (Int.natCast_ediv _ _).symm
theorem pk_rem {a d : Nat} (ha : a < 2 ^ 31) (h0 : 0 < d) (hd : d < 2 ^ 31) : nI a - nI a / nI d * nI d = nI (a % d) := by
  rw [pk_div ha h0 hd, pk_mul, pk_sub (Nat.div_mul_le_self a d)]
  exact congrArg nI (by have := Nat.div_add_mod' a d; omega)
theorem pk_sub_toInt {a b : Nat} (ha : a < 2 ^ 30) (hb : b < 2 ^ 30) : (nI a - nI b).toInt = (a : Int) - b := by
  rw [Int32.toInt_sub, nI_toInt (by omega), nI_toInt (by omega)]
  exact Int.bmod_eq_of_le (by omega) (by omega)
theorem pk_sneg {a b : Nat} (hb : b < 2 ^ 30) (h : a < b) : nI a - nI b < 0 := by
  rw [Int32.lt_iff_toInt_lt, pk_sub_toInt (by omega) hb, show (0 : Int32).toInt = 0 from by decide]
  omega
theorem pk_ix (x : Int32) {n : Nat} (hn : n < 2 ^ 31) : x < 0 ∨ nI n ≤ x ∨ ∃ j : Nat, j < n ∧ x = nI j := by
  by_cases h : x < 0
  · exact Or.inl h
  · obtain ⟨j, hj, rfl⟩ := nI_of h
    by_cases h2 : j < n
    · exact Or.inr (Or.inr ⟨j, h2, rfl⟩)
    · exact Or.inr (Or.inl (nI_le (by omega) hj))
theorem pk_le {x y : Int32} {A B : Prop} (a b : Nat) (f : a ≤ b → A) (g : b < a → B) (hx : x = nI a := by rfl) (hy : y = nI b := by rfl) (ha : a < 2 ^ 31 := by omega) (hb : b < 2 ^ 31 := by omega) : (x ≤ y → A) ∧ (¬ x ≤ y → B) := by
  subst hx hy
  rw [nI_leI ha hb]
  exact ⟨f, fun z => g (by omega)⟩
theorem pk_lt {x y : Int32} {A B : Prop} (a b : Nat) (f : a < b → A) (g : b ≤ a → B) (hx : x = nI a := by rfl) (hy : y = nI b := by rfl) (ha : a < 2 ^ 31 := by omega) (hb : b < 2 ^ 31 := by omega) : (x < y → A) ∧ (¬ x < y → B) := by
  subst hx hy
  rw [nI_ltI ha hb]
  exact ⟨f, fun z => g (by omega)⟩
theorem pk_eq {x y : Int32} {A B : Prop} (a b : Nat) (f : a = b → A) (g : a ≠ b → B) (hx : x = nI a := by rfl) (hy : y = nI b := by rfl) (ha : a < 2 ^ 31 := by omega) (hb : b < 2 ^ 31 := by omega) : (x = y → A) ∧ (¬ x = y → B) := by
  subst hx hy
  rw [nI_eq ha hb]
  exact ⟨f, g⟩
theorem pk_in {x : Int32} (n N : Nat) (h : n < N) (hx : x = nI n := by rfl) (hN : N < 2 ^ 31 := by omega) : vp_in x N := by
  subst hx
  exact vp_in_nI h hN
theorem pk_cl {x : Int32} (n : Nat) (hx : x = nI n := by rfl) (h : n < 2 ^ 31 := by omega) : x.toNatClampNeg = n := by
  subst hx
  exact nI_clamp h
theorem pk_tn {n : Nat} (h : n < 2 ^ 32) : (nI n).toBitVec.toNat = n := Nat.mod_eq_of_lt h
theorem pk_and (x : Int32) {m : Int32} (k : Nat) (hm : m.toBitVec.toNat = 2 ^ k - 1) : x &&& m = nI (x.toBitVec.toNat % 2 ^ k) := by
  apply Int32.toBitVec_inj.mp
  apply BitVec.eq_of_toNat_eq
  rw [Int32.toBitVec_and, BitVec.toNat_and, hm, Nat.and_two_pow_sub_one_eq_mod]
  show _ = (BitVec.ofNat 32 _).toNat
  rw [BitVec.toNat_ofNat]
  exact (Nat.mod_eq_of_lt (Nat.lt_of_le_of_lt (Nat.mod_le _ _) x.toBitVec.isLt)).symm
theorem pk_andN {n : Nat} (h : n < 2 ^ 32) {m : Int32} (k : Nat) (hm : m.toBitVec.toNat = 2 ^ k - 1) : nI n &&& m = nI (n % 2 ^ k) := by
  rw [pk_and _ k hm, pk_tn h]
theorem pk_andE (x : Int32) {m : Int32} (k : Nat) (hm : m.toBitVec.toNat = 2 ^ k - 1) : ∃ j : Nat, j < 2 ^ k ∧ x &&& m = nI j := ⟨_, Nat.mod_lt _ (Nat.two_pow_pos k), pk_and x k hm⟩
theorem pk_andIn (x : Int32) {m : Int32} (k : Nat) (hm : m.toBitVec.toNat = 2 ^ k - 1) (hk : k ≤ 30) : vp_in (x &&& m) (2 ^ k) := by
  obtain ⟨j, hj, e⟩ := pk_andE x k hm
  rw [e]
  exact vp_in_nI hj (Nat.lt_of_le_of_lt (Nat.pow_le_pow_right (by decide) hk) (by decide))
theorem pk_shl (a s : Int32) (k : Nat) (hs : (s.toBitVec.smod 32).toNat = k) : (a <<< s).toBitVec.toNat = a.toBitVec.toNat * 2 ^ k % 2 ^ 32 := by
  show (a.toBitVec <<< (s.toBitVec.smod 32).toNat).toNat = _
  rw [hs, BitVec.toNat_shiftLeft, Nat.shiftLeft_eq]
theorem pk_shlN {n : Nat} (s : Int32) (k : Nat) (hs : (s.toBitVec.smod 32).toNat = k) (h : n * 2 ^ k < 2 ^ 32) : nI n <<< s = nI (n * 2 ^ k) := by
  apply Int32.toBitVec_inj.mp
  apply BitVec.eq_of_toNat_eq
  have hn : n < 2 ^ 32 := Nat.lt_of_le_of_lt (Nat.le_mul_of_pos_right n (Nat.two_pow_pos k)) h
  rw [pk_shl _ _ k hs, pk_tn hn, pk_tn h, Nat.mod_eq_of_lt h]
theorem pk_shr (a s : Int32) (k : Nat) (hs : (s.toBitVec.smod 32).toNat = k) : (a >>> s).toInt = a.toInt >>> k := by
  show (a.toBitVec.sshiftRight (s.toBitVec.smod 32).toNat).toInt = _
  rw [hs, BitVec.toInt_sshiftRight]
  rfl
theorem pk_shrN {n : Nat} (h : n < 2 ^ 31) (s : Int32) (k : Nat) (hs : (s.toBitVec.smod 32).toNat = k) : nI n >>> s = nI (n / 2 ^ k) := by
  apply Int32.toInt_inj.mp
  have h2 : n / 2 ^ k ≤ n := Nat.div_le_self _ _
  rw [pk_shr _ _ k hs, nI_toInt h, nI_toInt (by omega), Int.shiftRight_eq_div_pow]
  rfl
theorem pk_lT {n : Nat} (h : n < 2 ^ 63) : (lN n).toInt = (n : Int) := lg_ofNat_toInt h
theorem pk_lLT {a b : Nat} (ha : a < 2 ^ 63) (hb : b < 2 ^ 63) : lN a < lN b ↔ a < b := by
  rw [Int64.lt_iff_toInt_lt, pk_lT ha, pk_lT hb]; omega
theorem pk_lLE {a b : Nat} (ha : a < 2 ^ 63) (hb : b < 2 ^ 63) : lN a ≤ lN b ↔ a ≤ b := by
  rw [Int64.le_iff_toInt_le, pk_lT ha, pk_lT hb]; omega
theorem pk_lEQ {a b : Nat} (ha : a < 2 ^ 63) (hb : b < 2 ^ 63) : lN a = lN b ↔ a = b := by
  rw [← Int64.toInt_inj, pk_lT ha, pk_lT hb]; omega
theorem pk_lOf {x : Int64} (h : ¬ x < 0) : ∃ k : Nat, k < 2 ^ 63 ∧ x = lN k := by
  rw [Int64.lt_iff_toInt_lt] at h
  have h0 : (0 : Int64).toInt = 0 := by decide
  have hx := Int64.toInt_lt x
  refine ⟨x.toInt.toNat, by omega, Int64.toInt_inj.mp ?_⟩
  rw [pk_lT (by omega)]
  omega
theorem pk_lDiv {a b : Nat} (ha : a < 2 ^ 63) (h0 : 0 < b) (hb : b < 2 ^ 63) : lN a / lN b = lN (a / b) := by
  apply Int64.toInt_inj.mp
  rw [lg_ldiv_nonneg (by rw [pk_lT ha]; omega) (by rw [pk_lT hb]; omega), pk_lT ha, pk_lT hb, pk_lT (Nat.lt_of_le_of_lt (Nat.div_le_self a b) ha)]
  rfl
theorem pk_lRem {a b : Nat} (ha : a < 2 ^ 63) (h0 : 0 < b) (hb : b < 2 ^ 63) : lN a - lN a / lN b * lN b = lN (a % b) := by
  rw [pk_lDiv ha h0 hb, lN_mul, lN_sub (Nat.div_mul_le_self a b)]
  exact congrArg lN (by have := Nat.div_add_mod' a b; omega)
theorem pk_loop {σ : Type} (W : Nat → Nat → σ → Prop) (I : Nat → σ → Prop) (e i0 : Nat) (s : σ) (hi : i0 ≤ e) (h0 : I i0 s) (hx : ∀ n s, I e s → W (n + 1) e s)
    (hs : ∀ n i s, i < e → I i s → (∀ s', I (i + 1) s' → W n (i + 1) s') → W (n + 1) i s) : ∃ n, W n i0 s :=
  ⟨e + 1, loop_i W I e hx hs (e + 1) i0 s hi (by omega) h0⟩
theorem pk_loopD {σ : Type} (W : Nat → Nat → σ → Prop) (I : Nat → σ → Prop) (hx : ∀ n s, I 0 s → W (n + 1) 0 s)
    (hs : ∀ n i s, I (i + 1) s → (∀ s', I i s' → W n i s') → W (n + 1) (i + 1) s) : ∀ (e : Nat) (s : σ), I e s → W (e + 1) e s := by
  intro e
  induction e with
  | zero => exact fun s h => hx 0 s h
  | succ e ih => exact fun s h => hs (e + 1) e s h (fun s' h' => ih s' h')
theorem nx_xor (a b : Nat) : nI a ^^^ nI b = nI (a ^^^ b) := by
  apply Int32.toBitVec_inj.1
  show BitVec.ofNat 32 a ^^^ BitVec.ofNat 32 b = BitVec.ofNat 32 (a ^^^ b)
  apply BitVec.eq_of_getLsbD_eq
  intro i hi
  simp [hi]
end
section
/-! the numbers modulo 12289: residues of whole numbers, powers, inverses -/
abbrev ss_F : Type := Fin 12289
def ss_z (x : Int) : ss_F := ⟨(x % 12289).toNat, by omega⟩
def ss_n (n : Nat) : ss_F := ⟨n % 12289, Nat.mod_lt _ (by decide)⟩
theorem ss_z_val (x : Int) : (ss_z x).val = (x % 12289).toNat := rfl
theorem ss_n_val (n : Nat) : (ss_n n).val = n % 12289 := rfl
theorem ss_lt (a : ss_F) : a.val < 12289 := a.isLt
theorem ss_nz (n : Nat) : ss_z (n : Int) = ss_n n := by
  apply Fin.ext
  rw [ss_z_val, ss_n_val]
  omega
theorem ss_z_add (x y : Int) : ss_z (x + y) = ss_z x + ss_z y := by
  apply Fin.ext
  rw [Fin.val_add, ss_z_val, ss_z_val, ss_z_val]
  omega
theorem ss_z_sub (x y : Int) : ss_z (x - y) = ss_z x - ss_z y := by
  apply Fin.ext
  rw [Fin.val_sub, ss_z_val, ss_z_val, ss_z_val]
  omega
theorem ss_z_neg (x : Int) : ss_z (-x) = -ss_z x := by
  apply Fin.ext
  rw [Fin.val_neg', ss_z_val, ss_z_val]
  omega
theorem ss_n_add (x y : Nat) : ss_n (x + y) = ss_n x + ss_n y := by
  apply Fin.ext
  rw [Fin.val_add, ss_n_val, ss_n_val, ss_n_val]
  omega
theorem ss_n_mul (x y : Nat) : ss_n (x * y) = ss_n x * ss_n y := by
  apply Fin.ext
  rw [Fin.val_mul, ss_n_val, ss_n_val, ss_n_val]
  exact Nat.mul_mod x y 12289
theorem ss_n_of (a : ss_F) : ss_n a.val = a := by
  apply Fin.ext
  rw [ss_n_val]
  exact Nat.mod_eq_of_lt a.isLt
theorem ss_z_of (a : ss_F) : ss_z (a.val : Int) = a := by rw [ss_nz, ss_n_of]
theorem ss_z_mul (x y : Int) : ss_z (x * y) = ss_z x * ss_z y := by
  obtain ⟨a, ha⟩ : ∃ a : Nat, x % 12289 = (a : Int) := ⟨(x % 12289).toNat, by omega⟩
  obtain ⟨b, hb⟩ : ∃ b : Nat, y % 12289 = (b : Int) := ⟨(y % 12289).toNat, by omega⟩
  have ex : ss_z x = ss_n a := by apply Fin.ext; rw [ss_z_val, ss_n_val]; omega
  have ey : ss_z y = ss_n b := by apply Fin.ext; rw [ss_z_val, ss_n_val]; omega
  rw [ex, ey, ← ss_n_mul]
  apply Fin.ext
  rw [ss_z_val, ss_n_val, Int.mul_emod, ha, hb]
  have e : ((a : Int) * (b : Int)) = ((a * b : Nat) : Int) := (Int.natCast_mul a b).symm
  rw [e]
  omega
theorem ss_z0 : ss_z 0 = 0 := by decide +kernel
theorem ss_z1 : ss_z 1 = 1 := by decide +kernel
theorem ss_n0 : ss_n 0 = 0 := by decide +kernel
theorem ss_n1 : ss_n 1 = 1 := by decide +kernel
theorem ss_n_succ (n : Nat) : ss_n (n + 1) = ss_n n + 1 := by rw [ss_n_add, ss_n1]
theorem ss_n_small {n : Nat} (h : n < 12289) : (ss_n n).val = n := Nat.mod_eq_of_lt h
theorem ss_n_ne {n : Nat} (h0 : 0 < n) (h : n < 12289) : ss_n n ≠ 0 := by
  intro e
  have := congrArg Fin.val e
  rw [ss_n_small h] at this
  have z : (0 : ss_F).val = 0 := rfl
  omega
def ss_p (x : ss_F) : Nat → ss_F
  | 0 => 1
  | n + 1 => ss_p x n * x
theorem ss_p0 (x : ss_F) : ss_p x 0 = 1 := rfl
theorem ss_ps (x : ss_F) (n : Nat) : ss_p x (n + 1) = ss_p x n * x := rfl
theorem ss_p1 (x : ss_F) : ss_p x 1 = x := by
  rw [ss_ps, ss_p0]
  grobner
theorem ss_p_add (x : ss_F) (m n : Nat) : ss_p x (m + n) = ss_p x m * ss_p x n := by
  induction n with
  | zero => rw [Nat.add_zero, ss_p0]; grobner
  | succ n ih => rw [← Nat.add_assoc, ss_ps, ss_ps, ih]; grobner
theorem ss_p_mulb (x y : ss_F) (n : Nat) : ss_p (x * y) n = ss_p x n * ss_p y n := by
  induction n with
  | zero => rw [ss_p0, ss_p0, ss_p0]; grobner
  | succ n ih => rw [ss_ps, ss_ps, ss_ps, ih]; grobner
theorem ss_p_one (n : Nat) : ss_p 1 n = 1 := by
  induction n with
  | zero => rfl
  | succ n ih => rw [ss_ps, ih]; grobner
theorem ss_p_mul (x : ss_F) (m n : Nat) : ss_p x (m * n) = ss_p (ss_p x m) n := by
  induction n with
  | zero => rw [Nat.mul_zero, ss_p0, ss_p0]
  | succ n ih => rw [Nat.mul_succ, ss_p_add, ih, ss_ps]
theorem ss_p_zero {n : Nat} (h : 0 < n) : ss_p 0 n = 0 := by
  obtain ⟨k, rfl⟩ : ∃ k, n = k + 1 := ⟨n - 1, by omega⟩
  rw [ss_ps]
  grobner
/-- the power by squaring, as the component walks it -/
def ss_pw : Nat → Nat → ss_F → ss_F → ss_F
  | 0, _, a, _ => a
  | k + 1, e, a, q => if e = 0 then a else ss_pw k (e / 2) (if e % 2 = 1 then a * q else a) (q * q)
theorem ss_pw_eq : ∀ (k e : Nat) (a q : ss_F), e < 2 ^ k → ss_pw k e a q = a * ss_p q e := by
  intro k
  induction k with
  | zero =>
    intro e a q h
    have : e = 0 := by omega
    subst this
    show a = a * ss_p q 0
    rw [ss_p0]
    grobner
  | succ k ih =>
    intro e a q h
    show (if e = 0 then a else ss_pw k (e / 2) (if e % 2 = 1 then a * q else a) (q * q)) = _
    by_cases h0 : e = 0
    · rw [if_pos h0, h0, ss_p0]
      grobner
    · rw [if_neg h0, ih _ _ _ (by rw [Nat.pow_succ] at h; omega)]
      have e2 : ss_p q (2 * (e / 2)) = ss_p (q * q) (e / 2) := by
        rw [ss_p_mul]
        congr 1
        rw [ss_ps, ss_p1]
      by_cases h1 : e % 2 = 1
      · rw [if_pos h1]
        have e3 : e = 2 * (e / 2) + 1 := by omega
        have e4 : ss_p q e = ss_p q (2 * (e / 2)) * q := by
          conv => lhs; rw [e3]
          rw [ss_ps]
        rw [e4, e2]
        grobner
      · rw [if_neg h1]
        have e3 : e = 2 * (e / 2) := by omega
        have e4 : ss_p q e = ss_p q (2 * (e / 2)) := by
          conv => lhs; rw [e3]
        rw [e4, e2]
/-- the inverse: the power 12287 -/
def ss_i (a : ss_F) : ss_F := ss_p a 12287
theorem ss_n_mod (n : Nat) : ss_n (n % 12289) = ss_n n := by
  apply Fin.ext
  rw [ss_n_val, ss_n_val]
  exact Nat.mod_mod n 12289
/-- repeated squaring, of naturals -/
def ss_cs : Nat → Nat → Nat
  | 0, q => q
  | k + 1, q => ss_cs k (q * q % 12289)
theorem ss_cs_eq : ∀ k q : Nat, ss_n (ss_cs k q) = ss_p (ss_n q) (2 ^ k) := by
  intro k
  induction k with
  | zero =>
    intro q
    show ss_n q = ss_p (ss_n q) 1
    rw [ss_p1]
  | succ k ih =>
    intro q
    show ss_n (ss_cs k (q * q % 12289)) = _
    rw [ih, ss_n_mod, ss_n_mul, Nat.pow_succ, Nat.mul_comm (2 ^ k) 2, ss_p_mul]
    congr 1
    rw [ss_ps, ss_p1]
theorem ss_base : ∀ a, a < 111 → a = 0 ∨ ss_cs 12 (a * a * a % 12289) = 1 := by decide +kernel
theorem ss_div : ∀ a, a < 111 → a < 2 ∨ 12289 % a ≠ 0 := by decide +kernel
theorem ss_m1 : ss_p (-1) 12288 = 1 := by
  have m : ss_p (-1) 12288 = ss_p (ss_p (-1) 2) 6144 := ss_p_mul (-1) 2 6144
  rw [m]
  have e : ss_p (-1) 2 = 1 := by
    rw [ss_ps, ss_p1]
    grobner
  rw [e, ss_p_one]
theorem ss_prime {a : Nat} (h2 : 2 ≤ a) (h : a < 12289) : 12289 % a ≠ 0 := by
  by_cases hb : a < 111
  · rcases ss_div a hb with h' | h'
    · omega
    · exact h'
  · intro h0
    have e : a * (12289 / a) = 12289 := by have := Nat.div_add_mod 12289 a; omega
    have hq : 12289 / a < 111 := by
      apply Nat.div_lt_of_lt_mul
      have : 111 * 111 ≤ a * 111 := Nat.mul_le_mul_right 111 (by omega)
      omega
    generalize 12289 / a = q at e hq
    rcases ss_div q hq with h' | h'
    · have : q = 0 ∨ q = 1 := by omega
      rcases this with rfl | rfl <;> omega
    · exact h' (by rw [← e]; exact Nat.mul_mod_left a q)
theorem ss_fer : ∀ n a : Nat, a < n → 0 < a → a < 12289 → ss_p (ss_n a) 12288 = 1 := by
  intro n
  induction n with
  | zero => intro a h; omega
  | succ n ih =>
    intro a hn h0 h
    by_cases hb : a < 111
    · rcases ss_base a hb with h' | h'
      · omega
      · have e := ss_cs_eq 12 (a * a * a % 12289)
        rw [h', ss_n1, ss_n_mod, ss_n_mul, ss_n_mul] at e
        have e3 : ss_p (ss_n a) 3 = ss_n a * ss_n a * ss_n a := by
          rw [ss_ps, ss_ps, ss_p1]
        have m : ss_p (ss_n a) 12288 = ss_p (ss_p (ss_n a) 3) (2 ^ 12) := ss_p_mul (ss_n a) 3 (2 ^ 12)
        rw [m, e3, ← e]
    · have hr : 12289 % a ≠ 0 := ss_prime (by omega) h
      have hra : 12289 % a < a := Nat.mod_lt _ (by omega)
      have e : a * (12289 / a) + 12289 % a = 12289 := Nat.div_add_mod 12289 a
      have hq : 12289 / a < 111 := by
        apply Nat.div_lt_of_lt_mul
        have : 111 * 111 ≤ a * 111 := Nat.mul_le_mul_right 111 (by omega)
        omega
      have hq0 : 0 < 12289 / a := Nat.div_pos (by omega) (by omega)
      generalize 12289 / a = q at e hq hq0
      generalize 12289 % a = r at e hr hra
      have iq := ih q (by omega) hq0 (by omega)
      have ir := ih r (by omega) (by omega) (by omega)
      have e2 : ss_n a * ss_n q = (-1) * ss_n r := by
        have := congrArg ss_n e
        rw [ss_n_add, ss_n_mul] at this
        have z : ss_n 12289 = 0 := by decide +kernel
        rw [z] at this
        grobner
      have e3 := congrArg (fun t => ss_p t 12288) e2
      rw [ss_p_mulb, ss_p_mulb, iq, ir, ss_m1] at e3
      grobner
theorem ss_i_mul {a : ss_F} (h : a ≠ 0) : a * ss_i a = 1 := by
  have h0 : 0 < a.val := by
    rcases Nat.eq_zero_or_pos a.val with z | z
    · exact absurd (Fin.ext z) h
    · exact z
  have e := ss_fer (a.val + 1) a.val (by omega) h0 a.isLt
  rw [ss_n_of] at e
  have m : ss_p a 12288 = ss_p a 12287 * a := ss_ps a 12287
  rw [m] at e
  show a * ss_p a 12287 = 1
  generalize ss_p a 12287 = c at e
  grobner
theorem ss_i_uniq {a b : ss_F} (h : a * b = 1) : b = ss_i a := by
  have ha : a ≠ 0 := by
    intro z
    rw [z] at h
    have : (0 : ss_F) * b = 0 := by grobner
    rw [this] at h
    exact absurd h (by decide)
  have e := ss_i_mul ha
  generalize ss_i a = c at e
  grobner
theorem ss_nzd {a b : ss_F} (ha : a ≠ 0) (h : a * b = 0) : b = 0 := by
  have e := ss_i_mul ha
  generalize ss_i a = c at e
  grobner
end
section
/-! machine numbers and what they are modulo 12289: IV of an int, LV of a long; the number is the residue, the last place a bound -/
def ss_IV (x : Int32) (a : ss_F) (b : Nat) : Prop := ss_z x.toInt = a ∧ x.toInt.natAbs ≤ b
def ss_LV (x : Int64) (a : ss_F) (b : Nat) : Prop := ss_z x.toInt = a ∧ x.toInt.natAbs ≤ b
/-- an int that is not negative -/
def ss_NV (x : Int32) (a : ss_F) (b : Nat) : Prop := ∃ n : Nat, x = nI n ∧ ss_n n = a ∧ n ≤ b
/-- a residue as an int -/
def ss_e (a : ss_F) : Int32 := nI a.val
theorem ss_e_toInt (a : ss_F) : (ss_e a).toInt = (a.val : Int) := nI_toInt (by have := a.isLt; omega)
theorem ss_e_inj {a c : ss_F} (h : ss_e a = ss_e c) : a = c := by
  have := congrArg Int32.toInt h
  rw [ss_e_toInt, ss_e_toInt] at this
  exact Fin.ext (by omega)
theorem ss_e0 : ss_e 0 = 0 := by decide
theorem ss_e1 : ss_e 1 = 1 := by decide
theorem ss_e_eq0 (a : ss_F) : ss_e a = 0 ↔ a = 0 := ⟨fun h => ss_e_inj (h.trans ss_e0.symm), fun h => by rw [h, ss_e0]⟩
theorem ss_e_eq1 (a : ss_F) : ss_e a = 1 ↔ a = 1 := ⟨fun h => ss_e_inj (h.trans ss_e1.symm), fun h => by rw [h, ss_e1]⟩
theorem ss_NV_e (a : ss_F) : ss_NV (ss_e a) a 12288 := ⟨a.val, rfl, ss_n_of a, by have := a.isLt; omega⟩
theorem ss_NV_n (n : Nat) : ss_NV (nI n) (ss_n n) n := ⟨n, rfl, rfl, Nat.le_refl n⟩
theorem ss_NV_I {x : Int32} {a : ss_F} {b : Nat} (h : ss_NV x a b) (hb : b < 2 ^ 31) : ss_IV x a b := by
  obtain ⟨n, rfl, rfl, hn⟩ := h
  constructor
  · rw [nI_toInt (by omega), ss_nz]
  · rw [nI_toInt (by omega)]; omega
theorem ss_IV_e (a : ss_F) : ss_IV (ss_e a) a 12288 := ss_NV_I (ss_NV_e a) (by decide)
theorem ss_IV_n (n : Nat) (h : n < 2 ^ 31) : ss_IV (nI n) (ss_n n) n := ss_NV_I (ss_NV_n n) h
theorem ss_NV_add {x y : Int32} {a c : ss_F} {b d : Nat} (hx : ss_NV x a b) (hy : ss_NV y c d) : ss_NV (x + y) (a + c) (b + d) := by
  obtain ⟨m, rfl, rfl, hm⟩ := hx
  obtain ⟨n, rfl, rfl, hn⟩ := hy
  exact ⟨m + n, nI_add m n, ss_n_add m n, by omega⟩
theorem ss_NV_mul {x y : Int32} {a c : ss_F} {b d : Nat} (hx : ss_NV x a b) (hy : ss_NV y c d) : ss_NV (x * y) (a * c) (b * d) := by
  obtain ⟨m, rfl, rfl, hm⟩ := hx
  obtain ⟨n, rfl, rfl, hn⟩ := hy
  exact ⟨m * n, pk_mul m n, ss_n_mul m n, Nat.mul_le_mul hm hn⟩
/-- the remainder of an int that is not negative -/
theorem ss_NV_rem {x : Int32} {a : ss_F} {b : Nat} (h : ss_NV x a b) (hb : b < 2 ^ 31 := by decide) : x - x / 12289 * 12289 = ss_e a := by
  obtain ⟨n, rfl, rfl, hn⟩ := h
  exact pk_rem (d := 12289) (by omega) (by decide) (by decide)
theorem ss_IV_le {x : Int32} {a : ss_F} {b d : Nat} (h : ss_IV x a b) (hd : b ≤ d) : ss_IV x a d := ⟨h.1, Nat.le_trans h.2 hd⟩
theorem ss_LV_le {x : Int64} {a : ss_F} {b d : Nat} (h : ss_LV x a b) (hd : b ≤ d) : ss_LV x a d := ⟨h.1, Nat.le_trans h.2 hd⟩
theorem ss_IV_add {x y : Int32} {a c : ss_F} {b d : Nat} (hx : ss_IV x a b) (hy : ss_IV y c d) (h : b + d < 2 ^ 31 := by decide) : ss_IV (x + y) (a + c) (b + d) := by
  obtain ⟨rfl, h1⟩ := hx
  obtain ⟨rfl, h2⟩ := hy
  have e := Jvm.Kit.i32_add (x := x) (y := y) (by omega) (by omega)
  exact ⟨by rw [e, ss_z_add], by rw [e]; omega⟩
theorem ss_IV_sub {x y : Int32} {a c : ss_F} {b d : Nat} (hx : ss_IV x a b) (hy : ss_IV y c d) (h : b + d < 2 ^ 31 := by decide) : ss_IV (x - y) (a - c) (b + d) := by
  obtain ⟨rfl, h1⟩ := hx
  obtain ⟨rfl, h2⟩ := hy
  have e := Jvm.Kit.i32_sub (x := x) (y := y) (by omega) (by omega)
  exact ⟨by rw [e, ss_z_sub], by rw [e]; omega⟩
theorem ss_IV_neg {x : Int32} {a : ss_F} {b : Nat} (hx : ss_IV x a b) (h : b < 2 ^ 31 := by decide) : ss_IV (-x) (-a) b := by
  obtain ⟨rfl, h1⟩ := hx
  have e := Jvm.Kit.i32_neg (x := x) (by omega)
  exact ⟨by rw [e, ss_z_neg], by rw [e]; omega⟩
theorem ss_abs_mul {x y : Int} {b d : Nat} (h1 : x.natAbs ≤ b) (h2 : y.natAbs ≤ d) : (x * y).natAbs ≤ b * d := by
  rw [Int.natAbs_mul]
  exact Nat.mul_le_mul h1 h2
theorem ss_IV_mul {x y : Int32} {a c : ss_F} {b d : Nat} (hx : ss_IV x a b) (hy : ss_IV y c d) (h : b * d < 2 ^ 31 := by decide) : ss_IV (x * y) (a * c) (b * d) := by
  obtain ⟨rfl, h1⟩ := hx
  obtain ⟨rfl, h2⟩ := hy
  have h3 := ss_abs_mul h1 h2
  generalize b * d = m at h h3
  have e : (x * y).toInt = x.toInt * y.toInt := by
    apply Jvm.Kit.i32_mul
    · generalize x.toInt * y.toInt = t at h3; omega
    · generalize x.toInt * y.toInt = t at h3; omega
  exact ⟨by rw [e, ss_z_mul], by rw [e]; exact h3⟩
theorem ss_IV_L {x : Int32} {a : ss_F} {b : Nat} (h : ss_IV x a b) : ss_LV x.toInt64 a b := by
  unfold ss_LV
  rw [Jvm.Kit.i64_of_i32]
  exact h
theorem ss_LV_add {x y : Int64} {a c : ss_F} {b d : Nat} (hx : ss_LV x a b) (hy : ss_LV y c d) (h : b + d < 2 ^ 62 := by decide) : ss_LV (x + y) (a + c) (b + d) := by
  obtain ⟨rfl, h1⟩ := hx
  obtain ⟨rfl, h2⟩ := hy
  have e := Jvm.Kit.i64_add (x := x) (y := y) (by omega) (by omega)
  exact ⟨by rw [e, ss_z_add], by rw [e]; omega⟩
theorem ss_LV_sub {x y : Int64} {a c : ss_F} {b d : Nat} (hx : ss_LV x a b) (hy : ss_LV y c d) (h : b + d < 2 ^ 62 := by decide) : ss_LV (x - y) (a - c) (b + d) := by
  obtain ⟨rfl, h1⟩ := hx
  obtain ⟨rfl, h2⟩ := hy
  have e := Jvm.Kit.i64_sub (x := x) (y := y) (by omega) (by omega)
  exact ⟨by rw [e, ss_z_sub], by rw [e]; omega⟩
theorem ss_LV_neg {x : Int64} {a : ss_F} {b : Nat} (hx : ss_LV x a b) (h : b < 2 ^ 62 := by decide) : ss_LV (-x) (-a) b := by
  obtain ⟨rfl, h1⟩ := hx
  have e := Jvm.Kit.i64_neg (x := x) (by omega)
  exact ⟨by rw [e, ss_z_neg], by rw [e]; omega⟩
theorem ss_LV_mul {x y : Int64} {a c : ss_F} {b d : Nat} (hx : ss_LV x a b) (hy : ss_LV y c d) (h : b * d < 2 ^ 62 := by decide) : ss_LV (x * y) (a * c) (b * d) := by
  obtain ⟨rfl, h1⟩ := hx
  obtain ⟨rfl, h2⟩ := hy
  have h3 := ss_abs_mul h1 h2
  generalize b * d = m at h h3
  have e : (x * y).toInt = x.toInt * y.toInt := by
    apply Jvm.Kit.i64_mul
    · generalize x.toInt * y.toInt = t at h3; omega
    · generalize x.toInt * y.toInt = t at h3; omega
  exact ⟨by rw [e, ss_z_mul], by rw [e]; exact h3⟩
theorem ss_LV_0 : ss_LV 0 0 0 := ⟨by decide, by decide⟩
theorem ss_LV_m1 : ss_LV (-1) (-1) 1 := ⟨by decide, by decide⟩
/-- the remainder of a long, as the divisor leaves it: two cases by its sign -/
theorem ss_tm (V : Int) : (0 ≤ V.tmod 12289 → V.tmod 12289 = V % 12289) ∧ (V.tmod 12289 < 0 → V.tmod 12289 + 12289 = V % 12289) := by
  by_cases h : 0 ≤ V
  · rw [Int.tmod_eq_emod_of_nonneg h]
    omega
  · have e : V.tmod 12289 = -((-V) % 12289) := by
      rw [← Int.tmod_eq_emod_of_nonneg (a := -V) (b := 12289) (by omega), Int.neg_tmod, Int.neg_neg]
    rw [e]
    omega
end
section
/-! finite sums modulo 12289, products of series, values -/
def ss_s (f : Nat → ss_F) : Nat → ss_F
  | 0 => 0
  | n + 1 => ss_s f n + f n
theorem ss_s0 (f : Nat → ss_F) : ss_s f 0 = 0 := rfl
theorem ss_ss (f : Nat → ss_F) (n : Nat) : ss_s f (n + 1) = ss_s f n + f n := rfl
theorem ss_s_congr {f g : Nat → ss_F} {n : Nat} (h : ∀ i, i < n → f i = g i) : ss_s f n = ss_s g n := by
  induction n with
  | zero => rfl
  | succ n ih => rw [ss_ss, ss_ss, ih (fun i hi => h i (by omega)), h n (by omega)]
theorem ss_s_zero {f : Nat → ss_F} {n : Nat} (h : ∀ i, i < n → f i = 0) : ss_s f n = 0 := by
  induction n with
  | zero => rfl
  | succ n ih => rw [ss_ss, ih (fun i hi => h i (by omega)), h n (by omega)]; grobner
theorem ss_s_add (f g : Nat → ss_F) (n : Nat) : ss_s (fun i => f i + g i) n = ss_s f n + ss_s g n := by
  induction n with
  | zero => rw [ss_s0, ss_s0, ss_s0]; grobner
  | succ n ih => rw [ss_ss, ss_ss, ss_ss, ih]; grobner
theorem ss_s_sub (f g : Nat → ss_F) (n : Nat) : ss_s (fun i => f i - g i) n = ss_s f n - ss_s g n := by
  induction n with
  | zero => rw [ss_s0, ss_s0, ss_s0]; grobner
  | succ n ih => rw [ss_ss, ss_ss, ss_ss, ih]; grobner
theorem ss_s_mul (c : ss_F) (f : Nat → ss_F) (n : Nat) : ss_s (fun i => c * f i) n = c * ss_s f n := by
  induction n with
  | zero => rw [ss_s0, ss_s0]; grobner
  | succ n ih => rw [ss_ss, ss_ss, ih]; grobner
theorem ss_s_mulr (c : ss_F) (f : Nat → ss_F) (n : Nat) : ss_s (fun i => f i * c) n = ss_s f n * c := by
  induction n with
  | zero => rw [ss_s0, ss_s0]; grobner
  | succ n ih => rw [ss_ss, ss_ss, ih]; grobner
theorem ss_s_split (f : Nat → ss_F) (m n : Nat) : ss_s f (m + n) = ss_s f m + ss_s (fun i => f (m + i)) n := by
  induction n with
  | zero => rw [Nat.add_zero, ss_s0]; grobner
  | succ n ih => rw [← Nat.add_assoc, ss_ss, ss_ss, ih]; grobner
theorem ss_s_front (f : Nat → ss_F) (n : Nat) : ss_s f (n + 1) = f 0 + ss_s (fun i => f (i + 1)) n := by
  induction n with
  | zero => rw [ss_ss, ss_s0, ss_s0]; grobner
  | succ n ih => rw [ss_ss, ih, ss_ss]; grobner
theorem ss_s_rev (f : Nat → ss_F) (n : Nat) : ss_s f n = ss_s (fun i => f (n - 1 - i)) n := by
  induction n with
  | zero => rfl
  | succ n ih =>
    rw [ss_s_front (fun i => f (n + 1 - 1 - i)) n, ss_ss, ih]
    have e : ss_s (fun i => f (n + 1 - 1 - (i + 1))) n = ss_s (fun i => f (n - 1 - i)) n := ss_s_congr (fun i _ => by congr 1; omega)
    rw [e]
    show _ = f (n + 1 - 1 - 0) + _
    rw [show n + 1 - 1 - 0 = n from by omega]
    grobner
theorem ss_s_swap (f : Nat → Nat → ss_F) (m n : Nat) : ss_s (fun i => ss_s (fun j => f i j) m) n = ss_s (fun j => ss_s (fun i => f i j) n) m := by
  induction n with
  | zero =>
    rw [ss_s0]
    exact (ss_s_zero (fun i _ => rfl)).symm
  | succ n ih =>
    rw [ss_ss, ih, ← ss_s_add]
    rfl
theorem ss_s_tri (f : Nat → Nat → ss_F) (N : Nat) : ss_s (fun n => ss_s (fun i => f i (n - i)) (n + 1)) N = ss_s (fun i => ss_s (fun j => f i j) (N - i)) N := by
  induction N with
  | zero => rfl
  | succ N ih =>
    rw [ss_ss, ih]
    have e : ss_s (fun i => ss_s (fun j => f i j) (N + 1 - i)) (N + 1) = ss_s (fun i => ss_s (fun j => f i j) (N - i) + f i (N - i)) (N + 1) := by
      apply ss_s_congr
      intro i hi
      rw [show N + 1 - i = (N - i) + 1 from by omega, ss_ss]
    rw [e, ss_s_add, ss_ss (fun i => ss_s (fun j => f i j) (N - i)) N]
    have z : ss_s (fun j => f N j) (N - N) = 0 := by rw [Nat.sub_self]; rfl
    show _ = ss_s (fun i => ss_s (fun j => f i j) (N - i)) N + ss_s (fun j => f N j) (N - N) + _
    rw [z]
    grobner
theorem ss_s_cut {f : Nat → ss_F} {m n : Nat} (hm : m ≤ n) (h : ∀ i, m ≤ i → i < n → f i = 0) : ss_s f n = ss_s f m := by
  obtain ⟨d, rfl⟩ : ∃ d, n = m + d := ⟨n - m, by omega⟩
  rw [ss_s_split, ss_s_zero (f := fun i => f (m + i)) (fun i hi => h (m + i) (by omega) (by omega))]
  grobner
theorem ss_s_one {f : Nat → ss_F} {n k : Nat} (hk : k < n) (h : ∀ i, i < n → i ≠ k → f i = 0) : ss_s f n = f k := by
  rw [ss_s_cut (m := k + 1) (by omega) (fun i h1 h2 => h i h2 (by omega)), ss_ss, ss_s_zero (fun i hi => h i (by omega) (by omega))]
  grobner
/-- the product of two series at n -/
def ss_c (l r : Nat → ss_F) (n : Nat) : ss_F := ss_s (fun i => l i * r (n - i)) (n + 1)
/-- the value at x of the m lowest places -/
def ss_v (m : Nat) (f : Nat → ss_F) (x : ss_F) : ss_F := ss_s (fun i => f i * ss_p x i) m
/-- nothing from 32 on -/
def ss_k (f : Nat → ss_F) : Nat → ss_F := fun i => if i < 32 then f i else 0
theorem ss_k_lt {f : Nat → ss_F} {i : Nat} (h : i < 32) : ss_k f i = f i := if_pos h
theorem ss_k_ge {f : Nat → ss_F} {i : Nat} (h : 32 ≤ i) : ss_k f i = 0 := if_neg (by omega)
theorem ss_c_k {l r : Nat → ss_F} {n : Nat} (h : n < 32) : ss_c (ss_k l) (ss_k r) n = ss_c l r n := by
  apply ss_s_congr
  intro i hi
  rw [ss_k_lt (by omega), ss_k_lt (by omega)]
theorem ss_c_big {l r : Nat → ss_F} {n : Nat} (h : 63 ≤ n) : ss_c (ss_k l) (ss_k r) n = 0 := by
  apply ss_s_zero
  intro i hi
  by_cases h2 : i < 32
  · rw [ss_k_ge (f := r) (by omega)]; grobner
  · rw [ss_k_ge (f := l) (by omega)]; grobner
theorem ss_v_c (l r : Nat → ss_F) (x : ss_F) {m : Nat} (hm : 63 ≤ m) : ss_v m (ss_c (ss_k l) (ss_k r)) x = ss_v 32 l x * ss_v 32 r x := by
  have e1 : ss_v m (ss_c (ss_k l) (ss_k r)) x = ss_s (fun n => ss_s (fun i => (fun i j => (ss_k l i * ss_p x i) * (ss_k r j * ss_p x j)) i (n - i)) (n + 1)) m := by
    apply ss_s_congr
    intro n hn
    show ss_s (fun i => ss_k l i * ss_k r (n - i)) (n + 1) * ss_p x n = _
    rw [← ss_s_mulr]
    apply ss_s_congr
    intro i hi
    have e : ss_p x n = ss_p x i * ss_p x (n - i) := by rw [← ss_p_add, show i + (n - i) = n from by omega]
    show ss_k l i * ss_k r (n - i) * ss_p x n = (ss_k l i * ss_p x i) * (ss_k r (n - i) * ss_p x (n - i))
    rw [e]
    grobner
  have e2 : ss_s (fun i => ss_s (fun j => (fun i j => (ss_k l i * ss_p x i) * (ss_k r j * ss_p x j)) i j) (m - i)) m = ss_s (fun i => (ss_k l i * ss_p x i) * ss_v 32 r x) m := by
    apply ss_s_congr
    intro i hi
    show ss_s (fun j => (ss_k l i * ss_p x i) * (ss_k r j * ss_p x j)) (m - i) = _
    rw [ss_s_mul]
    by_cases h : i < 32
    · congr 1
      rw [ss_s_cut (m := 32) (by omega) (fun j h1 _ => by rw [ss_k_ge h1]; grobner)]
      exact ss_s_congr (fun j hj => by rw [ss_k_lt hj])
    · rw [ss_k_ge (f := l) (by omega)]
      grobner
  refine (e1.trans (ss_s_tri (fun i j => (ss_k l i * ss_p x i) * (ss_k r j * ss_p x j)) m)).trans (e2.trans ?_)
  rw [ss_s_mulr, ss_s_cut (m := 32) (by omega) (fun j h1 _ => by rw [ss_k_ge h1]; grobner)]
  exact congrArg (fun t => t * ss_v 32 r x) (ss_s_congr (fun j hj => by rw [ss_k_lt hj]))
/-! arrays of residues -/
def ss_em (f : Nat → ss_F) : Nat → Int32 := fun j => ss_e (f j)
def ss_u (f : Nat → ss_F) (k : Nat) (a : ss_F) : Nat → ss_F := fun j => if j = k then a else f j
theorem ss_us (f : Nat → ss_F) (k : Nat) (a : ss_F) : ss_u f k a k = a := if_pos rfl
theorem ss_un {f : Nat → ss_F} {k j : Nat} {a : ss_F} (h : j ≠ k) : ss_u f k a j = f j := if_neg h
theorem ss_em_u (f : Nat → ss_F) (k : Nat) (a : ss_F) : upd (ss_em f) k (ss_e a) = ss_em (ss_u f k a) := by
  funext j
  by_cases h : j = k
  · subst h
    rw [pk_us]
    show _ = ss_e (ss_u f j a j)
    rw [ss_us]
  · rw [pk_un h]
    show ss_e (f j) = ss_e (ss_u f k a j)
    rw [ss_un h]
theorem ss_em_0 : (fun _ => 0 : Nat → Int32) = ss_em (fun _ => 0) := by
  funext j
  exact ss_e0.symm
/-- the n lowest cells of an array are those residues -/
def ss_A (a : Nat → Int32) (f : Nat → ss_F) (n : Nat) : Prop := ∀ j, j < n → a j = ss_e (f j)
theorem ss_A_em (f : Nat → ss_F) (n : Nat) : ss_A (ss_em f) f n := fun _ _ => rfl
theorem ss_A_congr {a : Nat → Int32} {f g : Nat → ss_F} {n : Nat} (h : ss_A a f n) (e : ∀ j, j < n → f j = g j) : ss_A a g n := fun j hj => by rw [h j hj, e j hj]
theorem ss_A_le {a : Nat → Int32} {f : Nat → ss_F} {m n : Nat} (h : ss_A a f n) (hm : m ≤ n) : ss_A a f m := fun j hj => h j (by omega)
theorem ss_A_0 (a : Nat → Int32) (f : Nat → ss_F) : ss_A a f 0 := fun j hj => absurd hj (by omega)
theorem ss_A_u {a : Nat → Int32} {f : Nat → ss_F} {n k : Nat} {x : Int32} {v : ss_F} (h : ss_A a f n) (hx : x = ss_e v) : ss_A (upd a k x) (ss_u f k v) n := by
  intro j hj
  by_cases e : j = k
  · subst e
    rw [pk_us, ss_us, hx]
  · rw [pk_un e, ss_un e, h j hj]
/-- one more cell -/
theorem ss_A_s {a : Nat → Int32} {f : Nat → ss_F} {n : Nat} {x : Int32} (h : ss_A a f n) (hx : x = ss_e (f n)) : ss_A (upd a n x) f (n + 1) := by
  intro j hj
  by_cases e : j = n
  · subst e
    rw [pk_us, hx]
  · rw [pk_un e, h j (by omega)]
/-- a block of 32 cells taken out, and put in -/
def ss_g (f : Nat → ss_F) (s : Nat) : Nat → ss_F := fun n => f (32 * s + n)
def ss_b (f : Nat → ss_F) (s m : Nat) (g : Nat → ss_F) : Nat → ss_F := fun j => if 32 * s ≤ j ∧ j < 32 * s + m then g (j - 32 * s) else f j
theorem ss_b0 (f : Nat → ss_F) (s : Nat) (g : Nat → ss_F) : ss_b f s 0 g = f := by
  funext j
  exact if_neg (by omega)
theorem ss_bs (f : Nat → ss_F) (s m : Nat) (g : Nat → ss_F) : ss_u (ss_b f s m g) (32 * s + m) (g m) = ss_b f s (m + 1) g := by
  funext j
  by_cases h : j = 32 * s + m
  · subst h
    rw [ss_us]
    unfold ss_b
    rw [if_pos (by omega), show 32 * s + m - 32 * s = m from by omega]
  · rw [ss_un h]
    unfold ss_b
    by_cases h2 : 32 * s ≤ j ∧ j < 32 * s + m
    · rw [if_pos h2, if_pos (by omega)]
    · rw [if_neg h2, if_neg (by omega)]
theorem ss_b_congr {f : Nat → ss_F} {s m : Nat} {g h : Nat → ss_F} (e : ∀ n, n < m → g n = h n) : ss_b f s m g = ss_b f s m h := by
  funext j
  unfold ss_b
  by_cases h2 : 32 * s ≤ j ∧ j < 32 * s + m
  · rw [if_pos h2, if_pos h2, e _ (by omega)]
  · rw [if_neg h2, if_neg h2]
/-- a sequence built place by place, each from those before it -/
def ss_q (st : (Nat → ss_F) → Nat → ss_F) : Nat → Nat → ss_F
  | 0 => fun _ => 0
  | n + 1 => ss_u (ss_q st n) n (st (ss_q st n) n)
theorem ss_q_keep (st : (Nat → ss_F) → Nat → ss_F) (n j d : Nat) (h : j < n) : ss_q st (n + d) j = ss_q st n j := by
  induction d with
  | zero => rfl
  | succ d ih =>
    show ss_u (ss_q st (n + d)) (n + d) _ j = _
    rw [ss_un (by omega), ih]
theorem ss_q_at (st : (Nat → ss_F) → Nat → ss_F) {n m : Nat} (h : n < m) : ss_q st m n = st (ss_q st n) n := by
  obtain ⟨d, rfl⟩ : ∃ d, m = n + 1 + d := ⟨m - (n + 1), by omega⟩
  rw [ss_q_keep st (n + 1) n d (by omega)]
  exact ss_us _ _ _
/-- that sequence is a fixed point of its step -/
theorem ss_q_eq (st : (Nat → ss_F) → Nat → ss_F) (N : Nat) (hst : ∀ f h n, (∀ j, j < n → f j = h j) → st f n = st h n) : ∀ n, n < N → ss_q st N n = st (ss_q st N) n := by
  intro n hn
  rw [ss_q_at st hn]
  apply hst
  intro j hj
  obtain ⟨d, rfl⟩ : ∃ d, N = n + d := ⟨N - n, by omega⟩
  exact (ss_q_keep st n j d hj).symm
end
section
/-! the big numbers: limbs of 12 bits, three a place, and their carries -/
def ss_sN (f : Nat → Nat) : Nat → Nat
  | 0 => 0
  | n + 1 => ss_sN f n + f n
theorem ss_sN0 (f : Nat → Nat) : ss_sN f 0 = 0 := rfl
theorem ss_sNs (f : Nat → Nat) (n : Nat) : ss_sN f (n + 1) = ss_sN f n + f n := rfl
theorem ss_sN_congr {f g : Nat → Nat} {n : Nat} (h : ∀ i, i < n → f i = g i) : ss_sN f n = ss_sN g n := by
  induction n with
  | zero => rfl
  | succ n ih => rw [ss_sNs, ss_sNs, ih (fun i hi => h i (by omega)), h n (by omega)]
theorem ss_sN_add (f g : Nat → Nat) (n : Nat) : ss_sN (fun i => f i + g i) n = ss_sN f n + ss_sN g n := by
  induction n with
  | zero => rfl
  | succ n ih => rw [ss_sNs, ss_sNs, ss_sNs, ih]; omega
theorem ss_sN_mul (c : Nat) (f : Nat → Nat) (n : Nat) : ss_sN (fun i => c * f i) n = c * ss_sN f n := by
  induction n with
  | zero => rfl
  | succ n ih => rw [ss_sNs, ss_sNs, ih, Nat.mul_add]
theorem ss_sN_le {f : Nat → Nat} {n b : Nat} (h : ∀ i, i < n → f i ≤ b) : ss_sN f n ≤ n * b := by
  induction n with
  | zero => exact Nat.zero_le _
  | succ n ih =>
    rw [ss_sNs, Nat.succ_mul]
    exact Nat.add_le_add (ih (fun i hi => h i (by omega))) (h n (by omega))
theorem ss_sN_3 (f : Nat → Nat) (k : Nat) : ss_sN f (3 * k) = ss_sN (fun i => f (3 * i) + f (3 * i + 1) + f (3 * i + 2)) k := by
  induction k with
  | zero => rfl
  | succ k ih =>
    rw [show 3 * (k + 1) = 3 * k + 1 + 1 + 1 from by omega, ss_sNs, ss_sNs, ss_sNs, ih, ss_sNs]
    omega
theorem ss_n_sN (f : Nat → Nat) (n : Nat) : ss_n (ss_sN f n) = ss_s (fun i => ss_n (f i)) n := by
  induction n with
  | zero => exact ss_n0
  | succ n ih => rw [ss_sNs, ss_ss, ss_n_add, ih]
def ss_lm (l : Nat → ss_F) (i : Nat) : Nat := if i % 3 = 0 then (l (i / 3)).val % 4096 else if i % 3 = 1 then (l (i / 3)).val / 4096 else 0
theorem ss_lm0 (l : Nat → ss_F) (i : Nat) : ss_lm l (3 * i) = (l i).val % 4096 := by
  unfold ss_lm
  rw [if_pos (by omega), show 3 * i / 3 = i from by omega]
theorem ss_lm1 (l : Nat → ss_F) (i : Nat) : ss_lm l (3 * i + 1) = (l i).val / 4096 := by
  unfold ss_lm
  rw [if_neg (by omega), if_pos (by omega), show (3 * i + 1) / 3 = i from by omega]
theorem ss_lm2 (l : Nat → ss_F) (i : Nat) : ss_lm l (3 * i + 2) = 0 := by
  unfold ss_lm
  rw [if_neg (by omega), if_neg (by omega)]
theorem ss_lm_le (l : Nat → ss_F) (i : Nat) : ss_lm l i ≤ 4095 := by
  unfold ss_lm
  have := (l (i / 3)).isLt
  split
  · omega
  · split <;> omega
/-- the column n of the limbs' product -/
def ss_lS (l r : Nat → ss_F) (n : Nat) : Nat := ss_sN (fun i => ss_lm l i * ss_lm r (n - i)) (n + 1)
theorem ss_lS0 (l r : Nat → ss_F) (n : Nat) : ss_lS l r (3 * n) = ss_sN (fun i => (l i).val % 4096 * ((r (n - i)).val % 4096)) (n + 1) := by
  unfold ss_lS
  rw [ss_sNs, ss_sNs, ss_sN_3, Nat.sub_self (3 * n), ss_lm0, Nat.sub_self n, show ss_lm r 0 = ss_lm r (3 * 0) from rfl, ss_lm0]
  congr 1
  apply ss_sN_congr
  intro i hi
  try dsimp only
  rw [ss_lm2, show 3 * n - (3 * i + 1) = 3 * (n - i - 1) + 2 from by omega, ss_lm2, show 3 * n - 3 * i = 3 * (n - i) from by omega, ss_lm0, ss_lm0]
  omega
theorem ss_lS1 (l r : Nat → ss_F) (n : Nat) : ss_lS l r (3 * n + 1) = ss_sN (fun i => (l i).val % 4096 * ((r (n - i)).val / 4096) + (l i).val / 4096 * ((r (n - i)).val % 4096)) (n + 1) := by
  unfold ss_lS
  rw [ss_sNs, ss_sNs, ss_sNs, ss_sN_3, Nat.sub_self n, ss_lm0, ss_lm1, show 3 * n + 1 - 3 * n = 3 * 0 + 1 from by omega, show 3 * n + 1 - (3 * n + 1) = 3 * 0 from by omega, ss_lm0, ss_lm1, Nat.add_assoc]
  congr 1
  apply ss_sN_congr
  intro i hi
  try dsimp only
  rw [ss_lm2, show 3 * n + 1 - (3 * i + 1) = 3 * (n - i) from by omega, show 3 * n + 1 - 3 * i = 3 * (n - i) + 1 from by omega, ss_lm0, ss_lm0, ss_lm1, ss_lm1]
  omega
theorem ss_lS2 (l r : Nat → ss_F) (n : Nat) : ss_lS l r (3 * n + 2) = ss_sN (fun i => (l i).val / 4096 * ((r (n - i)).val / 4096)) (n + 1) := by
  unfold ss_lS
  rw [show 3 * n + 2 + 1 = 3 * (n + 1) from by omega, ss_sN_3]
  apply ss_sN_congr
  intro i hi
  try dsimp only
  rw [ss_lm2, show 3 * n + 2 - (3 * i + 1) = 3 * (n - i) + 1 from by omega, show 3 * n + 2 - 3 * i = 3 * (n - i) + 2 from by omega, ss_lm2, ss_lm1, ss_lm1]
  omega
def ss_lT (l r : Nat → ss_F) (n : Nat) : Nat := ss_sN (fun i => (l i).val * (r (n - i)).val) (n + 1)
theorem ss_lT_c (l r : Nat → ss_F) (n : Nat) : ss_n (ss_lT l r n) = ss_c l r n := by
  unfold ss_lT
  rw [ss_n_sN]
  apply ss_s_congr
  intro i hi
  rw [ss_n_mul, ss_n_of, ss_n_of]
theorem ss_lT_le (l r : Nat → ss_F) {n : Nat} (h : n < 32) : ss_lT l r n ≤ 32 * (12288 * 12288) := by
  refine Nat.le_trans (ss_sN_le (b := 12288 * 12288) (fun i _ => Nat.mul_le_mul (by have := (l i).isLt; omega) (by have := (r (n - i)).isLt; omega))) (Nat.mul_le_mul_right _ (by omega))
theorem ss_lsp (a b : Nat) : a * b = a % 4096 * (b % 4096) + 4096 * (a % 4096 * (b / 4096) + a / 4096 * (b % 4096)) + 16777216 * (a / 4096 * (b / 4096)) := by
  have ha : a = a % 4096 + 4096 * (a / 4096) := by omega
  have hb : b = b % 4096 + 4096 * (b / 4096) := by omega
  conv => lhs; rw [ha, hb]
  generalize a % 4096 = x
  generalize a / 4096 = y
  generalize b % 4096 = z
  generalize b / 4096 = w
  grind
theorem ss_lT_S (l r : Nat → ss_F) (n : Nat) : ss_lT l r n = ss_lS l r (3 * n) + 4096 * ss_lS l r (3 * n + 1) + 16777216 * ss_lS l r (3 * n + 2) := by
  rw [ss_lS0, ss_lS1, ss_lS2, ← ss_sN_mul, ← ss_sN_mul, ← ss_sN_add, ← ss_sN_add]
  exact ss_sN_congr (fun i _ => ss_lsp _ _)
/-- the carry into column n -/
def ss_lC (l r : Nat → ss_F) : Nat → Nat
  | 0 => 0
  | n + 1 => (ss_lC l r n + ss_lS l r n) / 4096
def ss_lP (l r : Nat → ss_F) (n : Nat) : Nat := (ss_lC l r n + ss_lS l r n) % 4096
theorem ss_l3 {S0 S1 S2 T : Nat} (h : T = S0 + 4096 * S1 + 16777216 * S2) (hT : T ≤ 32 * (12288 * 12288)) : (((0 + S0) / 4096 + S1) / 4096 + S2) / 4096 = 0 ∧ ((((0 + S0) / 4096 + S1) / 4096 + S2) % 4096 * 4096 + ((0 + S0) / 4096 + S1) % 4096) * 4096 + (0 + S0) % 4096 = T := by
  omega
theorem ss_lC3 (l r : Nat → ss_F) : ∀ n, n ≤ 32 → ss_lC l r (3 * n) = 0 := by
  intro n
  induction n with
  | zero => exact fun _ => rfl
  | succ n ih =>
    intro h
    have i := ih (by omega)
    rw [show 3 * (n + 1) = 3 * n + 1 + 1 + 1 from by omega]
    show (((ss_lC l r (3 * n) + ss_lS l r (3 * n)) / 4096 + ss_lS l r (3 * n + 1)) / 4096 + ss_lS l r (3 * n + 2)) / 4096 = 0
    rw [i]
    exact (ss_l3 (ss_lT_S l r n) (ss_lT_le l r (by omega))).1
theorem ss_lP3 (l r : Nat → ss_F) {n : Nat} (h : n < 32) : (ss_lP l r (3 * n + 2) * 4096 + ss_lP l r (3 * n + 1)) * 4096 + ss_lP l r (3 * n) = ss_lT l r n := by
  have i := ss_lC3 l r n (by omega)
  show (((((ss_lC l r (3 * n) + ss_lS l r (3 * n)) / 4096 + ss_lS l r (3 * n + 1)) / 4096 + ss_lS l r (3 * n + 2)) % 4096) * 4096 + ((ss_lC l r (3 * n) + ss_lS l r (3 * n)) / 4096 + ss_lS l r (3 * n + 1)) % 4096) * 4096 + (ss_lC l r (3 * n) + ss_lS l r (3 * n)) % 4096 = _
  rw [i]
  exact (ss_l3 (ss_lT_S l r n) (ss_lT_le l r h)).2
theorem ss_lS_le (l r : Nat → ss_F) {n : Nat} (h : n < 96) : ss_lS l r n ≤ 96 * (4095 * 4095) :=
  Nat.le_trans (ss_sN_le (b := 4095 * 4095) (fun i _ => Nat.mul_le_mul (ss_lm_le l i) (ss_lm_le r (n - i)))) (Nat.mul_le_mul_right _ (by omega))
theorem ss_lC_le (l r : Nat → ss_F) : ∀ n, n ≤ 96 → ss_lC l r n ≤ 96 * (4095 * 4095) := by
  intro n
  induction n with
  | zero => exact fun _ => Nat.zero_le _
  | succ n ih =>
    intro h
    have i := ih (by omega)
    have j := ss_lS_le l r (n := n) (by omega)
    show (ss_lC l r n + ss_lS l r n) / 4096 ≤ _
    omega
end
section
/-! the transform of 64 places: one level, its values, and the way back -/
def ss_pt (h : Nat) (ρ : ss_F) (A : Nat → ss_F) : Nat → ss_F := fun j => if j % (2 * h) < h then A j + A (j + h) else (A (j - h) - A j) * ss_p ρ (j % (2 * h) - h)
def ss_jn (h : Nat) (σ : ss_F) (A : Nat → ss_F) : Nat → ss_F := fun j => if j % (2 * h) < h then A j + A (j + h) * ss_p σ (j % (2 * h)) else A (j - h) - A j * ss_p σ (j % (2 * h) - h)
def ss_H (h : Nat) : Prop := h = 32 ∨ h = 16 ∨ h = 8 ∨ h = 4 ∨ h = 2 ∨ h = 1
theorem ss_Hm {h : Nat} (hh : ss_H h) (j : Nat) : (j % (2 * h) < h → (j + h) % (2 * h) = j % (2 * h) + h) ∧ (h ≤ j % (2 * h) → (j - h) % (2 * h) = j % (2 * h) - h ∧ h ≤ j) ∧ j % (2 * h) < 2 * h := by
  rcases hh with rfl | rfl | rfl | rfl | rfl | rfl <;> omega
theorem ss_Hb {h : Nat} (hh : ss_H h) {j : Nat} (hj : j < 64) (hq : j % (2 * h) < h) : j + h < 64 := by
  rcases hh with rfl | rfl | rfl | rfl | rfl | rfl <;> omega
theorem ss_jn_pt {h : Nat} (hh : ss_H h) {ρ σ k : ss_F} (e : ρ * σ = 1) (A B : Nat → ss_F) (hB : ∀ j, j < 64 → B j = k * ss_pt h ρ A j) : ∀ j, j < 64 → ss_jn h σ B j = (k + k) * A j := by
  intro j hj
  have m := ss_Hm hh j
  have pq : ∀ n, ss_p ρ n * ss_p σ n = 1 := fun n => by rw [← ss_p_mulb, e, ss_p_one]
  unfold ss_jn
  by_cases q : j % (2 * h) < h
  · rw [if_pos q, hB j hj, hB (j + h) (ss_Hb hh hj q)]
    have e1 : ss_pt h ρ A j = A j + A (j + h) := if_pos q
    have e2 : ss_pt h ρ A (j + h) = (A j - A (j + h)) * ss_p ρ (j % (2 * h)) := by
      unfold ss_pt
      have m1 := m.1 q
      rw [if_neg (by omega), m1, Nat.add_sub_cancel, Nat.add_sub_cancel]
    rw [e1, e2]
    have := pq (j % (2 * h))
    grobner
  · have m2 := m.2.1 (by omega)
    rw [if_neg q, hB j hj, hB (j - h) (by omega)]
    have e1 : ss_pt h ρ A j = (A (j - h) - A j) * ss_p ρ (j % (2 * h) - h) := if_neg q
    have e2 : ss_pt h ρ A (j - h) = A (j - h) + A j := by
      unfold ss_pt
      rw [if_pos (by omega), Nat.sub_add_cancel m2.2]
    rw [e1, e2]
    have := pq (j % (2 * h) - h)
    grobner
/-- the point that belongs to a block of a level -/
def ss_th (ω : ss_F) : Nat → Nat → ss_F
  | 0, _ => 1
  | L + 1, b => if b % 2 = 0 then ss_th ω L (b / 2) else ss_th ω L (b / 2) * ss_p ω (2 ^ L)
/-- what a level keeps: each block has the values of c at its turned points -/
def ss_EV (ω : ss_F) (c : Nat → ss_F) (L s : Nat) (A : Nat → ss_F) : Prop := ∀ b, b < 2 ^ L → ∀ x, ss_p x s = 1 → ss_s (fun q => A (b * s + q) * ss_p x q) s = ss_v 64 c (x * ss_th ω L b)
theorem ss_EV0 (ω : ss_F) (c : Nat → ss_F) : ss_EV ω c 0 64 c := by
  intro b hb x _
  have : b = 0 := by omega
  subst this
  show ss_s (fun q => c (0 * 64 + q) * ss_p x q) 64 = ss_v 64 c (x * 1)
  have e : x * 1 = x := by grobner
  rw [e]
  apply ss_s_congr
  intro i _
  rw [show 0 * 64 + i = i from by omega]
theorem ss_EVs {ω : ss_F} {c : Nat → ss_F} {L h : Nat} (hh : ss_H h) {A : Nat → ss_F} (hA : ss_EV ω c L (2 * h) A) (hr : ss_p (ss_p ω (2 ^ L)) h = -1) : ss_EV ω c (L + 1) h (ss_pt h (ss_p ω (2 ^ L)) A) := by
  intro b hb x hx
  generalize hρ : ss_p ω (2 ^ L) = ρ at hr ⊢
  have hb2 : b / 2 < 2 ^ L := by rw [Nat.pow_succ] at hb; omega
  have dbl : ∀ y, ss_p y (2 * h) = ss_p y h * ss_p y h := fun y => by rw [Nat.two_mul, ss_p_add]
  by_cases p : b % 2 = 0
  · have e1 : ss_th ω (L + 1) b = ss_th ω L (b / 2) := if_pos p
    have hx2 : ss_p x (2 * h) = 1 := by rw [dbl, hx]; grobner
    rw [e1, ← hA (b / 2) hb2 x hx2, Nat.two_mul h, ss_s_split, ← ss_s_add]
    apply ss_s_congr
    intro q hq
    try dsimp only
    have e2 : b * h = b / 2 * (2 * h) := by
      have : b = b / 2 * 2 := by omega
      conv => lhs; rw [this]
      rw [Nat.mul_assoc]
    have e3 : ss_pt h ρ A (b * h + q) = A (b / 2 * (h + h) + q) + A (b / 2 * (h + h) + (h + q)) := by
      rw [e2]
      unfold ss_pt
      have m : (b / 2 * (2 * h) + q) % (2 * h) = q := Nat.mul_add_mod_of_lt (by omega)
      rw [if_pos (by omega), ← Nat.two_mul, show b / 2 * (2 * h) + q + h = b / 2 * (2 * h) + (h + q) from by omega]
    rw [e3, ss_p_add, hx]
    grobner
  · have e1 : ss_th ω (L + 1) b = ss_th ω L (b / 2) * ρ := by
      show (if b % 2 = 0 then _ else _) = _
      rw [if_neg p, hρ]
    have hx2 : ss_p (ρ * x) (2 * h) = 1 := by rw [dbl, ss_p_mulb, hx, hr]; grobner
    have e0 : x * (ss_th ω L (b / 2) * ρ) = (ρ * x) * ss_th ω L (b / 2) := by grobner
    rw [e1, e0, ← hA (b / 2) hb2 (ρ * x) hx2, Nat.two_mul h, ss_s_split, ← ss_s_add]
    apply ss_s_congr
    intro q hq
    try dsimp only
    have e2 : b * h = b / 2 * (2 * h) + h := by
      have : b = b / 2 * 2 + 1 := by omega
      conv => lhs; rw [this]
      rw [Nat.add_mul, Nat.mul_assoc, Nat.one_mul]
    have e3 : ss_pt h ρ A (b * h + q) = (A (b / 2 * (h + h) + q) - A (b / 2 * (h + h) + (h + q))) * ss_p ρ q := by
      rw [e2]
      unfold ss_pt
      have m : (b / 2 * (2 * h) + h + q) % (2 * h) = h + q := by rw [Nat.add_assoc]; exact Nat.mul_add_mod_of_lt (by omega)
      rw [m, if_neg (by omega), ← Nat.two_mul, show b / 2 * (2 * h) + h + q - h = b / 2 * (2 * h) + q from by omega, show b / 2 * (2 * h) + h + q = b / 2 * (2 * h) + (h + q) from by omega, Nat.add_sub_cancel_left]
    rw [e3, ss_p_add (ρ * x) h q, ss_p_mulb ρ x h, hx, hr, ss_p_mulb]
    grobner
/-- the root of the component, and its inverse -/
def ss_w : ss_F := 7311
def ss_wi : ss_F := 9650
theorem ss_w_i : ss_w * ss_wi = 1 := by decide +kernel
theorem ss_w32 : ss_p ss_w 32 = -1 := by decide +kernel
theorem ss_wL {L h : Nat} (e : 2 ^ L * h = 32) : ss_p (ss_p ss_w (2 ^ L)) h = -1 := by rw [← ss_p_mul, e, ss_w32]
def ss_T (A : Nat → ss_F) : Nat → Nat → ss_F
  | 0 => A
  | L + 1 => ss_pt (32 / 2 ^ L) (ss_p ss_w (2 ^ L)) (ss_T A L)
def ss_Bk (A : Nat → ss_F) : Nat → Nat → ss_F
  | 0 => A
  | L + 1 => ss_jn (2 ^ L) (ss_p ss_wi (2 ^ (5 - L))) (ss_Bk A L)
theorem ss_T_EV (A : Nat → ss_F) : ss_EV ss_w A 6 1 (ss_T A 6) := by
  have h0 := ss_EV0 ss_w A
  have h1 := ss_EVs (L := 0) (h := 32) (Or.inl rfl) h0 (ss_wL (by decide))
  have h2 := ss_EVs (L := 1) (h := 16) (Or.inr (Or.inl rfl)) h1 (ss_wL (by decide))
  have h3 := ss_EVs (L := 2) (h := 8) (Or.inr (Or.inr (Or.inl rfl))) h2 (ss_wL (by decide))
  have h4 := ss_EVs (L := 3) (h := 4) (Or.inr (Or.inr (Or.inr (Or.inl rfl)))) h3 (ss_wL (by decide))
  have h5 := ss_EVs (L := 4) (h := 2) (Or.inr (Or.inr (Or.inr (Or.inr (Or.inl rfl))))) h4 (ss_wL (by decide))
  exact ss_EVs (L := 5) (h := 1) (Or.inr (Or.inr (Or.inr (Or.inr (Or.inr rfl))))) h5 (ss_wL (by decide))
theorem ss_T_v (A : Nat → ss_F) {b : Nat} (hb : b < 64) : ss_T A 6 b = ss_v 64 A (ss_th ss_w 6 b) := by
  have e := ss_T_EV A b (by omega) 1 (ss_p_one 1)
  have e1 : (1 : ss_F) * ss_th ss_w 6 b = ss_th ss_w 6 b := by grobner
  rw [e1, ss_ss, ss_s0, ss_p0, show b * 1 + 0 = b from by omega] at e
  rw [← e]
  grobner
theorem ss_wiL (L : Nat) : ss_p ss_w L * ss_p ss_wi L = 1 := by rw [← ss_p_mulb, ss_w_i, ss_p_one]
theorem ss_B_T (A B : Nat → ss_F) (hB : ∀ j, j < 64 → B j = ss_T A 6 j) : ∀ j, j < 64 → ss_Bk B 6 j = ss_n 64 * A j := by
  have k0 : ∀ j, j < 64 → B j = 1 * ss_pt 1 (ss_p ss_w (2 ^ 5)) (ss_T A 5) j := fun j hj => by
    rw [hB j hj]
    have e : ∀ t : ss_F, 1 * t = t := fun t => by grobner
    rw [e]
    rfl
  have k1 := ss_jn_pt (h := 1) (Or.inr (Or.inr (Or.inr (Or.inr (Or.inr rfl))))) (ss_wiL (2 ^ 5)) _ _ k0
  have k2 := ss_jn_pt (h := 2) (A := ss_T A 4) (ρ := ss_p ss_w (2 ^ 4)) (Or.inr (Or.inr (Or.inr (Or.inr (Or.inl rfl))))) (ss_wiL (2 ^ 4)) _ k1
  have k3 := ss_jn_pt (h := 4) (A := ss_T A 3) (ρ := ss_p ss_w (2 ^ 3)) (Or.inr (Or.inr (Or.inr (Or.inl rfl)))) (ss_wiL (2 ^ 3)) _ k2
  have k4 := ss_jn_pt (h := 8) (A := ss_T A 2) (ρ := ss_p ss_w (2 ^ 2)) (Or.inr (Or.inr (Or.inl rfl))) (ss_wiL (2 ^ 2)) _ k3
  have k5 := ss_jn_pt (h := 16) (A := ss_T A 1) (ρ := ss_p ss_w (2 ^ 1)) (Or.inr (Or.inl rfl)) (ss_wiL (2 ^ 1)) _ k4
  have k6 := ss_jn_pt (h := 32) (A := ss_T A 0) (ρ := ss_p ss_w (2 ^ 0)) (Or.inl rfl) (ss_wiL (2 ^ 0)) _ k5
  intro j hj
  have e := k6 j hj
  have c : (((((1 + 1 + (1 + 1)) + (1 + 1 + (1 + 1))) + ((1 + 1 + (1 + 1)) + (1 + 1 + (1 + 1)))) + (((1 + 1 + (1 + 1)) + (1 + 1 + (1 + 1))) + ((1 + 1 + (1 + 1)) + (1 + 1 + (1 + 1))))) + ((((1 + 1 + (1 + 1)) + (1 + 1 + (1 + 1))) + ((1 + 1 + (1 + 1)) + (1 + 1 + (1 + 1)))) + (((1 + 1 + (1 + 1)) + (1 + 1 + (1 + 1))) + ((1 + 1 + (1 + 1)) + (1 + 1 + (1 + 1))))) : ss_F) = ss_n 64 := by decide
  rw [c] at e
  exact e
theorem ss_ntt (l r B : Nat → ss_F) (hB : ∀ j, j < 64 → B j = ss_T (ss_k l) 6 j * ss_T (ss_k r) 6 j) {n : Nat} (hn : n < 32) : ss_Bk B 6 n * ss_n 12097 = ss_c l r n := by
  have cut : ∀ (f : Nat → ss_F) x, ss_v 64 (ss_k f) x = ss_v 32 f x := by
    intro f x
    unfold ss_v
    rw [ss_s_cut (m := 32) (by omega) (fun j h1 _ => by rw [ss_k_ge h1]; grobner)]
    exact ss_s_congr (fun j hj => by rw [ss_k_lt hj])
  have h := ss_B_T (ss_c (ss_k l) (ss_k r)) B (fun j hj => by rw [hB j hj, ss_T_v _ hj, ss_T_v _ hj, ss_T_v _ hj, cut, cut, ss_v_c l r _ (by omega)]) n (by omega)
  rw [h, ss_c_k hn]
  have e : ss_n 64 * ss_n 12097 = 1 := by decide
  generalize ss_n 64 = x at e
  generalize ss_n 12097 = y at e
  grobner
end
section
/-! values at 0 .. 62: differences, and Newton's form -/
def ss_ff (y : ss_F) : Nat → ss_F → ss_F
  | 0, _ => 1
  | r + 1, z => z * ss_ff y r (z - 1)
/-- the falling product x (x - 1) .. of r factors -/
def ss_f (x : ss_F) (r : Nat) : ss_F := ss_ff 0 r x
theorem ss_f0 (x : ss_F) : ss_f x 0 = 1 := rfl
theorem ss_fs (x : ss_F) (r : Nat) : ss_f x (r + 1) = x * ss_f (x - 1) r := rfl
theorem ss_f_last (r : Nat) : ∀ x, ss_f x (r + 1) = ss_f x r * (x - ss_n r) := by
  induction r with
  | zero =>
    intro x
    rw [ss_fs, ss_f0, ss_f0, ss_n0]
    grobner
  | succ r ih =>
    intro x
    rw [ss_fs, ih (x - 1), ss_fs x r, ss_n_succ]
    grobner
def ss_bc : Nat → Nat → ss_F
  | _, 0 => 1
  | 0, _ + 1 => 0
  | m + 1, k + 1 => ss_bc m k + ss_bc m (k + 1)
theorem ss_bc0 (m : Nat) : ss_bc m 0 = 1 := by cases m <;> rfl
theorem ss_bcz (k : Nat) : ss_bc 0 (k + 1) = 0 := rfl
theorem ss_bcs (m k : Nat) : ss_bc (m + 1) (k + 1) = ss_bc m k + ss_bc m (k + 1) := rfl
theorem ss_bc_lt : ∀ m k, m < k → ss_bc m k = 0 := by
  intro m
  induction m with
  | zero =>
    intro k h
    obtain ⟨j, rfl⟩ : ∃ j, k = j + 1 := ⟨k - 1, by omega⟩
    rfl
  | succ m ih =>
    intro k h
    obtain ⟨j, rfl⟩ : ∃ j, k = j + 1 := ⟨k - 1, by omega⟩
    rw [ss_bcs, ih j (by omega), ih (j + 1) (by omega)]
    grobner
theorem ss_bc_eq : ∀ m, ss_bc m m = 1 := by
  intro m
  induction m with
  | zero => rfl
  | succ m ih => rw [ss_bcs, ih, ss_bc_lt m (m + 1) (by omega)]; grobner
theorem ss_bc_mul : ∀ m k, ss_n (k + 1) * ss_bc m (k + 1) = (ss_n m - ss_n k) * ss_bc m k := by
  intro m
  induction m with
  | zero =>
    intro k
    cases k with
    | zero => rw [ss_bcz, ss_bc0, ss_n0]; grobner
    | succ j => rw [ss_bcz, ss_bcz]; grobner
  | succ m ih =>
    intro k
    cases k with
    | zero =>
      have i := ih 0
      rw [ss_bc0, ss_n0] at i
      rw [ss_bcs, ss_bc0, ss_bc0, ss_n0, ss_n_succ m]
      rw [ss_n_succ, ss_n0] at i
      rw [ss_n_succ, ss_n0]
      generalize ss_bc m (0 + 1) = B at i
      generalize ss_n m = M at i
      grobner
    | succ j =>
      have i1 := ih (j + 1)
      have i0 := ih j
      rw [ss_bcs, ss_bcs, ss_n_succ m]
      rw [ss_n_succ (j + 1), ss_n_succ j] at i1
      rw [ss_n_succ j] at i0
      rw [ss_n_succ (j + 1), ss_n_succ j]
      generalize ss_bc m (j + 1 + 1) = B2 at i1
      generalize ss_bc m (j + 1) = B1 at i1 i0
      generalize ss_bc m j = B0 at i0
      generalize ss_n m = M at i1 i0
      generalize ss_n j = J at i1 i0
      grobner
/-- the difference of order k of the falling product of m factors, over k! -/
def ss_df (m k : Nat) (x : ss_F) : ss_F := ss_bc m k * ss_f (x - ss_n k) (m - k)
theorem ss_df_s (m k : Nat) (x : ss_F) : ss_n (k + 1) * ss_df m (k + 1) x = ss_df m k x - ss_df m k (x - 1) := by
  unfold ss_df
  by_cases h : m ≤ k
  · rw [ss_bc_lt m (k + 1) (by omega), show m - k = 0 from by omega, ss_f0, ss_f0]
    grobner
  · obtain ⟨r, rfl⟩ : ∃ r, m = k + r + 1 := ⟨m - k - 1, by omega⟩
    rw [show k + r + 1 - k = r + 1 from by omega, show k + r + 1 - (k + 1) = r from by omega]
    have e := ss_bc_mul (k + r + 1) k
    have e1 : ss_f (x - ss_n k) (r + 1) = (x - ss_n k) * ss_f (x - ss_n (k + 1)) r := by
      rw [ss_fs]
      congr 2
      rw [ss_n_succ]
      grobner
    have e2 : ss_f (x - 1 - ss_n k) (r + 1) = ss_f (x - ss_n (k + 1)) r * (x - ss_n (k + 1) - ss_n r) := by
      have : x - 1 - ss_n k = x - ss_n (k + 1) := by rw [ss_n_succ]; grobner
      rw [this, ss_f_last]
    rw [e1, e2]
    rw [ss_n_succ (k + r), ss_n_add k r] at e
    rw [ss_n_succ k] at e ⊢
    generalize ss_bc (k + r + 1) (k + 1) = B1 at e
    generalize ss_bc (k + r + 1) k = B0 at e
    generalize ss_f (x - (ss_n k + 1)) r = Y
    generalize ss_n k = K at e
    generalize ss_n r = R at e
    grobner
def ss_dv (d : Nat → ss_F) (k x : Nat) : ss_F := ss_s (fun m => d m * ss_df m k (ss_n x)) 63
theorem ss_dv_s (d : Nat → ss_F) {k x : Nat} (hk : k < 62) (hx : 0 < x) : (ss_dv d k x - ss_dv d k (x - 1)) * ss_i (ss_n (k + 1)) = ss_dv d (k + 1) x := by
  have e : ss_n (x - 1) = ss_n x - 1 := by
    obtain ⟨y, rfl⟩ : ∃ y, x = y + 1 := ⟨x - 1, by omega⟩
    rw [Nat.add_sub_cancel, ss_n_succ]
    grobner
  have e2 : ss_dv d k x - ss_dv d k (x - 1) = ss_n (k + 1) * ss_dv d (k + 1) x := by
    unfold ss_dv
    rw [e, ← ss_s_sub, ← ss_s_mul]
    apply ss_s_congr
    intro m _
    have := ss_df_s m k (ss_n x)
    generalize ss_df m k (ss_n x) = a at this
    generalize ss_df m k (ss_n x - 1) = b at this
    generalize ss_df m (k + 1) (ss_n x) = c at this
    grobner
  rw [e2]
  have i := ss_i_mul (ss_n_ne (n := k + 1) (by omega) (by omega))
  generalize ss_i (ss_n (k + 1)) = v at i
  grobner
theorem ss_dv_d (d : Nat → ss_F) {x : Nat} (hx : x < 63) : ss_dv d x x = d x := by
  unfold ss_dv
  rw [ss_s_one hx]
  · unfold ss_df
    rw [ss_bc_eq, Nat.sub_self, ss_f0]
    grobner
  · intro m hm hne
    unfold ss_df
    by_cases h : m < x
    · rw [ss_bc_lt m x h]
      grobner
    · obtain ⟨r, hr⟩ : ∃ r, m - x = r + 1 := ⟨m - x - 1, by omega⟩
      have z : ss_n x - ss_n x = 0 := by grobner
      rw [hr, z, ss_fs]
      grobner
/-- Newton's form from the point k on, L factors, as a series -/
def ss_nw (d : Nat → ss_F) : Nat → Nat → Nat → ss_F
  | 0, _, _ => 0
  | L + 1, k, 0 => d k - ss_n k * ss_nw d L (k + 1) 0
  | L + 1, k, n + 1 => ss_nw d L (k + 1) n - ss_n k * ss_nw d L (k + 1) (n + 1)
theorem ss_nw_z (d : Nat → ss_F) (k n : Nat) : ss_nw d 0 k n = 0 := rfl
theorem ss_nw_0 (d : Nat → ss_F) (L k : Nat) : ss_nw d (L + 1) k 0 = d k - ss_n k * ss_nw d L (k + 1) 0 := rfl
theorem ss_nw_s (d : Nat → ss_F) (L k n : Nat) : ss_nw d (L + 1) k (n + 1) = ss_nw d L (k + 1) n - ss_n k * ss_nw d L (k + 1) (n + 1) := rfl
theorem ss_nw_congr {d e : Nat → ss_F} : ∀ L k, (∀ i, k ≤ i → d i = e i) → ∀ n, ss_nw d L k n = ss_nw e L k n := by
  intro L
  induction L with
  | zero => intro k _ n; rfl
  | succ L ih =>
    intro k h n
    have i := ih (k + 1) (fun i hi => h i (by omega))
    cases n with
    | zero => rw [ss_nw_0, ss_nw_0, i 0, h k (by omega)]
    | succ n => rw [ss_nw_s, ss_nw_s, i n, i (n + 1)]
theorem ss_nw_big (d : Nat → ss_F) : ∀ L k n, L ≤ n → ss_nw d L k n = 0 := by
  intro L
  induction L with
  | zero => intro k n _; rfl
  | succ L ih =>
    intro k n h
    obtain ⟨j, rfl⟩ : ∃ j, n = j + 1 := ⟨n - 1, by omega⟩
    rw [ss_nw_s, ih _ j (by omega), ih _ (j + 1) (by omega)]
    grobner
theorem ss_nw_ex : ∀ L k (c : Nat → ss_F), (∀ n, L ≤ n → c n = 0) → ∃ d, ∀ n, ss_nw d L k n = c n := by
  intro L
  induction L with
  | zero => exact fun k c h => ⟨fun _ => 0, fun n => (h n (Nat.zero_le n)).symm⟩
  | succ L ih =>
    intro k c h
    have hq : ∀ n, ss_s (fun i => c (n + 1 + i) * ss_p (ss_n k) i) L = c (n + 1) + ss_n k * ss_s (fun i => c (n + 1 + 1 + i) * ss_p (ss_n k) i) L := by
      intro n
      have e1 : ss_s (fun i => c (n + 1 + i) * ss_p (ss_n k) i) (L + 1) = ss_s (fun i => c (n + 1 + i) * ss_p (ss_n k) i) L := by
        rw [ss_ss, h (n + 1 + L) (by omega)]
        grobner
      rw [← e1, ss_s_front, ← ss_s_mul]
      congr 1
      · show c (n + 1 + 0) * ss_p (ss_n k) 0 = _
        rw [ss_p0]
        show c (n + 1) * 1 = _
        grobner
      · apply ss_s_congr
        intro i _
        rw [ss_ps, show n + 1 + (i + 1) = n + 1 + 1 + i from by omega]
        grobner
    obtain ⟨d', hd⟩ := ih (k + 1) (fun n => ss_s (fun i => c (n + 1 + i) * ss_p (ss_n k) i) L) (fun n hn => ss_s_zero (fun i _ => by rw [h (n + 1 + i) (by omega)]; grobner))
    refine ⟨fun i => if i = k then c 0 + ss_n k * ss_s (fun i => c (0 + 1 + i) * ss_p (ss_n k) i) L else d' i, fun n => ?_⟩
    have cg := ss_nw_congr (d := fun i => if i = k then c 0 + ss_n k * ss_s (fun i => c (0 + 1 + i) * ss_p (ss_n k) i) L else d' i) (e := d') L (k + 1) (fun i hi => if_neg (by omega))
    cases n with
    | zero =>
      rw [ss_nw_0, cg 0, hd 0, if_pos rfl]
      generalize ss_s (fun i => c (0 + 1 + i) * ss_p (ss_n k) i) L = t
      grobner
    | succ n =>
      rw [ss_nw_s, cg n, cg (n + 1), hd n, hd (n + 1)]
      try dsimp only
      rw [hq n]
      generalize ss_s (fun i => c (n + 1 + 1 + i) * ss_p (ss_n k) i) L = t
      grobner
theorem ss_nw_v (d : Nat → ss_F) (x : ss_F) : ∀ L k M, L ≤ M → ss_v M (ss_nw d L k) x = ss_s (fun i => d (k + i) * ss_f (x - ss_n k) i) L := by
  intro L
  induction L with
  | zero =>
    intro k M _
    exact ss_s_zero (fun i _ => by rw [ss_nw_z]; grobner)
  | succ L ih =>
    intro k M hM
    obtain ⟨M, rfl⟩ : ∃ M', M = M' + 1 := ⟨M - 1, by omega⟩
    have v0 := ih (k + 1) M (by omega)
    have v1 : ss_v (M + 1) (ss_nw d L (k + 1)) x = ss_v M (ss_nw d L (k + 1)) x := by
      unfold ss_v
      rw [ss_ss, ss_nw_big d L (k + 1) M (by omega)]
      grobner
    have f1 : ss_v (M + 1) (ss_nw d L (k + 1)) x = ss_nw d L (k + 1) 0 + ss_s (fun i => ss_nw d L (k + 1) (i + 1) * ss_p x (i + 1)) M := by
      unfold ss_v
      rw [ss_s_front, ss_p0]
      grobner
    have f2 : ss_v (M + 1) (ss_nw d (L + 1) k) x = d k - ss_n k * ss_nw d L (k + 1) 0 + (x * ss_v M (ss_nw d L (k + 1)) x - ss_n k * ss_s (fun i => ss_nw d L (k + 1) (i + 1) * ss_p x (i + 1)) M) := by
      have g0 : ss_v (M + 1) (ss_nw d (L + 1) k) x = ss_nw d (L + 1) k 0 * ss_p x 0 + ss_s (fun i => ss_nw d (L + 1) k (i + 1) * ss_p x (i + 1)) M := ss_s_front _ M
      rw [g0, ss_p0, ss_nw_0]
      have g1 : ss_s (fun i => ss_nw d (L + 1) k (i + 1) * ss_p x (i + 1)) M = x * ss_v M (ss_nw d L (k + 1)) x - ss_n k * ss_s (fun i => ss_nw d L (k + 1) (i + 1) * ss_p x (i + 1)) M := by
        unfold ss_v
        rw [← ss_s_mul, ← ss_s_mul, ← ss_s_sub]
        apply ss_s_congr
        intro i _
        rw [ss_nw_s, ss_ps]
        grobner
      rw [g1]
      grobner
    rw [ss_s_front]
    have f3 : ss_s (fun i => d (k + (i + 1)) * ss_f (x - ss_n k) (i + 1)) L = (x - ss_n k) * ss_s (fun i => d (k + 1 + i) * ss_f (x - ss_n (k + 1)) i) L := by
      rw [← ss_s_mul]
      apply ss_s_congr
      intro i _
      have : x - ss_n k - 1 = x - ss_n (k + 1) := by rw [ss_n_succ]; grobner
      rw [ss_fs, this, show k + (i + 1) = k + 1 + i from by omega]
      grobner
    rw [f3, ← v0, f2, ss_f0]
    rw [v1] at f1
    show _ = d (k + 0) * 1 + _
    rw [Nat.add_zero]
    generalize ss_s (fun i => ss_nw d L (k + 1) (i + 1) * ss_p x (i + 1)) M = S at f1
    generalize ss_v M (ss_nw d L (k + 1)) x = V at f1
    generalize ss_nw d L (k + 1) 0 = G at f1
    grobner
/-- what the points hold: the product's values are a difference table of Newton's form of the product -/
theorem ss_newton (l r : Nat → ss_F) : ∃ d : Nat → ss_F, (∀ x, ss_v 32 l (ss_n x) * ss_v 32 r (ss_n x) = ss_dv d 0 x) ∧ ∀ n, n < 32 → ss_nw d 63 0 n = ss_c l r n := by
  obtain ⟨d, hd⟩ := ss_nw_ex 63 0 (ss_c (ss_k l) (ss_k r)) (fun n hn => ss_c_big hn)
  refine ⟨d, fun x => ?_, fun n hn => by rw [hd n, ss_c_k hn]⟩
  rw [← ss_v_c l r (ss_n x) (m := 63) (by omega)]
  have e : ss_v 63 (ss_c (ss_k l) (ss_k r)) (ss_n x) = ss_v 63 (ss_nw d 63 0) (ss_n x) := ss_s_congr (fun i _ => by rw [hd i])
  rw [e, ss_nw_v d (ss_n x) 63 0 63 (by omega)]
  apply ss_s_congr
  intro m _
  unfold ss_df
  rw [ss_bc0, Nat.zero_add, Nat.sub_zero]
  grobner
/-- Horner's steps from the top -/
def ss_h (f : Nat → ss_F) (x : ss_F) (k : Nat) : ss_F := ss_s (fun i => f (k + i) * ss_p x i) (32 - k)
theorem ss_h32 (f : Nat → ss_F) (x : ss_F) : ss_h f x 32 = 0 := rfl
theorem ss_h0 (f : Nat → ss_F) (x : ss_F) : ss_h f x 0 = ss_v 32 f x := by
  apply ss_s_congr
  intro i _
  rw [Nat.zero_add]
theorem ss_hs (f : Nat → ss_F) (x : ss_F) {k : Nat} (h : k < 32) : ss_h f x k = ss_h f x (k + 1) * x + f k := by
  unfold ss_h
  rw [show 32 - k = (32 - (k + 1)) + 1 from by omega, ss_s_front, ← ss_s_mulr, ss_p0]
  have e : ss_s (fun i => f (k + (i + 1)) * ss_p x (i + 1)) (32 - (k + 1)) = ss_s (fun i => f (k + 1 + i) * ss_p x i * x) (32 - (k + 1)) := by
    apply ss_s_congr
    intro i _
    rw [ss_ps, show k + (i + 1) = k + 1 + i from by omega]
    grobner
  rw [e]
  show f (k + 0) * 1 + _ = _
  rw [Nat.add_zero]
  grobner
end
section
/-! Karatsuba's pieces: digits of base three -/
theorem ss_dig3 {k m : Nat} (h : k < m) (a d : Nat) : (a + d * 3 ^ m) / 3 ^ k % 3 = a / 3 ^ k % 3 := by
  obtain ⟨t, rfl⟩ : ∃ t, m = k + t + 1 := ⟨m - k - 1, by omega⟩
  have e : d * 3 ^ (k + t + 1) = 3 ^ k * (d * 3 ^ t * 3) := by
    rw [Nat.pow_succ, Nat.pow_add]
    grind
  rw [e, Nat.add_mul_div_left _ _ (Nat.pow_pos (by decide)), Nat.add_mul_mod_self_right]
theorem ss_dig2 {k m : Nat} (h : k < m) (a d : Nat) : (a + d * 2 ^ m) / 2 ^ k % 2 = a / 2 ^ k % 2 := by
  obtain ⟨t, rfl⟩ : ∃ t, m = k + t + 1 := ⟨m - k - 1, by omega⟩
  have e : d * 2 ^ (k + t + 1) = 2 ^ k * (d * 2 ^ t * 2) := by
    rw [Nat.pow_succ, Nat.pow_add]
    grind
  rw [e, Nat.add_mul_div_left _ _ (Nat.pow_pos (by decide)), Nat.add_mul_mod_self_right]
theorem ss_top3 {m a d : Nat} (h : a < 3 ^ m) (hd : d < 3) : (a + d * 3 ^ m) / 3 ^ m % 3 = d := by
  rw [Nat.add_mul_div_right _ _ (Nat.pow_pos (by decide)), Nat.div_eq_of_lt h, Nat.zero_add]
  omega
theorem ss_top2 {m a d : Nat} (h : a < 2 ^ m) (hd : d < 2) : (a + d * 2 ^ m) / 2 ^ m % 2 = d := by
  rw [Nat.add_mul_div_right _ _ (Nat.pow_pos (by decide)), Nat.div_eq_of_lt h, Nat.zero_add]
  omega
/-- a digit 2 leaves room below -/
theorem ss_room {k a : Nat} (h : a / 3 ^ k % 3 = 2) : 2 * 3 ^ k ≤ a := by
  have h1 : 2 ≤ a / 3 ^ k := by generalize a / 3 ^ k = q at h; omega
  have h2 : a / 3 ^ k * 3 ^ k ≤ a := Nat.div_mul_le_self a (3 ^ k)
  have h3 : 2 * 3 ^ k ≤ a / 3 ^ k * 3 ^ k := Nat.mul_le_mul_right _ h1
  omega
def ss_sp (k : Nat) (v : Nat → ss_F) : Nat → ss_F := fun a => if a / 3 ^ k % 3 = 2 then v (a - 3 ^ k) + v (a - 2 * 3 ^ k) else v a
def ss_se (k : Nat) (v : Nat → ss_F) : Nat → ss_F := fun a => if a / 3 ^ k % 3 = 2 then v a - v (a - 3 ^ k) - v (a - 2 * 3 ^ k) else v a
def ss_spN : Nat → (Nat → ss_F) → Nat → ss_F
  | 0, v => v
  | m + 1, v => ss_sp m (ss_spN m v)
def ss_seN : Nat → (Nat → ss_F) → Nat → ss_F
  | 0, v => v
  | m + 1, v => ss_se m (ss_seN m v)
theorem ss_sp_t {k a : Nat} {v : Nat → ss_F} (h : a / 3 ^ k % 3 = 2) : ss_sp k v a = v (a - 3 ^ k) + v (a - 2 * 3 ^ k) := if_pos h
theorem ss_sp_f {k a : Nat} {v : Nat → ss_F} (h : ¬ a / 3 ^ k % 3 = 2) : ss_sp k v a = v a := if_neg h
theorem ss_se_t {k a : Nat} {v : Nat → ss_F} (h : a / 3 ^ k % 3 = 2) : ss_se k v a = v a - v (a - 3 ^ k) - v (a - 2 * 3 ^ k) := if_pos h
theorem ss_se_f {k a : Nat} {v : Nat → ss_F} (h : ¬ a / 3 ^ k % 3 = 2) : ss_se k v a = v a := if_neg h
theorem ss_spN_sh (m d : Nat) (v : Nat → ss_F) : ∀ k, k ≤ m → ∀ a, a < 3 ^ m → ss_spN k v (a + d * 3 ^ m) = ss_spN k (fun j => v (j + d * 3 ^ m)) a := by
  intro k
  induction k with
  | zero => intro _ a _; rfl
  | succ k ih =>
    intro hk a ha
    show ss_sp k (ss_spN k v) (a + d * 3 ^ m) = ss_sp k (ss_spN k (fun j => v (j + d * 3 ^ m))) a
    have dg := ss_dig3 (k := k) (m := m) (by omega) a d
    by_cases h : a / 3 ^ k % 3 = 2
    · have rm := ss_room h
      rw [ss_sp_t h, ss_sp_t (dg.trans h), show a + d * 3 ^ m - 3 ^ k = (a - 3 ^ k) + d * 3 ^ m from by omega, show a + d * 3 ^ m - 2 * 3 ^ k = (a - 2 * 3 ^ k) + d * 3 ^ m from by omega, ih (by omega) (a - 3 ^ k) (by omega), ih (by omega) (a - 2 * 3 ^ k) (by omega)]
    · rw [ss_sp_f h, ss_sp_f (by rw [dg]; exact h), ih (by omega) a ha]
theorem ss_seN_sh (m d : Nat) (v : Nat → ss_F) : ∀ k, k ≤ m → ∀ a, a < 3 ^ m → ss_seN k v (a + d * 3 ^ m) = ss_seN k (fun j => v (j + d * 3 ^ m)) a := by
  intro k
  induction k with
  | zero => intro _ a _; rfl
  | succ k ih =>
    intro hk a ha
    show ss_se k (ss_seN k v) (a + d * 3 ^ m) = ss_se k (ss_seN k (fun j => v (j + d * 3 ^ m))) a
    have dg := ss_dig3 (k := k) (m := m) (by omega) a d
    by_cases h : a / 3 ^ k % 3 = 2
    · have rm := ss_room h
      rw [ss_se_t h, ss_se_t (dg.trans h), show a + d * 3 ^ m - 3 ^ k = (a - 3 ^ k) + d * 3 ^ m from by omega, show a + d * 3 ^ m - 2 * 3 ^ k = (a - 2 * 3 ^ k) + d * 3 ^ m from by omega, ih (by omega) (a - 3 ^ k) (by omega), ih (by omega) (a - 2 * 3 ^ k) (by omega), ih (by omega) a ha]
    · rw [ss_se_f h, ss_se_f (by rw [dg]; exact h), ih (by omega) a ha]
theorem ss_seN_congr {N : Nat} {v u : Nat → ss_F} (h : ∀ j, j < N → v j = u j) : ∀ k a, a < N → ss_seN k v a = ss_seN k u a := by
  intro k
  induction k with
  | zero => exact h
  | succ k ih =>
    intro a ha
    show ss_se k (ss_seN k v) a = ss_se k (ss_seN k u) a
    by_cases g : a / 3 ^ k % 3 = 2
    · rw [ss_se_t g, ss_se_t g, ih a ha, ih (a - 3 ^ k) (Nat.lt_of_le_of_lt (Nat.sub_le _ _) ha), ih (a - 2 * 3 ^ k) (Nat.lt_of_le_of_lt (Nat.sub_le _ _) ha)]
    · rw [ss_se_f g, ss_se_f g, ih a ha]
theorem ss_spN_add (v u : Nat → ss_F) : ∀ k a, ss_spN k (fun j => v j + u j) a = ss_spN k v a + ss_spN k u a := by
  intro k
  induction k with
  | zero => intro a; rfl
  | succ k ih =>
    intro a
    show ss_sp k (ss_spN k (fun j => v j + u j)) a = ss_sp k (ss_spN k v) a + ss_sp k (ss_spN k u) a
    by_cases g : a / 3 ^ k % 3 = 2
    · rw [ss_sp_t g, ss_sp_t g, ss_sp_t g, ih, ih]
      grobner
    · rw [ss_sp_f g, ss_sp_f g, ss_sp_f g, ih]
/-- the power of a piece, the piece of a place -/
def ss_wt (d : Nat) : Nat := if d = 1 then 2 else if d = 2 then 1 else 0
def ss_pN (m a : Nat) : Nat := ss_sN (fun k => ss_wt (a / 3 ^ k % 3) * 2 ^ k) m
def ss_pc (m n : Nat) : Nat := ss_sN (fun k => n / 2 ^ k % 2 * 3 ^ k) m
theorem ss_pN_s {m a d : Nat} (h : a < 3 ^ m) (hd : d < 3) : ss_pN (m + 1) (a + d * 3 ^ m) = ss_pN m a + ss_wt d * 2 ^ m := by
  unfold ss_pN
  rw [ss_sNs, ss_top3 h hd]
  congr 1
  exact ss_sN_congr (fun k hk => by rw [ss_dig3 hk])
theorem ss_pc_s {m n d : Nat} (h : n < 2 ^ m) (hd : d < 2) : ss_pc (m + 1) (n + d * 2 ^ m) = ss_pc m n + d * 3 ^ m := by
  unfold ss_pc
  rw [ss_sNs, ss_top2 h hd]
  congr 1
  exact ss_sN_congr (fun k hk => by rw [ss_dig2 hk])
def ss_Pl (m : Nat) (v l : Nat → ss_F) : Prop := ∀ n, n < 2 ^ m → v (ss_pc m n) = l n
/-- all products l i * r j, weighed by i + j -/
def ss_K (N : Nat) (l r ψ : Nat → ss_F) : ss_F := ss_s (fun i => ss_s (fun j => l i * r j * ψ (i + j)) N) N
theorem ss_K_l (N : Nat) (l l' r ψ : Nat → ss_F) : ss_K N (fun i => l i + l' i) r ψ = ss_K N l r ψ + ss_K N l' r ψ := by
  unfold ss_K
  rw [← ss_s_add]
  apply ss_s_congr
  intro i _
  try dsimp only
  rw [← ss_s_add]
  exact ss_s_congr (fun j _ => by grobner)
theorem ss_K_r (N : Nat) (l r r' ψ : Nat → ss_F) : ss_K N l (fun i => r i + r' i) ψ = ss_K N l r ψ + ss_K N l r' ψ := by
  unfold ss_K
  rw [← ss_s_add]
  apply ss_s_congr
  intro i _
  try dsimp only
  rw [← ss_s_add]
  exact ss_s_congr (fun j _ => by grobner)
theorem ss_K_ss (N : Nat) (l r ψ : Nat → ss_F) : ss_K (N + N) l r ψ = ss_K N l r ψ + ss_K N l (fun j => r (N + j)) (fun t => ψ (t + N)) + (ss_K N (fun i => l (N + i)) r (fun t => ψ (t + N)) + ss_K N (fun i => l (N + i)) (fun j => r (N + j)) (fun t => ψ (t + 2 * N))) := by
  unfold ss_K
  rw [ss_s_split]
  congr 1
  · rw [← ss_s_add]
    apply ss_s_congr
    intro i _
    try dsimp only
    rw [ss_s_split]
    congr 1
    exact ss_s_congr (fun j _ => by rw [show i + (N + j) = i + j + N from by omega])
  · rw [← ss_s_add]
    apply ss_s_congr
    intro i _
    try dsimp only
    rw [ss_s_split]
    congr 1
    · exact ss_s_congr (fun j _ => by rw [show N + i + j = i + j + N from by omega])
    · exact ss_s_congr (fun j _ => by rw [show N + i + (N + j) = i + j + 2 * N from by omega])
theorem ss_dist3 (p q r y : ss_F) : (p - q - r) * y = p * y - q * y - r * y := by grobner
theorem ss_dist4 (x1 x2 x3 x4 a b : ss_F) : x4 + (x1 + (x2 + a + (b + x3) - x2 - x3)) = x4 + b + (a + x1) := by grobner
theorem ss_kara : ∀ (m : Nat) (v u l r ψ : Nat → ss_F), ss_Pl m v l → ss_Pl m u r → ss_s (fun a => ss_seN m (fun j => ss_spN m v j * ss_spN m u j) a * ψ (ss_pN m a)) (3 ^ m) = ss_K (2 ^ m) l r ψ := by
  intro m
  induction m with
  | zero =>
    intro v u l r ψ hv hu
    have e1 := hv 0 (by decide)
    have e2 := hu 0 (by decide)
    have z : ss_pc 0 0 = 0 := rfl
    rw [z] at e1 e2
    show (0 : ss_F) + v 0 * u 0 * ψ 0 = 0 + (0 + l 0 * r 0 * ψ 0)
    rw [e1, e2]
    grobner
  | succ m ih =>
    intro v u l r ψ hv hu
    have pos : 0 < 3 ^ m := Nat.pow_pos (by decide)
    -- the three thirds of the spread
    have S : ∀ (w : Nat → ss_F) (a : Nat), a < 3 ^ m → ss_spN (m + 1) w a = ss_spN m w a ∧ ss_spN (m + 1) w (a + 1 * 3 ^ m) = ss_spN m (fun j => w (j + 1 * 3 ^ m)) a ∧ ss_spN (m + 1) w (a + 2 * 3 ^ m) = ss_spN m (fun j => w (j + 1 * 3 ^ m) + w j) a := by
      intro w a ha
      refine ⟨?_, ?_, ?_⟩
      · refine ss_sp_f ?_
        rw [Nat.div_eq_of_lt ha]
        omega
      · refine (ss_sp_f ?_).trans (ss_spN_sh m 1 w m (Nat.le_refl m) a ha)
        rw [ss_top3 ha (by omega)]
        omega
      · refine (ss_sp_t (ss_top3 ha (by omega))).trans ?_
        rw [show a + 2 * 3 ^ m - 3 ^ m = a + 1 * 3 ^ m from by omega, show a + 2 * 3 ^ m - 2 * 3 ^ m = a from by omega, ss_spN_sh m 1 w m (Nat.le_refl m) a ha, ss_spN_add]
    -- the thirds of the product, separated below
    have Z : ∀ (d : Nat) (V U : Nat → ss_F), (∀ a, a < 3 ^ m → ss_spN (m + 1) v (a + d * 3 ^ m) = V a ∧ ss_spN (m + 1) u (a + d * 3 ^ m) = U a) → ∀ a, a < 3 ^ m → ss_seN m (fun j => ss_spN (m + 1) v j * ss_spN (m + 1) u j) (a + d * 3 ^ m) = ss_seN m (fun j => V j * U j) a := by
      intro d V U h a ha
      rw [ss_seN_sh m d _ m (Nat.le_refl m) a ha]
      exact ss_seN_congr (fun j hj => by rw [(h j hj).1, (h j hj).2]) m a ha
    have Z0 := Z 0 (ss_spN m v) (ss_spN m u) (fun a ha => by rw [Nat.zero_mul, Nat.add_zero]; exact ⟨(S v a ha).1, (S u a ha).1⟩)
    have Z1 := Z 1 _ _ (fun a ha => ⟨(S v a ha).2.1, (S u a ha).2.1⟩)
    have Z2 := Z 2 _ _ (fun a ha => ⟨(S v a ha).2.2, (S u a ha).2.2⟩)
    have hv0 : ss_Pl m v l := fun n hn => by
      have := hv (n + 0 * 2 ^ m) (by rw [Nat.pow_succ]; omega)
      rw [ss_pc_s hn (by omega)] at this
      rw [show ss_pc m n + 0 * 3 ^ m = ss_pc m n from by omega, show n + 0 * 2 ^ m = n from by omega] at this
      exact this
    have hu0 : ss_Pl m u r := fun n hn => by
      have := hu (n + 0 * 2 ^ m) (by rw [Nat.pow_succ]; omega)
      rw [ss_pc_s hn (by omega)] at this
      rw [show ss_pc m n + 0 * 3 ^ m = ss_pc m n from by omega, show n + 0 * 2 ^ m = n from by omega] at this
      exact this
    have hv1 : ss_Pl m (fun j => v (j + 1 * 3 ^ m)) (fun n => l (2 ^ m + n)) := fun n hn => by
      have := hv (n + 1 * 2 ^ m) (by rw [Nat.pow_succ]; omega)
      rw [ss_pc_s hn (by omega)] at this
      show v (ss_pc m n + 1 * 3 ^ m) = l (2 ^ m + n)
      rw [this, show n + 1 * 2 ^ m = 2 ^ m + n from by omega]
    have hu1 : ss_Pl m (fun j => u (j + 1 * 3 ^ m)) (fun n => r (2 ^ m + n)) := fun n hn => by
      have := hu (n + 1 * 2 ^ m) (by rw [Nat.pow_succ]; omega)
      rw [ss_pc_s hn (by omega)] at this
      show u (ss_pc m n + 1 * 3 ^ m) = r (2 ^ m + n)
      rw [this, show n + 1 * 2 ^ m = 2 ^ m + n from by omega]
    have hv2 : ss_Pl m (fun j => v (j + 1 * 3 ^ m) + v j) (fun n => l (2 ^ m + n) + l n) := fun n hn => by
      have a := hv0 n hn
      have b := hv1 n hn
      try dsimp only at b ⊢
      rw [a, b]
    have hu2 : ss_Pl m (fun j => u (j + 1 * 3 ^ m) + u j) (fun n => r (2 ^ m + n) + r n) := fun n hn => by
      have a := hu0 n hn
      have b := hu1 n hn
      try dsimp only at b ⊢
      rw [a, b]
    have I0 := ih _ _ _ _ ψ hv0 hu0
    have I0' := ih _ _ _ _ (fun t => ψ (t + 2 ^ m)) hv0 hu0
    have I1 := ih _ _ _ _ (fun t => ψ (t + 2 * 2 ^ m)) hv1 hu1
    have I1' := ih _ _ _ _ (fun t => ψ (t + 2 ^ m)) hv1 hu1
    have I2 := ih _ _ _ _ (fun t => ψ (t + 2 ^ m)) hv2 hu2
    rw [show 3 ^ (m + 1) = 3 ^ m + (3 ^ m + 3 ^ m) from by rw [Nat.pow_succ]; omega, ss_s_split, ss_s_split]
    have J0 : ss_s (fun a => ss_seN (m + 1) (fun j => ss_spN (m + 1) v j * ss_spN (m + 1) u j) a * ψ (ss_pN (m + 1) a)) (3 ^ m) = ss_K (2 ^ m) l r ψ := by
      rw [← I0]
      apply ss_s_congr
      intro a ha
      have e1 : ss_seN (m + 1) (fun j => ss_spN (m + 1) v j * ss_spN (m + 1) u j) a = ss_seN m (fun j => ss_spN (m + 1) v j * ss_spN (m + 1) u j) a := ss_se_f (by rw [Nat.div_eq_of_lt ha]; omega)
      have e2 := Z0 a ha
      have e3 := ss_pN_s (d := 0) ha (by omega)
      rw [show a + 0 * 3 ^ m = a from by omega] at e2 e3
      rw [e1, e2, e3, show ss_wt 0 * 2 ^ m = 0 from Nat.zero_mul _, Nat.add_zero]
    have J1 : ss_s (fun i => ss_seN (m + 1) (fun j => ss_spN (m + 1) v j * ss_spN (m + 1) u j) (3 ^ m + i) * ψ (ss_pN (m + 1) (3 ^ m + i))) (3 ^ m) = ss_K (2 ^ m) (fun n => l (2 ^ m + n)) (fun n => r (2 ^ m + n)) (fun t => ψ (t + 2 * 2 ^ m)) := by
      rw [← I1]
      apply ss_s_congr
      intro a ha
      rw [show 3 ^ m + a = a + 1 * 3 ^ m from by omega]
      have e1 : ss_seN (m + 1) (fun j => ss_spN (m + 1) v j * ss_spN (m + 1) u j) (a + 1 * 3 ^ m) = ss_seN m (fun j => ss_spN (m + 1) v j * ss_spN (m + 1) u j) (a + 1 * 3 ^ m) := ss_se_f (by rw [ss_top3 ha (by omega)]; omega)
      rw [e1, Z1 a ha, ss_pN_s ha (by omega)]
      rfl
    have J2 : ss_s (fun i => ss_seN (m + 1) (fun j => ss_spN (m + 1) v j * ss_spN (m + 1) u j) (3 ^ m + (3 ^ m + i)) * ψ (ss_pN (m + 1) (3 ^ m + (3 ^ m + i)))) (3 ^ m) = ss_K (2 ^ m) (fun n => l (2 ^ m + n) + l n) (fun n => r (2 ^ m + n) + r n) (fun t => ψ (t + 2 ^ m)) - ss_K (2 ^ m) (fun n => l (2 ^ m + n)) (fun n => r (2 ^ m + n)) (fun t => ψ (t + 2 ^ m)) - ss_K (2 ^ m) l r (fun t => ψ (t + 2 ^ m)) := by
      rw [← I2, ← I1', ← I0', ← ss_s_sub, ← ss_s_sub]
      apply ss_s_congr
      intro a ha
      rw [show 3 ^ m + (3 ^ m + a) = a + 2 * 3 ^ m from by omega]
      have e1 : ss_seN (m + 1) (fun j => ss_spN (m + 1) v j * ss_spN (m + 1) u j) (a + 2 * 3 ^ m) = ss_seN m (fun j => ss_spN (m + 1) v j * ss_spN (m + 1) u j) (a + 2 * 3 ^ m) - ss_seN m (fun j => ss_spN (m + 1) v j * ss_spN (m + 1) u j) (a + 2 * 3 ^ m - 3 ^ m) - ss_seN m (fun j => ss_spN (m + 1) v j * ss_spN (m + 1) u j) (a + 2 * 3 ^ m - 2 * 3 ^ m) := ss_se_t (ss_top3 ha (by omega))
      have e2 := Z0 a ha
      rw [show a + 0 * 3 ^ m = a from by omega] at e2
      rw [e1, show a + 2 * 3 ^ m - 3 ^ m = a + 1 * 3 ^ m from by omega, show a + 2 * 3 ^ m - 2 * 3 ^ m = a from by omega, Z2 a ha, Z1 a ha, e2, ss_pN_s ha (by omega)]
      show (_ - _ - _) * ψ (ss_pN m a + 1 * 2 ^ m) = _
      rw [Nat.one_mul (2 ^ m)]
      exact ss_dist3 _ _ _ _
    rw [J0, J1, J2, show 2 ^ (m + 1) = 2 ^ m + 2 ^ m from by rw [Nat.pow_succ]; omega, ss_K_ss, ss_K_l, ss_K_r, ss_K_r]
    generalize ss_K (2 ^ m) (fun n => l (2 ^ m + n)) (fun n => r (2 ^ m + n)) (fun t => ψ (t + 2 * 2 ^ m)) = x1
    generalize ss_K (2 ^ m) (fun n => l (2 ^ m + n)) (fun n => r (2 ^ m + n)) (fun t => ψ (t + 2 ^ m)) = x2
    generalize ss_K (2 ^ m) l r (fun t => ψ (t + 2 ^ m)) = x3
    generalize ss_K (2 ^ m) l r ψ = x4
    grobner
theorem ss_K_c (l r : Nat → ss_F) {n : Nat} (hn : n < 32) : ss_K 32 l r (fun t => if t = n then 1 else 0) = ss_c l r n := by
  unfold ss_K ss_c
  rw [ss_s_cut (m := n + 1) (by omega) (fun i h1 h2 => ss_s_zero (fun j _ => by show l i * r j * (if i + j = n then 1 else 0) = 0; rw [if_neg (by omega)]; grobner))]
  apply ss_s_congr
  intro i hi
  try dsimp only
  rw [ss_s_one (k := n - i) (by omega) (fun j _ hne => by show l i * r j * (if i + j = n then 1 else 0) = 0; rw [if_neg (by omega)]; grobner)]
  show l i * r (n - i) * (if i + (n - i) = n then 1 else 0) = _
  rw [if_pos (by omega)]
  grobner
end
section
/-! a shifted series: by Horner's steps, and by dividing again and again -/
/-- q (y + x), the m places from i on, by Horner -/
def ss_hh (x : ss_F) (q : Nat → ss_F) : Nat → Nat → Nat → ss_F
  | 0, _, _ => 0
  | m + 1, i, 0 => q i + x * ss_hh x q m (i + 1) 0
  | m + 1, i, n + 1 => ss_hh x q m (i + 1) n + x * ss_hh x q m (i + 1) (n + 1)
theorem ss_hh_z (x : ss_F) (q : Nat → ss_F) (i n : Nat) : ss_hh x q 0 i n = 0 := rfl
theorem ss_hh_0 (x : ss_F) (q : Nat → ss_F) (m i : Nat) : ss_hh x q (m + 1) i 0 = q i + x * ss_hh x q m (i + 1) 0 := rfl
theorem ss_hh_s (x : ss_F) (q : Nat → ss_F) (m i n : Nat) : ss_hh x q (m + 1) i (n + 1) = ss_hh x q m (i + 1) n + x * ss_hh x q m (i + 1) (n + 1) := rfl
theorem ss_hh_congr {x : ss_F} {q p : Nat → ss_F} : ∀ m i, (∀ j, i ≤ j → j < i + m → q j = p j) → ∀ n, ss_hh x q m i n = ss_hh x p m i n := by
  intro m
  induction m with
  | zero => intro i _ n; rfl
  | succ m ih =>
    intro i h n
    have k := ih (i + 1) (fun j h1 h2 => h j (by omega) (by omega))
    cases n with
    | zero => rw [ss_hh_0, ss_hh_0, k 0, h i (by omega) (by omega)]
    | succ n => rw [ss_hh_s, ss_hh_s, k n, k (n + 1)]
/-- one division: d j = q j + x * d (j + 1) on the m places from i on, nothing above -/
theorem ss_hh_div (x : ss_F) (q d : Nat → ss_F) : ∀ m i, (∀ j, i ≤ j → j < i + m → d j = q j + x * d (j + 1)) → d (i + m) = q (i + m) → (ss_hh x q (m + 1) i 0 = d i) ∧ ∀ n, ss_hh x q (m + 1) i (n + 1) = ss_hh x d m (i + 1) n := by
  intro m
  induction m with
  | zero =>
    intro i _ h
    refine ⟨?_, fun n => ?_⟩
    · rw [ss_hh_0, ss_hh_z]
      rw [Nat.add_zero] at h
      rw [h]
      grobner
    · rw [ss_hh_s, ss_hh_z, ss_hh_z, ss_hh_z]
      grobner
  | succ m ih =>
    intro i h he
    have k := ih (i + 1) (fun j h1 h2 => h j (by omega) (by omega)) (by rw [show i + 1 + m = i + (m + 1) from by omega]; exact he)
    have h0 := h i (by omega) (by omega)
    refine ⟨?_, fun n => ?_⟩
    · rw [ss_hh_0, k.1, h0]
    · cases n with
      | zero => rw [ss_hh_s, k.1, k.2 0, ss_hh_0]
      | succ n => rw [ss_hh_s, k.2 n, k.2 (n + 1), ss_hh_s]
/-- the component's rounds: before round t the places from t on still stand for a series to be shifted, those below are done -/
def ss_Sh (x : ss_F) (q : Nat → ss_F) (t : Nat) (a : Nat → ss_F) : Prop := (∀ n, n < t → a n = ss_hh x q 32 0 n) ∧ ∀ n, ss_hh x q 32 0 (t + n) = ss_hh x a (32 - t) t n
theorem ss_Sh0 (x : ss_F) (q : Nat → ss_F) : ss_Sh x q 0 q := ⟨fun n h => absurd h (by omega), fun n => by rw [Nat.zero_add]⟩
theorem ss_Shs {x : ss_F} {q a d : Nat → ss_F} {t : Nat} (ht : t < 31) (h : ss_Sh x q t a) (hd : ∀ j, t ≤ j → j < 31 → d j = a j + x * d (j + 1)) (h31 : d 31 = a 31) (hl : ∀ j, j < t → d j = a j) : ss_Sh x q (t + 1) d := by
  have k := ss_hh_div x a d (31 - t) t (fun j h1 h2 => hd j h1 (by omega)) (by rw [show t + (31 - t) = 31 from by omega]; exact h31)
  rw [show 31 - t + 1 = 32 - t from by omega] at k
  refine ⟨fun n hn => ?_, fun n => ?_⟩
  · by_cases e : n = t
    · subst e
      have := h.2 0
      rw [Nat.add_zero] at this
      rw [this, k.1]
    · rw [hl n (by omega), h.1 n (by omega)]
  · have := h.2 (n + 1)
    rw [show t + 1 + n = t + (n + 1) from by omega, this, k.2 n, show 32 - (t + 1) = 31 - t from by omega]
theorem ss_She {x : ss_F} {q a : Nat → ss_F} (h : ss_Sh x q 31 a) : ∀ n, n < 32 → a n = ss_hh x q 32 0 n := by
  intro n hn
  by_cases e : n = 31
  · subst e
    have := h.2 0
    rw [show 31 + 0 = 31 from rfl] at this
    rw [this]
    show _ = a 31 + x * 0
    grobner
  · exact h.1 n (by omega)
end
section
/-! the sequences behind invert, exp, root and log; division; degrees; the search for an inverse -/
/-- sums of products from first on, k of them -/
def ss_o (a b : Nat → ss_F) (n first k : Nat) : ss_F := ss_s (fun i => a (first + i) * b (n - (first + i))) k
theorem ss_o_congr {a b a' b' : Nat → ss_F} {n first k : Nat} (ha : ∀ i, i < k → a (first + i) = a' (first + i)) (hb : ∀ i, i < k → b (n - (first + i)) = b' (n - (first + i))) : ss_o a b n first k = ss_o a' b' n first k :=
  ss_s_congr (fun i hi => by rw [ha i hi, hb i hi])
def ss_stI (l : Nat → ss_F) (c : ss_F) (g : Nat → ss_F) (n : Nat) : ss_F := if n = 0 then c else (-ss_o l g n 1 n) * c
def ss_stE (l : Nat → ss_F) (g : Nat → ss_F) (n : Nat) : ss_F := if n = 0 then 1 else ss_o (fun i => ss_n i * l i) g n 1 n * ss_i (ss_n n)
def ss_stR (l : Nat → ss_F) (g : Nat → ss_F) (n : Nat) : ss_F := if n = 0 then 1 else (l n - ss_o g g n 1 (n - 1)) * ss_n 6145
def ss_stL (l : Nat → ss_F) (g : Nat → ss_F) (n : Nat) : ss_F := if n = 0 then 0 else ss_n n * l n - ss_o g l n 1 (n - 1)
def ss_gI (l : Nat → ss_F) (c : ss_F) : Nat → ss_F := ss_q (ss_stI l c) 32
def ss_gE (l : Nat → ss_F) : Nat → ss_F := ss_q (ss_stE l) 32
def ss_gR (l : Nat → ss_F) : Nat → ss_F := ss_q (ss_stR l) 32
def ss_gS (l : Nat → ss_F) : Nat → ss_F := ss_q (ss_stL l) 32
def ss_gL (l : Nat → ss_F) (n : Nat) : ss_F := ss_gS l n * ss_i (ss_n n)
theorem ss_gI_eq (l : Nat → ss_F) (c : ss_F) {n : Nat} (h : n < 32) : ss_gI l c n = ss_stI l c (ss_gI l c) n := by
  refine ss_q_eq _ 32 (fun f g n hj => ?_) n h
  unfold ss_stI
  by_cases z : n = 0
  · rw [if_pos z, if_pos z]
  · rw [if_neg z, if_neg z, ss_o_congr (fun i _ => rfl) (fun i hi => hj _ (by omega))]
theorem ss_gE_eq (l : Nat → ss_F) {n : Nat} (h : n < 32) : ss_gE l n = ss_stE l (ss_gE l) n := by
  refine ss_q_eq _ 32 (fun f g n hj => ?_) n h
  unfold ss_stE
  by_cases z : n = 0
  · rw [if_pos z, if_pos z]
  · rw [if_neg z, if_neg z, ss_o_congr (fun i _ => rfl) (fun i hi => hj _ (by omega))]
theorem ss_gR_eq (l : Nat → ss_F) {n : Nat} (h : n < 32) : ss_gR l n = ss_stR l (ss_gR l) n := by
  refine ss_q_eq _ 32 (fun f g n hj => ?_) n h
  unfold ss_stR
  by_cases z : n = 0
  · rw [if_pos z, if_pos z]
  · rw [if_neg z, if_neg z, ss_o_congr (fun i hi => hj _ (by omega)) (fun i hi => hj _ (by omega))]
theorem ss_gS_eq (l : Nat → ss_F) {n : Nat} (h : n < 32) : ss_gS l n = ss_stL l (ss_gS l) n := by
  refine ss_q_eq _ 32 (fun f g n hj => ?_) n h
  unfold ss_stL
  by_cases z : n = 0
  · rw [if_pos z, if_pos z]
  · rw [if_neg z, if_neg z, ss_o_congr (fun i hi => hj _ (by omega)) (fun i _ => rfl)]
theorem ss_gI_0 (l : Nat → ss_F) (c : ss_F) : ss_gI l c 0 = c := by rw [ss_gI_eq l c (by omega)]; exact if_pos rfl
theorem ss_gI_n (l : Nat → ss_F) (c : ss_F) {n : Nat} (h0 : 0 < n) (h : n < 32) : ss_gI l c n = (-ss_o l (ss_gI l c) n 1 n) * c := by rw [ss_gI_eq l c h]; exact if_neg (by omega)
theorem ss_gE_0 (l : Nat → ss_F) : ss_gE l 0 = 1 := by rw [ss_gE_eq l (by omega)]; exact if_pos rfl
theorem ss_gE_n (l : Nat → ss_F) {n : Nat} (h0 : 0 < n) (h : n < 32) : ss_gE l n = ss_o (fun i => ss_n i * l i) (ss_gE l) n 1 n * ss_i (ss_n n) := by rw [ss_gE_eq l h]; exact if_neg (by omega)
theorem ss_gR_0 (l : Nat → ss_F) : ss_gR l 0 = 1 := by rw [ss_gR_eq l (by omega)]; exact if_pos rfl
theorem ss_gR_n (l : Nat → ss_F) {n : Nat} (h0 : 0 < n) (h : n < 32) : ss_gR l n = (l n - ss_o (ss_gR l) (ss_gR l) n 1 (n - 1)) * ss_n 6145 := by rw [ss_gR_eq l h]; exact if_neg (by omega)
theorem ss_gS_n (l : Nat → ss_F) {n : Nat} (h0 : 0 < n) (h : n < 32) : ss_gS l n = ss_n n * l n - ss_o (ss_gS l) l n 1 (n - 1) := by rw [ss_gS_eq l h]; exact if_neg (by omega)
theorem ss_gL_0 (l : Nat → ss_F) : ss_gL l 0 = 0 := by
  unfold ss_gL
  rw [ss_gS_eq l (by omega)]
  show (if 0 = 0 then (0 : ss_F) else _) * _ = 0
  rw [if_pos rfl]
  grobner
theorem ss_gL_s (l : Nat → ss_F) {n : Nat} (h0 : 0 < n) (h : n < 32) : ss_n n * ss_gL l n = ss_gS l n := by
  unfold ss_gL
  have i := ss_i_mul (ss_n_ne (n := n) h0 (by omega))
  generalize ss_i (ss_n n) = v at i
  grobner
/-- the reference's sum for exp is the component's, backwards -/
theorem ss_o_rev (a b : Nat → ss_F) (n : Nat) : ss_s (fun i => b i * a (n - i + 1)) (n + 1) = ss_o a b (n + 1) 1 (n + 1) := by
  unfold ss_o
  rw [ss_s_rev (fun i => a (1 + i) * b (n + 1 - (1 + i)))]
  apply ss_s_congr
  intro i hi
  rw [show 1 + (n + 1 - 1 - i) = n - i + 1 from by omega, show n + 1 - (n - i + 1) = i from by omega]
  grobner
/-- one round of a division, of which i places are done; all rounds from low = k - 1 down -/
def ss_r1 (t : Nat → ss_F) (q : ss_F) (low i : Nat) (a : Nat → ss_F) : Nat → ss_F := fun j => if low ≤ j ∧ j < low + i then a j - q * t (j - low) else a j
theorem ss_r1_0 (t : Nat → ss_F) (q : ss_F) (low : Nat) (a : Nat → ss_F) : ss_r1 t q low 0 a = a := by
  funext j
  exact if_neg (by omega)
theorem ss_r1_at (t : Nat → ss_F) (q : ss_F) (low i : Nat) (a : Nat → ss_F) : ss_r1 t q low i a (low + i) = a (low + i) := if_neg (by omega)
theorem ss_r1_s (t : Nat → ss_F) (q : ss_F) (low i : Nat) (a : Nat → ss_F) : ss_u (ss_r1 t q low i a) (low + i) (a (low + i) - q * t i) = ss_r1 t q low (i + 1) a := by
  funext j
  by_cases h : j = low + i
  · subst h
    rw [ss_us]
    unfold ss_r1
    rw [if_pos (by omega), show low + i - low = i from by omega]
  · rw [ss_un h]
    unfold ss_r1
    by_cases h2 : low ≤ j ∧ j < low + i
    · rw [if_pos h2, if_pos (by omega)]
    · rw [if_neg h2, if_neg (by omega)]
def ss_rs (t : Nat → ss_F) (d : Nat) (lead : ss_F) : Nat → (Nat → ss_F) → Nat → ss_F
  | 0, a => a
  | k + 1, a => ss_rs t d lead k (ss_r1 t (a (k + d) * lead) k (d + 1) a)
/-- one more than the degree of the n lowest places, 0 for none -/
def ss_d (f : Nat → ss_F) : Nat → Nat
  | 0 => 0
  | n + 1 => if f n = 0 then ss_d f n else n + 1
theorem ss_d_le (f : Nat → ss_F) : ∀ n, ss_d f n ≤ n := by
  intro n
  induction n with
  | zero => exact Nat.le_refl 0
  | succ n ih =>
    show (if f n = 0 then ss_d f n else n + 1) ≤ n + 1
    split <;> omega
theorem ss_d_ne (f : Nat → ss_F) : ∀ n k, ss_d f n = k + 1 → f k ≠ 0 := by
  intro n
  induction n with
  | zero => intro k h; exact absurd h (by show ¬ 0 = k + 1; omega)
  | succ n ih =>
    intro k h
    have h' : (if f n = 0 then ss_d f n else n + 1) = k + 1 := h
    by_cases z : f n = 0
    · rw [if_pos z] at h'
      exact ih k h'
    · rw [if_neg z] at h'
      have : n = k := by omega
      subst this
      exact z
theorem ss_d_congr {f g : Nat → ss_F} {n : Nat} (h : ∀ j, j < n → f j = g j) : ss_d f n = ss_d g n := by
  induction n with
  | zero => rfl
  | succ n ih =>
    show (if f n = 0 then ss_d f n else n + 1) = (if g n = 0 then ss_d g n else n + 1)
    rw [h n (by omega), ih (fun j hj => h j (by omega))]
/-- the answer of degree, and a counter that goes down: k - 1 -/
def ss_m (k : Nat) : Int32 := nI k + (-1)
theorem ss_m_s (k : Nat) : ss_m (k + 1) = nI k := pk_m1 k
theorem ss_m_0 : ss_m 0 = -1 := by decide
theorem ss_m_neg : ¬ (0 : Int32) ≤ ss_m 0 := by decide
/-- the search: the first k for which a divides 1 + 12289 k gives the inverse -/
theorem ss_srch {a : ss_F} (ha : a ≠ 0) : ∃ K, K < 12289 ∧ (1 + 12289 * K) % a.val = 0 := by
  have e := ss_i_mul ha
  have e2 := congrArg Fin.val e
  rw [Fin.val_mul] at e2
  have e3 : (1 : ss_F).val = 1 := rfl
  rw [e3] at e2
  refine ⟨a.val * (ss_i a).val / 12289, ?_, ?_⟩
  · apply Nat.div_lt_of_lt_mul
    have h1 := a.isLt
    have h2 := (ss_i a).isLt
    have h3 : a.val * (ss_i a).val ≤ 12288 * 12288 := Nat.mul_le_mul (by omega) (by omega)
    omega
  · have e4 : 1 + 12289 * (a.val * (ss_i a).val / 12289) = a.val * (ss_i a).val := by
      generalize a.val * (ss_i a).val = p at e2
      omega
    rw [e4]
    exact Nat.mul_mod_right _ _
theorem ss_srch_i {a : ss_F} (ha : a ≠ 0) {K : Nat} (h : (1 + 12289 * K) % a.val = 0) (hm : ∀ j, j < K → (1 + 12289 * j) % a.val ≠ 0) : (1 + 12289 * K) / a.val = (ss_i a).val ∧ K < 12289 := by
  have h0 : 0 < a.val := by
    rcases Nat.eq_zero_or_pos a.val with z | z
    · exact absurd (Fin.ext z) ha
    · exact z
  obtain ⟨K', hK', hd⟩ := ss_srch ha
  have hle : K ≤ K' := by
    rcases Nat.lt_or_ge K' K with g | g
    · exact absurd hd (hm K' g)
    · exact g
  refine ⟨?_, by omega⟩
  have e : a.val * ((1 + 12289 * K) / a.val) = 1 + 12289 * K := by
    have := Nat.div_add_mod (1 + 12289 * K) a.val
    omega
  have e1 : a * ss_n ((1 + 12289 * K) / a.val) = 1 := by
    have := congrArg ss_n e
    rw [ss_n_mul, ss_n_of] at this
    rw [this, ss_n_add, ss_n_mul, show ss_n 12289 = 0 from by decide +kernel, ss_n1]
    grobner
  have e2 := ss_i_uniq e1
  rw [← e2]
  refine (Nat.mod_eq_of_lt ?_).symm
  -- the quotient is below 12289, since the true inverse is not smaller
  have hy : (1 + 12289 * K) / a.val ≤ (1 + 12289 * (a.val * (ss_i a).val / 12289)) / a.val := by
    apply Nat.div_le_div_right
    have e5 := congrArg Fin.val (ss_i_mul ha)
    rw [Fin.val_mul] at e5
    have e3 : (1 : ss_F).val = 1 := rfl
    rw [e3] at e5
    have e4 : 1 + 12289 * (a.val * (ss_i a).val / 12289) = a.val * (ss_i a).val := by
      generalize a.val * (ss_i a).val = p at e5
      omega
    have hle2 : K ≤ a.val * (ss_i a).val / 12289 := by
      rcases Nat.lt_or_ge (a.val * (ss_i a).val / 12289) K with g | g
      · exact absurd (by rw [e4]; exact Nat.mul_mod_right _ _) (hm _ g)
      · exact g
    omega
  have e5 := congrArg Fin.val (ss_i_mul ha)
  rw [Fin.val_mul] at e5
  have e3 : (1 : ss_F).val = 1 := rfl
  rw [e3] at e5
  have e4 : 1 + 12289 * (a.val * (ss_i a).val / 12289) = a.val * (ss_i a).val := by
    generalize a.val * (ss_i a).val = p at e5
    omega
  rw [e4, Nat.mul_div_cancel_left _ h0] at hy
  have := (ss_i a).isLt
  omega
end
section
/-! the remainders as they are printed, indices, bounds -/
theorem ss_rem64 (v : Int64) : (v - v / 12289 * 12289).toInt = v.toInt.tmod 12289 := by
  rw [Jvm.Kit.i64_rem]
  rfl
theorem ss_red {v : Int64} {a : ss_F} {b : Nat} (h : ss_LV v a b) : (0 ≤ (v - v / 12289 * 12289).toInt32 → (v - v / 12289 * 12289).toInt32 = ss_e a) ∧ (¬ 0 ≤ (v - v / 12289 * 12289).toInt32 → (v - v / 12289 * 12289).toInt32 + 12289 = ss_e a) := by
  obtain ⟨rfl, _⟩ := h
  have e1 := ss_rem64 v
  have tb := tmod_bounds (a := v.toInt) (M := 12289) (by decide)
  have t := ss_tm v.toInt
  have e2 : (v - v / 12289 * 12289).toInt32.toInt = v.toInt.tmod 12289 := by
    rw [Jvm.Kit.i32_of_i64 (by rw [e1]; omega) (by rw [e1]; omega), e1]
  generalize (v - v / 12289 * 12289).toInt32 = r at e2
  have c : (12289 : Int32).toInt = 12289 := by decide
  refine ⟨fun h0 => ?_, fun h0 => ?_⟩
  · rw [Jvm.Kit.i32_nonneg, e2] at h0
    apply Int32.toInt_inj.mp
    rw [e2, ss_e_toInt, ss_z_val, t.1 h0]
    omega
  · rw [Jvm.Kit.i32_nonneg, e2] at h0
    apply Int32.toInt_inj.mp
    rw [Jvm.Kit.i32_add (by rw [e2, c]; omega) (by rw [e2, c]; omega), e2, c, ss_e_toInt, ss_z_val, t.2 (by omega)]
    omega
theorem ss_redY {v : Int64} {a : ss_F} {b : Nat} (h : ss_LV v a b) : (0 ≤ (v - v / 12289 * 12289) → (v - v / 12289 * 12289).toInt32 = ss_e a) ∧ (¬ 0 ≤ (v - v / 12289 * 12289) → ((v - v / 12289 * 12289) + 12289).toInt32 = ss_e a) := by
  obtain ⟨rfl, _⟩ := h
  have e1 := ss_rem64 v
  have tb := tmod_bounds (a := v.toInt) (M := 12289) (by decide)
  have t := ss_tm v.toInt
  generalize (v - v / 12289 * 12289) = r at e1
  have c : (12289 : Int64).toInt = 12289 := by decide
  refine ⟨fun h0 => ?_, fun h0 => ?_⟩
  · rw [Jvm.Kit.i64_nonneg, e1] at h0
    apply Int32.toInt_inj.mp
    rw [Jvm.Kit.i32_of_i64 (by omega) (by omega), e1, ss_e_toInt, ss_z_val, t.1 h0]
    omega
  · rw [Jvm.Kit.i64_nonneg, e1] at h0
    have e3 : (r + 12289).toInt = v.toInt.tmod 12289 + 12289 := by
      rw [Jvm.Kit.i64_add (by rw [e1, c]; omega) (by rw [e1, c]; omega), e1, c]
    apply Int32.toInt_inj.mp
    rw [Jvm.Kit.i32_of_i64 (by omega) (by omega), e3, ss_e_toInt, ss_z_val, t.2 (by omega)]
    omega
theorem ss_ix (s i : Nat) : nI s * 32 + nI i = nI (32 * s + i) := by
  rw [show (32 : Int32) = nI 32 from rfl, pk_mul, nI_add, Nat.mul_comm]
theorem ss_iy (s i : Nat) : 32 * nI s + nI i = nI (32 * s + i) := by
  rw [show (32 : Int32) = nI 32 from rfl, pk_mul, nI_add]
theorem ss_i0 (s : Nat) : nI s * 32 = nI (32 * s + 0) := by
  rw [show (32 : Int32) = nI 32 from rfl, pk_mul, Nat.mul_comm, Nat.add_zero]
theorem ss_cl {k : Nat} (h : k < 2 ^ 31) : (nI k).toNatClampNeg = k := nI_clamp h
theorem ss_IV_any (x : Int32) : ss_IV x (ss_z x.toInt) (2 ^ 31) := ⟨rfl, by have := x.le_toInt; have := x.toInt_lt; omega⟩
/-- an int that is a series' number, or a place -/
theorem ss_rg {x : Int32} {b : Nat} (h0 : 0 ≤ x) (hb : x < nI b) (hb2 : b < 2 ^ 31) : ∃ j : Nat, j < b ∧ x = nI j := by
  obtain ⟨j, hj, rfl⟩ := nI_of (x := x) (Int32.not_lt.mpr h0)
  exact ⟨j, (nI_ltI hj hb2).mp hb, rfl⟩
end
section
/-! the small methods: tests of numbers, remainders, powers, inverses -/
theorem ss_ser (x : Int32) : (x < 0 ∨ 5 ≤ x) ∨ ∃ s : Nat, s < 5 ∧ x = nI s := by
  rcases pk_ix x (n := 5) (by decide) with h | h | h
  · exact Or.inl (Or.inl h)
  · exact Or.inl (Or.inr h)
  · exact Or.inr h
theorem ss_plc (x : Int32) : (x < 0 ∨ 32 ≤ x) ∨ ∃ s : Nat, s < 32 ∧ x = nI s := by
  rcases pk_ix x (n := 32) (by decide) with h | h | h
  · exact Or.inl (Or.inl h)
  · exact Or.inl (Or.inr h)
  · exact Or.inr h
theorem ss_5 {x : Int32} (h : 5 ≤ x) : 4 < x := by
  rw [Int32.le_iff_toInt_le] at h
  rw [Int32.lt_iff_toInt_lt]
  have a : (5 : Int32).toInt = 5 := by decide
  have b : (4 : Int32).toInt = 4 := by decide
  omega
theorem ss_32 {x : Int32} (h : 32 ≤ x) : 31 < x := by
  rw [Int32.le_iff_toInt_le] at h
  rw [Int32.lt_iff_toInt_lt]
  have a : (32 : Int32).toInt = 32 := by decide
  have b : (31 : Int32).toInt = 31 := by decide
  omega
theorem ss_n4 {s : Nat} (h : s < 5) : ¬ (4 : Int32) < nI s := nI_nlt (a := 4) (by omega) (by decide)
theorem ss_n31 {s : Nat} (h : s < 32) : ¬ (31 : Int32) < nI s := nI_nlt (a := 31) (by omega) (by decide)
theorem ss_XserF {post : Int32 → Prop} {x : Int32} (h : x < 0 ∨ 5 ≤ x) (p : post 0) : wpX_isSeries post x := br_c (fun _ => p) (fun h0 => br_t (h.resolve_left h0) p)
theorem ss_XserT {post : Int32 → Prop} {s : Nat} (hs : s < 5) (p : post 1) : wpX_isSeries post (nI s) := br_f (nI_pos (by omega)) (br_f (nI_ge (b := 5) hs (by decide)) p)
theorem ss_XengF {post : Int32 → Prop} {x : Int32} (h : x < 0 ∨ 5 ≤ x) (p : post 0) : wpX_isEngine post x := br_c (fun _ => p) (fun h0 => br_t (h.resolve_left h0) p)
theorem ss_XengT {post : Int32 → Prop} {s : Nat} (hs : s < 5) (p : post 1) : wpX_isEngine post (nI s) := br_f (nI_pos (by omega)) (br_f (nI_ge (b := 5) hs (by decide)) p)
theorem ss_XplcF {post : Int32 → Prop} {x : Int32} (h : x < 0 ∨ 32 ≤ x) (p : post 0) : wpX_isPlace post x := br_c (fun _ => p) (fun h0 => br_t (h.resolve_left h0) p)
theorem ss_XplcT {post : Int32 → Prop} {s : Nat} (hs : s < 32) (p : post 1) : wpX_isPlace post (nI s) := br_f (nI_pos (by omega)) (br_f (nI_ge (b := 32) hs (by decide)) p)
theorem ss_YserF {post : Int32 → Prop} {a m : Nat → Int32} {x : Int32} (h : x < 0 ∨ 5 ≤ x) (p : post 0) : wpY_series post (a, m) x := br_c (fun _ => p) (fun h0 => br_t (ss_5 (h.resolve_left h0)) p)
theorem ss_YserT {post : Int32 → Prop} {a m : Nat → Int32} {s : Nat} (hs : s < 5) (p : post 1) : wpY_series post (a, m) (nI s) := br_f (nI_pos (by omega)) (br_f (ss_n4 hs) p)
theorem ss_YplcF {post : Int32 → Prop} {a m : Nat → Int32} {x : Int32} (h : x < 0 ∨ 32 ≤ x) (p : post 0) : wpY_index post (a, m) x := br_c (fun _ => p) (fun h0 => br_t (ss_32 (h.resolve_left h0)) p)
theorem ss_YplcT {post : Int32 → Prop} {a m : Nat → Int32} {s : Nat} (hs : s < 32) (p : post 1) : wpY_index post (a, m) (nI s) := br_f (nI_pos (by omega)) (br_f (ss_n31 hs) p)
theorem ss_10 : ¬ (1 : Int32) = 0 := by decide
theorem ss_pI : ¬ (12289 : Int32) = 0 := by decide
theorem ss_pL : ¬ (12289 : Int64) = 0 := by decide
theorem ss_Xr {post : Int32 → Prop} {v : Int64} {a : ss_F} {b : Nat} (h : ss_LV v a b) (p : post (ss_e a)) : wpX_reduce post v := by
  refine ⟨ss_pL, nm_e (br_c (fun h0 => ?_) (fun h0 => ?_))⟩
  · rw [(ss_red h).1 h0]; exact p
  · rw [(ss_red h).2 h0]; exact p
theorem ss_Yr {post : Int32 → Prop} {A m : Nat → Int32} {v : Int64} {a : ss_F} {b : Nat} (h : ss_LV v a b) (p : post (ss_e a)) : wpY_reduced post (A, m) v := by
  refine ⟨ss_pL, nm_e (br_c (fun h0 => ?_) (fun h0 => ?_))⟩
  · rw [(ss_redY h).1 h0]; exact p
  · rw [(ss_redY h).2 h0]; exact p
theorem ss_in160 {s i : Nat} (hs : s < 5) (hi : i < 32) : vp_in (nI (32 * s + i)) 160 := vp_in_nI (by omega) (by decide)
theorem ss_cl160 {s i : Nat} (hs : s < 5) (hi : i < 32) : (nI (32 * s + i)).toNatClampNeg = 32 * s + i := nI_clamp (by omega)
theorem ss_Yat {post : Int32 → Prop} {f : Nat → ss_F} {m : Nat → Int32} {s i : Nat} (hs : s < 5) (hi : i < 32) (p : post (ss_e (ss_g f s i))) : wpY_at post (ss_em f, m) (nI s) (nI i) := by
  show vp_in (32 * nI s + nI i) 160 ∧ post (ss_em f (32 * nI s + nI i).toNatClampNeg)
  rw [ss_iy, ss_cl160 hs hi]
  exact ⟨ss_in160 hs hi, p⟩
theorem ss_LV_any (x : Int32) : ss_LV x.toInt64 (ss_z x.toInt) (2 ^ 31) := ss_IV_L (ss_IV_any x)
theorem ss_LVe (a : ss_F) : ss_LV (ss_e a).toInt64 a 12288 := ss_IV_L (ss_IV_e a)
/-- sums of products: the component multiplies ints, the reference longs -/
theorem ss_acc {sum : Int64} {x y : Int32} {S a b : ss_F} {k : Nat} (h : ss_LV sum S (k * 150994944)) (hx : x = ss_e a) (hy : y = ss_e b) (hk : k ≤ 1000) : ss_LV (sum + (x * y).toInt64) (S + a * b) ((k + 1) * 150994944) := by
  subst hx hy
  exact ss_LV_le (ss_LV_add h (ss_IV_L (ss_IV_mul (ss_IV_e a) (ss_IV_e b))) (by omega)) (by omega)
theorem ss_accY {sum : Int64} {x y : Int32} {S a b : ss_F} {k : Nat} (h : ss_LV sum S (k * 150994944)) (hx : x = ss_e a) (hy : y = ss_e b) (hk : k ≤ 1000) : ss_LV (sum + x.toInt64 * y.toInt64) (S + a * b) ((k + 1) * 150994944) := by
  subst hx hy
  exact ss_LV_le (ss_LV_add h (ss_LV_mul (ss_LVe a) (ss_LVe b)) (by omega)) (by omega)
theorem ss_accS {sum : Int64} {x y : Int32} {S a b : ss_F} {k : Nat} (h : ss_LV sum S (k * 150994944)) (hx : x = ss_e a) (hy : y = ss_e b) (hk : k ≤ 1000) : ss_LV (sum - x.toInt64 * y.toInt64) (S - a * b) ((k + 1) * 150994944) := by
  subst hx hy
  exact ss_LV_le (ss_LV_sub h (ss_LV_mul (ss_LVe a) (ss_LVe b)) (by omega)) (by omega)
theorem ss_acc0 : ss_LV 0 0 (0 * 150994944) := ss_LV_0
/-- the power -/
theorem ss_Xpw {post : Int32 → Prop} : ∀ (k e : Nat) (an sq : ss_F), k ≤ 31 → e < 2 ^ k → post (ss_e (an * ss_p sq e)) → wX_power_7 post (k + 1) (ss_e an) (ss_e sq) (nI e) := by
  intro k
  induction k with
  | zero =>
    intro e an sq _ he p
    have : e = 0 := by omega
    subst this
    have z : an * ss_p sq 0 = an := by rw [ss_p0]; grobner
    rw [z] at p
    exact br_t (by decide) p
  | succ k ih =>
    intro e an sq hk he p
    have hm : 2 ^ (k + 1) ≤ 2 ^ 31 := Nat.pow_le_pow_right (by decide) hk
    by_cases h0 : e = 0
    · subst h0
      have z : an * ss_p sq 0 = an := by rw [ss_p0]; grobner
      rw [z] at p
      exact br_t (by decide) p
    · have hs : nI e >>> ((1 : Int32) &&& 31) = nI (e / 2) := pk_shrN (n := e) (by omega) _ 1 (by decide)
      have ha : nI e &&& 1 = nI (e % 2) := pk_andN (n := e) (by omega) 1 (by decide)
      have hq : ss_e sq * ss_e sq - ss_e sq * ss_e sq / 12289 * 12289 = ss_e (sq * sq) := ss_NV_rem (ss_NV_mul (ss_NV_e sq) (ss_NV_e sq))
      have e2 : ss_p sq (2 * (e / 2)) = ss_p (sq * sq) (e / 2) := by
        rw [ss_p_mul]
        congr 1
        rw [ss_ps, ss_p1]
      refine br_f (nI_nle (by omega) (by omega)) ?_
      by_cases h1 : e % 2 = 1
      · refine br_t (by rw [ha, h1]; rfl) ⟨ss_pI, nm_r (ss_NV_rem (ss_NV_mul (ss_NV_e an) (ss_NV_e sq))) ⟨ss_pI, nm_r hq (nm_r hs (ih (e / 2) (an * sq) (sq * sq) (by omega) (by rw [Nat.pow_succ] at he; omega) ?_))⟩⟩
        have e4 : ss_p sq e = ss_p sq (2 * (e / 2)) * sq := by
          conv => lhs; rw [show e = 2 * (e / 2) + 1 from by omega]
          rw [ss_ps]
        have e5 : an * sq * ss_p (sq * sq) (e / 2) = an * ss_p sq e := by rw [e4, e2]; grobner
        rw [e5]
        exact p
      · refine br_f (by rw [ha]; intro z; exact h1 ((nI_eq (by omega) (by decide)).mp (z.trans rfl))) ⟨ss_pI, nm_r hq (nm_r hs (ih (e / 2) an (sq * sq) (by omega) (by rw [Nat.pow_succ] at he; omega) ?_))⟩
        have e4 : ss_p sq e = ss_p sq (2 * (e / 2)) := by
          conv => lhs; rw [show e = 2 * (e / 2) from by omega]
        rw [← e2, ← e4]
        exact p
theorem ss_Xpow {post : Int32 → Prop} {a : ss_F} {e : Nat} (he : e < 2 ^ 31) (p : post (ss_e (ss_p a e))) : wpX_power post (ss_e a) (nI e) := by
  refine ⟨32, ss_Xpw 31 e 1 a (Nat.le_refl 31) he ?_⟩
  have z : 1 * ss_p a e = ss_p a e := by grobner
  rw [z]
  exact p
theorem ss_Xi {post : Int32 → Prop} {a : ss_F} (p : post (ss_e (ss_i a))) : wpX_inverse post (ss_e a) := ss_Xpow (e := 12287) (by decide) p
theorem ss_ne {n : Nat} (h : n < 12289) : nI n = ss_e (ss_n n) := by
  show nI n = nI (ss_n n).val
  rw [ss_n_small h]
theorem ss_Yi_lp {post : Int32 → Prop} {A m : Nat → Int32} {a : ss_F} (ha : a ≠ 0) (p : post (ss_e (ss_i a))) (K : Nat) (hK : K < 12289) (hd : (1 + 12289 * K) % a.val = 0) : ∀ d k, k + d = K → (∀ j, j < k → (1 + 12289 * j) % a.val ≠ 0) → wY_inverse_2 post (ss_e a) A m (d + 1) (nI (1 + 12289 * k)) := by
  have h0 : 0 < a.val := by
    rcases Nat.eq_zero_or_pos a.val with z | z
    · exact absurd (Fin.ext z) ha
    · exact z
  have h1 := a.isLt
  have hz : ¬ ss_e a = 0 := fun z => ha ((ss_e_eq0 a).mp z)
  have fin : ∀ k, (1 + 12289 * k) % a.val = 0 → (∀ j, j < k → (1 + 12289 * j) % a.val ≠ 0) → k ≤ K → nI (1 + 12289 * k) / ss_e a = ss_e (ss_i a) := by
    intro k hk hm hle
    have q : nI (1 + 12289 * k) / nI a.val = nI ((1 + 12289 * k) / a.val) := pk_div (by omega) h0 (by omega)
    rw [(ss_srch_i ha hk hm).1] at q
    exact q
  intro d
  induction d with
  | zero =>
    intro k hk hm
    have : k = K := by omega
    subst this
    have r : nI (1 + 12289 * k) - nI (1 + 12289 * k) / nI a.val * nI a.val = nI ((1 + 12289 * k) % a.val) := pk_rem (by omega) h0 (by omega)
    rw [hd] at r
    refine ⟨hz, br_t r ⟨hz, ?_⟩⟩
    rw [fin k hd hm (Nat.le_refl k)]
    exact p
  | succ d ih =>
    intro k hk hm
    have r : nI (1 + 12289 * k) - nI (1 + 12289 * k) / nI a.val * nI a.val = nI ((1 + 12289 * k) % a.val) := pk_rem (by omega) h0 (by omega)
    by_cases hd' : (1 + 12289 * k) % a.val = 0
    · rw [hd'] at r
      refine ⟨hz, br_t r ⟨hz, ?_⟩⟩
      rw [fin k hd' hm (by omega)]
      exact p
    · have hlt : (1 + 12289 * k) % a.val < a.val := Nat.mod_lt _ h0
      refine ⟨hz, br_f (fun z => nI_ne0 (Nat.pos_of_ne_zero hd') (by omega) (r.symm.trans z)) (nm_r (e' := nI (1 + 12289 * (k + 1))) ?_ (ih (k + 1) (by omega) ?_))⟩
      · rw [show (12289 : Int32) = nI 12289 from rfl, nI_add]
        congr 1
      · intro j hj
        by_cases e : j = k
        · subst e; exact hd'
        · exact hm j (by omega)
theorem ss_Yi {post : Int32 → Prop} {A m : Nat → Int32} {a : ss_F} (ha : a ≠ 0) (p : post (ss_e (ss_i a))) : wpY_inverse post (A, m) (ss_e a) := by
  obtain ⟨K, hK, hd⟩ := ss_srch ha
  exact ⟨K + 1, ss_Yi_lp ha p K hK hd K 0 (by omega) (fun j hj => absurd hj (by omega))⟩
/-! copies of blocks -/
theorem ss_ti {s i : Nat} : nI s * 32 + nI i = nI (32 * s + i) := ss_ix s i
theorem ss_ci {i : Nat} (h : i < 1000) : (nI i).toNatClampNeg = i := nI_clamp (by omega)
theorem ss_ld_left_lp {post : SX → Prop} {f : Nat → ss_F} {s : Nat} (hs : s < 5) {ri re ot sl lp rp lW rW pt lL rL pL : Nat → Int32} (h : ∀ x, ss_A x (ss_g f s) 32 → post (ss_em f, x, ri, re, ot, sl, lp, rp, lW, rW, pt, lL, rL, pL)) : ∀ d i x, i + d = 32 → ss_A x (ss_g f s) i → wX_load__left_2 post (nI s) (d + 1) (nI i) (ss_em f) x ri re ot sl lp rp lW rW pt lL rL pL := by
  intro d
  induction d with
  | zero =>
    intro i x hi hx
    have : i = 32 := by omega
    subst this
    exact br_t (by decide) (h x hx)
  | succ d ih =>
    intro i x hi hx
    refine br_f (nI_ge (b := 32) (by omega) (by decide)) ⟨?_, vp_in_nI (by omega) (by decide), nm_r (e' := upd x i (ss_e (ss_g f s i))) ?_ (nm_r (nI_1 i) (ih (i + 1) _ (by omega) (ss_A_s hx rfl)))⟩
    · rw [ss_ix]
      exact ss_in160 hs (by omega)
    · rw [ss_ix, ss_cl160 hs (by omega), ss_ci (by omega)]
      rfl
theorem ss_ld_left {post : SX → Prop} {f : Nat → ss_F} {s : Nat} (hs : s < 5) {le ri re ot sl lp rp lW rW pt lL rL pL : Nat → Int32} (h : ∀ x, ss_A x (ss_g f s) 32 → post (ss_em f, x, ri, re, ot, sl, lp, rp, lW, rW, pt, lL, rL, pL)) : wpX_load__left post (ss_em f, le, ri, re, ot, sl, lp, rp, lW, rW, pt, lL, rL, pL) (nI s) := ⟨33, ss_ld_left_lp hs h 32 0 le rfl (ss_A_0 _ _)⟩
theorem ss_ld_right_lp {post : SX → Prop} {f : Nat → ss_F} {s : Nat} (hs : s < 5) {le re ot sl lp rp lW rW pt lL rL pL : Nat → Int32} (h : ∀ x, ss_A x (ss_g f s) 32 → post (ss_em f, le, x, re, ot, sl, lp, rp, lW, rW, pt, lL, rL, pL)) : ∀ d i x, i + d = 32 → ss_A x (ss_g f s) i → wX_load__right_2 post (nI s) (d + 1) (nI i) (ss_em f) le x re ot sl lp rp lW rW pt lL rL pL := by
  intro d
  induction d with
  | zero =>
    intro i x hi hx
    have : i = 32 := by omega
    subst this
    exact br_t (by decide) (h x hx)
  | succ d ih =>
    intro i x hi hx
    refine br_f (nI_ge (b := 32) (by omega) (by decide)) ⟨?_, vp_in_nI (by omega) (by decide), nm_r (e' := upd x i (ss_e (ss_g f s i))) ?_ (nm_r (nI_1 i) (ih (i + 1) _ (by omega) (ss_A_s hx rfl)))⟩
    · rw [ss_ix]
      exact ss_in160 hs (by omega)
    · rw [ss_ix, ss_cl160 hs (by omega), ss_ci (by omega)]
      rfl
theorem ss_ld_right {post : SX → Prop} {f : Nat → ss_F} {s : Nat} (hs : s < 5) {le ri re ot sl lp rp lW rW pt lL rL pL : Nat → Int32} (h : ∀ x, ss_A x (ss_g f s) 32 → post (ss_em f, le, x, re, ot, sl, lp, rp, lW, rW, pt, lL, rL, pL)) : wpX_load__right post (ss_em f, le, ri, re, ot, sl, lp, rp, lW, rW, pt, lL, rL, pL) (nI s) := ⟨33, ss_ld_right_lp hs h 32 0 ri rfl (ss_A_0 _ _)⟩
theorem ss_st_left_lp {post : SX → Prop} {f g : Nat → ss_F} {s : Nat} (hs : s < 5) {le ri re ot sl lp rp lW rW pt lL rL pL : Nat → Int32} (hA : ss_A le g 32) (h : post (ss_em (ss_b f s 32 g), le, ri, re, ot, sl, lp, rp, lW, rW, pt, lL, rL, pL)) : ∀ d i, i + d = 32 → wX_store__left_2 post (nI s) (d + 1) (nI i) (ss_em (ss_b f s i g)) le ri re ot sl lp rp lW rW pt lL rL pL := by
  intro d
  induction d with
  | zero =>
    intro i hi
    have : i = 32 := by omega
    subst this
    exact br_t (by decide) h
  | succ d ih =>
    intro i hi
    refine br_f (nI_ge (b := 32) (by omega) (by decide)) ⟨vp_in_nI (by omega) (by decide), ?_, nm_r (e' := ss_em (ss_b f s (i + 1) g)) ?_ (nm_r (nI_1 i) (ih (i + 1) (by omega)))⟩
    · rw [ss_ix]
      exact ss_in160 hs (by omega)
    · rw [ss_ix, ss_cl160 hs (by omega), ss_ci (by omega), hA i (by omega), ss_em_u, ss_bs]
theorem ss_st_left {post : SX → Prop} {f g : Nat → ss_F} {s : Nat} (hs : s < 5) {le ri re ot sl lp rp lW rW pt lL rL pL : Nat → Int32} (hA : ss_A le g 32) (h : post (ss_em (ss_b f s 32 g), le, ri, re, ot, sl, lp, rp, lW, rW, pt, lL, rL, pL)) : wpX_store__left post (ss_em f, le, ri, re, ot, sl, lp, rp, lW, rW, pt, lL, rL, pL) (nI s) := by
  have k := ss_st_left_lp (f := f) hs hA h 32 0 rfl
  rw [ss_b0] at k
  exact ⟨33, k⟩
theorem ss_st_result_lp {post : SX → Prop} {f g : Nat → ss_F} {s : Nat} (hs : s < 5) {le ri re ot sl lp rp lW rW pt lL rL pL : Nat → Int32} (hA : ss_A re g 32) (h : post (ss_em (ss_b f s 32 g), le, ri, re, ot, sl, lp, rp, lW, rW, pt, lL, rL, pL)) : ∀ d i, i + d = 32 → wX_store__result_2 post (nI s) (d + 1) (nI i) (ss_em (ss_b f s i g)) le ri re ot sl lp rp lW rW pt lL rL pL := by
  intro d
  induction d with
  | zero =>
    intro i hi
    have : i = 32 := by omega
    subst this
    exact br_t (by decide) h
  | succ d ih =>
    intro i hi
    refine br_f (nI_ge (b := 32) (by omega) (by decide)) ⟨vp_in_nI (by omega) (by decide), ?_, nm_r (e' := ss_em (ss_b f s (i + 1) g)) ?_ (nm_r (nI_1 i) (ih (i + 1) (by omega)))⟩
    · rw [ss_ix]
      exact ss_in160 hs (by omega)
    · rw [ss_ix, ss_cl160 hs (by omega), ss_ci (by omega), hA i (by omega), ss_em_u, ss_bs]
theorem ss_st_result {post : SX → Prop} {f g : Nat → ss_F} {s : Nat} (hs : s < 5) {le ri re ot sl lp rp lW rW pt lL rL pL : Nat → Int32} (hA : ss_A re g 32) (h : post (ss_em (ss_b f s 32 g), le, ri, re, ot, sl, lp, rp, lW, rW, pt, lL, rL, pL)) : wpX_store__result post (ss_em f, le, ri, re, ot, sl, lp, rp, lW, rW, pt, lL, rL, pL) (nI s) := by
  have k := ss_st_result_lp (f := f) hs hA h 32 0 rfl
  rw [ss_b0] at k
  exact ⟨33, k⟩
theorem ss_tk_lp {post : SY → Prop} {f g : Nat → ss_F} {s : Nat} (hs : s < 5) {m : Nat → Int32} (hA : ss_A m g 32) (h : post (ss_em (ss_b f s 32 g), m)) : ∀ d i, i + d = 32 → wY_take_2 post (nI s) (d + 1) (nI i) (ss_em (ss_b f s i g)) m := by
  intro d
  induction d with
  | zero =>
    intro i hi
    have : i = 32 := by omega
    subst this
    exact br_t (by decide) h
  | succ d ih =>
    intro i hi
    refine br_f (nI_ge (b := 32) (by omega) (by decide)) ⟨vp_in_nI (by omega) (by decide), ?_, nm_r (e' := ss_em (ss_b f s (i + 1) g)) ?_ (nm_r (nI_1 i) (ih (i + 1) (by omega)))⟩
    · rw [ss_iy]
      exact ss_in160 hs (by omega)
    · rw [ss_iy, ss_cl160 hs (by omega), ss_ci (by omega), hA i (by omega), ss_em_u, ss_bs]
theorem ss_tk {post : SY → Prop} {f g : Nat → ss_F} {s : Nat} (hs : s < 5) {m : Nat → Int32} (hA : ss_A m g 32) (h : post (ss_em (ss_b f s 32 g), m)) : wpY_take post (ss_em f, m) (nI s) := by
  have k := ss_tk_lp (f := f) hs hA h 32 0 rfl
  rw [ss_b0] at k
  exact ⟨33, k⟩
/-! sums of products, values, degrees -/
theorem ss_so_left_right_lp {post : Int32 → Prop} (a b : Nat → ss_F) {n first last : Nat} {c le ri re ot sl lp rp lW rW pt lL rL pL : Nat → Int32} (hA : ∀ i, first ≤ i → i ≤ last → le i = ss_e (a i)) (hB : ∀ i, first ≤ i → i ≤ last → ri (n - i) = ss_e (b (n - i))) (hn : n < 32) (hl : last ≤ n) (p : post (ss_e (ss_o a b n first (last + 1 - first)))) : ∀ d k sum, first + k + d = last + 1 → ss_LV sum (ss_o a b n first k) (k * 150994944) → wX_sumOfProducts__left_right_6 post (nI n) (nI last) c le ri re ot sl lp rp lW rW pt lL rL pL (d + 1) sum (nI (first + k)) := by
  intro d
  induction d with
  | zero =>
    intro k sum hk hs
    have e : last + 1 - first = k := by omega
    rw [e] at p
    exact br_t (nI_lt (by omega) (by omega)) (ss_Xr hs p)
  | succ d ih =>
    intro k sum hk hs
    have x1 : le (nI (first + k)).toNatClampNeg = ss_e (a (first + k)) := by rw [ss_ci (by omega)]; exact hA _ (by omega) (by omega)
    have x2 : ri (nI n - nI (first + k)).toNatClampNeg = ss_e (b (n - (first + k))) := by rw [pk_sub (by omega), ss_ci (by omega)]; exact hB _ (by omega) (by omega)
    refine br_f (nI_nlt (by omega) (by omega)) ⟨vp_in_nI (by omega) (by decide), ?_, nm_e (nm_r (nI_1 (first + k)) (ih (k + 1) _ (by omega) (ss_acc hs x1 x2 (by omega))))⟩
    rw [pk_sub (by omega)]
    exact vp_in_nI (by omega) (by decide)
theorem ss_so_left_right {post : Int32 → Prop} (a b : Nat → ss_F) {n first last : Nat} {c le ri re ot sl lp rp lW rW pt lL rL pL : Nat → Int32} (hA : ∀ i, first ≤ i → i ≤ last → le i = ss_e (a i)) (hB : ∀ i, first ≤ i → i ≤ last → ri (n - i) = ss_e (b (n - i))) (hn : n < 32) (hl : last ≤ n) (hf : first ≤ last + 1) (p : post (ss_e (ss_o a b n first (last + 1 - first)))) : wpX_sumOfProducts__left_right post (c, le, ri, re, ot, sl, lp, rp, lW, rW, pt, lL, rL, pL) (nI n) (nI first) (nI last) :=
  ⟨last + 1 - first + 1, ss_so_left_right_lp a b hA hB hn hl p (last + 1 - first) 0 0 (by omega) ss_acc0⟩
theorem ss_so_left_result_lp {post : Int32 → Prop} (a b : Nat → ss_F) {n first last : Nat} {c le ri re ot sl lp rp lW rW pt lL rL pL : Nat → Int32} (hA : ∀ i, first ≤ i → i ≤ last → le i = ss_e (a i)) (hB : ∀ i, first ≤ i → i ≤ last → re (n - i) = ss_e (b (n - i))) (hn : n < 32) (hl : last ≤ n) (p : post (ss_e (ss_o a b n first (last + 1 - first)))) : ∀ d k sum, first + k + d = last + 1 → ss_LV sum (ss_o a b n first k) (k * 150994944) → wX_sumOfProducts__left_result_6 post (nI n) (nI last) c le ri re ot sl lp rp lW rW pt lL rL pL (d + 1) sum (nI (first + k)) := by
  intro d
  induction d with
  | zero =>
    intro k sum hk hs
    have e : last + 1 - first = k := by omega
    rw [e] at p
    exact br_t (nI_lt (by omega) (by omega)) (ss_Xr hs p)
  | succ d ih =>
    intro k sum hk hs
    have x1 : le (nI (first + k)).toNatClampNeg = ss_e (a (first + k)) := by rw [ss_ci (by omega)]; exact hA _ (by omega) (by omega)
    have x2 : re (nI n - nI (first + k)).toNatClampNeg = ss_e (b (n - (first + k))) := by rw [pk_sub (by omega), ss_ci (by omega)]; exact hB _ (by omega) (by omega)
    refine br_f (nI_nlt (by omega) (by omega)) ⟨vp_in_nI (by omega) (by decide), ?_, nm_e (nm_r (nI_1 (first + k)) (ih (k + 1) _ (by omega) (ss_acc hs x1 x2 (by omega))))⟩
    rw [pk_sub (by omega)]
    exact vp_in_nI (by omega) (by decide)
theorem ss_so_left_result {post : Int32 → Prop} (a b : Nat → ss_F) {n first last : Nat} {c le ri re ot sl lp rp lW rW pt lL rL pL : Nat → Int32} (hA : ∀ i, first ≤ i → i ≤ last → le i = ss_e (a i)) (hB : ∀ i, first ≤ i → i ≤ last → re (n - i) = ss_e (b (n - i))) (hn : n < 32) (hl : last ≤ n) (hf : first ≤ last + 1) (p : post (ss_e (ss_o a b n first (last + 1 - first)))) : wpX_sumOfProducts__left_result post (c, le, ri, re, ot, sl, lp, rp, lW, rW, pt, lL, rL, pL) (nI n) (nI first) (nI last) :=
  ⟨last + 1 - first + 1, ss_so_left_result_lp a b hA hB hn hl p (last + 1 - first) 0 0 (by omega) ss_acc0⟩
theorem ss_so_slopes_left_lp {post : Int32 → Prop} (a b : Nat → ss_F) {n first last : Nat} {c le ri re ot sl lp rp lW rW pt lL rL pL : Nat → Int32} (hA : ∀ i, first ≤ i → i ≤ last → sl i = ss_e (a i)) (hB : ∀ i, first ≤ i → i ≤ last → le (n - i) = ss_e (b (n - i))) (hn : n < 32) (hl : last ≤ n) (p : post (ss_e (ss_o a b n first (last + 1 - first)))) : ∀ d k sum, first + k + d = last + 1 → ss_LV sum (ss_o a b n first k) (k * 150994944) → wX_sumOfProducts__slopes_left_6 post (nI n) (nI last) c le ri re ot sl lp rp lW rW pt lL rL pL (d + 1) sum (nI (first + k)) := by
  intro d
  induction d with
  | zero =>
    intro k sum hk hs
    have e : last + 1 - first = k := by omega
    rw [e] at p
    exact br_t (nI_lt (by omega) (by omega)) (ss_Xr hs p)
  | succ d ih =>
    intro k sum hk hs
    have x1 : sl (nI (first + k)).toNatClampNeg = ss_e (a (first + k)) := by rw [ss_ci (by omega)]; exact hA _ (by omega) (by omega)
    have x2 : le (nI n - nI (first + k)).toNatClampNeg = ss_e (b (n - (first + k))) := by rw [pk_sub (by omega), ss_ci (by omega)]; exact hB _ (by omega) (by omega)
    refine br_f (nI_nlt (by omega) (by omega)) ⟨vp_in_nI (by omega) (by decide), ?_, nm_e (nm_r (nI_1 (first + k)) (ih (k + 1) _ (by omega) (ss_acc hs x1 x2 (by omega))))⟩
    rw [pk_sub (by omega)]
    exact vp_in_nI (by omega) (by decide)
theorem ss_so_slopes_left {post : Int32 → Prop} (a b : Nat → ss_F) {n first last : Nat} {c le ri re ot sl lp rp lW rW pt lL rL pL : Nat → Int32} (hA : ∀ i, first ≤ i → i ≤ last → sl i = ss_e (a i)) (hB : ∀ i, first ≤ i → i ≤ last → le (n - i) = ss_e (b (n - i))) (hn : n < 32) (hl : last ≤ n) (hf : first ≤ last + 1) (p : post (ss_e (ss_o a b n first (last + 1 - first)))) : wpX_sumOfProducts__slopes_left post (c, le, ri, re, ot, sl, lp, rp, lW, rW, pt, lL, rL, pL) (nI n) (nI first) (nI last) :=
  ⟨last + 1 - first + 1, ss_so_slopes_left_lp a b hA hB hn hl p (last + 1 - first) 0 0 (by omega) ss_acc0⟩
theorem ss_so_slopes_result_lp {post : Int32 → Prop} (a b : Nat → ss_F) {n first last : Nat} {c le ri re ot sl lp rp lW rW pt lL rL pL : Nat → Int32} (hA : ∀ i, first ≤ i → i ≤ last → sl i = ss_e (a i)) (hB : ∀ i, first ≤ i → i ≤ last → re (n - i) = ss_e (b (n - i))) (hn : n < 32) (hl : last ≤ n) (p : post (ss_e (ss_o a b n first (last + 1 - first)))) : ∀ d k sum, first + k + d = last + 1 → ss_LV sum (ss_o a b n first k) (k * 150994944) → wX_sumOfProducts__slopes_result_6 post (nI n) (nI last) c le ri re ot sl lp rp lW rW pt lL rL pL (d + 1) sum (nI (first + k)) := by
  intro d
  induction d with
  | zero =>
    intro k sum hk hs
    have e : last + 1 - first = k := by omega
    rw [e] at p
    exact br_t (nI_lt (by omega) (by omega)) (ss_Xr hs p)
  | succ d ih =>
    intro k sum hk hs
    have x1 : sl (nI (first + k)).toNatClampNeg = ss_e (a (first + k)) := by rw [ss_ci (by omega)]; exact hA _ (by omega) (by omega)
    have x2 : re (nI n - nI (first + k)).toNatClampNeg = ss_e (b (n - (first + k))) := by rw [pk_sub (by omega), ss_ci (by omega)]; exact hB _ (by omega) (by omega)
    refine br_f (nI_nlt (by omega) (by omega)) ⟨vp_in_nI (by omega) (by decide), ?_, nm_e (nm_r (nI_1 (first + k)) (ih (k + 1) _ (by omega) (ss_acc hs x1 x2 (by omega))))⟩
    rw [pk_sub (by omega)]
    exact vp_in_nI (by omega) (by decide)
theorem ss_so_slopes_result {post : Int32 → Prop} (a b : Nat → ss_F) {n first last : Nat} {c le ri re ot sl lp rp lW rW pt lL rL pL : Nat → Int32} (hA : ∀ i, first ≤ i → i ≤ last → sl i = ss_e (a i)) (hB : ∀ i, first ≤ i → i ≤ last → re (n - i) = ss_e (b (n - i))) (hn : n < 32) (hl : last ≤ n) (hf : first ≤ last + 1) (p : post (ss_e (ss_o a b n first (last + 1 - first)))) : wpX_sumOfProducts__slopes_result post (c, le, ri, re, ot, sl, lp, rp, lW, rW, pt, lL, rL, pL) (nI n) (nI first) (nI last) :=
  ⟨last + 1 - first + 1, ss_so_slopes_result_lp a b hA hB hn hl p (last + 1 - first) 0 0 (by omega) ss_acc0⟩
theorem ss_so_result_result_lp {post : Int32 → Prop} (a b : Nat → ss_F) {n first last : Nat} {c le ri re ot sl lp rp lW rW pt lL rL pL : Nat → Int32} (hA : ∀ i, first ≤ i → i ≤ last → re i = ss_e (a i)) (hB : ∀ i, first ≤ i → i ≤ last → re (n - i) = ss_e (b (n - i))) (hn : n < 32) (hl : last ≤ n) (p : post (ss_e (ss_o a b n first (last + 1 - first)))) : ∀ d k sum, first + k + d = last + 1 → ss_LV sum (ss_o a b n first k) (k * 150994944) → wX_sumOfProducts__result_result_6 post (nI n) (nI last) c le ri re ot sl lp rp lW rW pt lL rL pL (d + 1) sum (nI (first + k)) := by
  intro d
  induction d with
  | zero =>
    intro k sum hk hs
    have e : last + 1 - first = k := by omega
    rw [e] at p
    exact br_t (nI_lt (by omega) (by omega)) (ss_Xr hs p)
  | succ d ih =>
    intro k sum hk hs
    have x1 : re (nI (first + k)).toNatClampNeg = ss_e (a (first + k)) := by rw [ss_ci (by omega)]; exact hA _ (by omega) (by omega)
    have x2 : re (nI n - nI (first + k)).toNatClampNeg = ss_e (b (n - (first + k))) := by rw [pk_sub (by omega), ss_ci (by omega)]; exact hB _ (by omega) (by omega)
    refine br_f (nI_nlt (by omega) (by omega)) ⟨vp_in_nI (by omega) (by decide), ?_, nm_e (nm_r (nI_1 (first + k)) (ih (k + 1) _ (by omega) (ss_acc hs x1 x2 (by omega))))⟩
    rw [pk_sub (by omega)]
    exact vp_in_nI (by omega) (by decide)
theorem ss_so_result_result {post : Int32 → Prop} (a b : Nat → ss_F) {n first last : Nat} {c le ri re ot sl lp rp lW rW pt lL rL pL : Nat → Int32} (hA : ∀ i, first ≤ i → i ≤ last → re i = ss_e (a i)) (hB : ∀ i, first ≤ i → i ≤ last → re (n - i) = ss_e (b (n - i))) (hn : n < 32) (hl : last ≤ n) (hf : first ≤ last + 1) (p : post (ss_e (ss_o a b n first (last + 1 - first)))) : wpX_sumOfProducts__result_result post (c, le, ri, re, ot, sl, lp, rp, lW, rW, pt, lL, rL, pL) (nI n) (nI first) (nI last) :=
  ⟨last + 1 - first + 1, ss_so_result_result_lp a b hA hB hn hl p (last + 1 - first) 0 0 (by omega) ss_acc0⟩
theorem ss_va_left_lp {post : Int32 → Prop} {f : Nat → ss_F} {x : ss_F} {c le ri re ot sl lp rp lW rW pt lL rL pL : Nat → Int32} (hA : ss_A le f 32) (p : post (ss_e (ss_v 32 f x))) : ∀ k y, k ≤ 32 → y = ss_m k → wX_valueAt__left_5 post (ss_e x) c le ri re ot sl lp rp lW rW pt lL rL pL (k + 1) (ss_e (ss_h f x k)) y := by
  intro k
  induction k with
  | zero =>
    intro y _ hy
    subst hy
    rw [ss_h0]
    exact br_t (by decide) p
  | succ k ih =>
    intro y hk hy
    subst hy
    rw [ss_m_s]
    refine br_f (nI_pos (by omega)) ⟨vp_in_nI (by omega) (by decide), ss_pI, nm_r ?_ (nm_e (ih _ (by omega) rfl))⟩
    rw [ss_ci (by omega), hA k (by omega), ss_hs f x (k := k) (by omega)]
    exact ss_NV_rem (ss_NV_add (ss_NV_mul (ss_NV_e _) (ss_NV_e x)) (ss_NV_e _))
theorem ss_va_left {post : Int32 → Prop} {f : Nat → ss_F} {x : ss_F} {c le ri re ot sl lp rp lW rW pt lL rL pL : Nat → Int32} (hA : ss_A le f 32) (p : post (ss_e (ss_v 32 f x))) : wpX_valueAt__left post (c, le, ri, re, ot, sl, lp, rp, lW, rW, pt, lL, rL, pL) (ss_e x) := ⟨33, ss_va_left_lp hA p 32 31 (Nat.le_refl 32) (by decide)⟩
theorem ss_lz_left_lp {post : Int32 → Prop} {f : Nat → ss_F} {c le ri re ot sl lp rp lW rW pt lL rL pL : Nat → Int32} (hA : ss_A le f 32) : ∀ k y, k ≤ 32 → y = ss_m k → post (ss_m (ss_d f k)) → wX_lastNonZero__left_3 post c le ri re ot sl lp rp lW rW pt lL rL pL (k + 1) y := by
  intro k
  induction k with
  | zero =>
    intro y _ hy p
    subst hy
    exact br_t (by decide) (ss_m_0 ▸ p)
  | succ k ih =>
    intro y hk hy p
    subst hy
    rw [ss_m_s]
    have e : le (nI k).toNatClampNeg = ss_e (f k) := by rw [ss_ci (by omega)]; exact hA k (by omega)
    have p' : post (ss_m (if f k = 0 then ss_d f k else k + 1)) := p
    refine br_f (nI_pos (by omega)) ⟨vp_in_nI (by omega) (by decide), ?_⟩
    by_cases z : f k = 0
    · rw [if_pos z] at p'
      exact br_t (by rw [e, z]; exact ss_e0) (nm_e (ih _ (by omega) rfl p'))
    · rw [if_neg z, ss_m_s] at p'
      exact br_f (by rw [e]; exact fun h => z ((ss_e_eq0 _).mp h)) p'
theorem ss_lz_left {post : Int32 → Prop} {f : Nat → ss_F} {c le ri re ot sl lp rp lW rW pt lL rL pL : Nat → Int32} (hA : ss_A le f 32) (p : post (ss_m (ss_d f 32))) : wpX_lastNonZero__left post (c, le, ri, re, ot, sl, lp, rp, lW, rW, pt, lL, rL, pL) := ⟨33, ss_lz_left_lp hA 32 31 (Nat.le_refl 32) (by decide) p⟩
theorem ss_va_right_lp {post : Int32 → Prop} {f : Nat → ss_F} {x : ss_F} {c le ri re ot sl lp rp lW rW pt lL rL pL : Nat → Int32} (hA : ss_A ri f 32) (p : post (ss_e (ss_v 32 f x))) : ∀ k y, k ≤ 32 → y = ss_m k → wX_valueAt__right_5 post (ss_e x) c le ri re ot sl lp rp lW rW pt lL rL pL (k + 1) (ss_e (ss_h f x k)) y := by
  intro k
  induction k with
  | zero =>
    intro y _ hy
    subst hy
    rw [ss_h0]
    exact br_t (by decide) p
  | succ k ih =>
    intro y hk hy
    subst hy
    rw [ss_m_s]
    refine br_f (nI_pos (by omega)) ⟨vp_in_nI (by omega) (by decide), ss_pI, nm_r ?_ (nm_e (ih _ (by omega) rfl))⟩
    rw [ss_ci (by omega), hA k (by omega), ss_hs f x (k := k) (by omega)]
    exact ss_NV_rem (ss_NV_add (ss_NV_mul (ss_NV_e _) (ss_NV_e x)) (ss_NV_e _))
theorem ss_va_right {post : Int32 → Prop} {f : Nat → ss_F} {x : ss_F} {c le ri re ot sl lp rp lW rW pt lL rL pL : Nat → Int32} (hA : ss_A ri f 32) (p : post (ss_e (ss_v 32 f x))) : wpX_valueAt__right post (c, le, ri, re, ot, sl, lp, rp, lW, rW, pt, lL, rL, pL) (ss_e x) := ⟨33, ss_va_right_lp hA p 32 31 (Nat.le_refl 32) (by decide)⟩
theorem ss_lz_right_lp {post : Int32 → Prop} {f : Nat → ss_F} {c le ri re ot sl lp rp lW rW pt lL rL pL : Nat → Int32} (hA : ss_A ri f 32) : ∀ k y, k ≤ 32 → y = ss_m k → post (ss_m (ss_d f k)) → wX_lastNonZero__right_3 post c le ri re ot sl lp rp lW rW pt lL rL pL (k + 1) y := by
  intro k
  induction k with
  | zero =>
    intro y _ hy p
    subst hy
    exact br_t (by decide) (ss_m_0 ▸ p)
  | succ k ih =>
    intro y hk hy p
    subst hy
    rw [ss_m_s]
    have e : ri (nI k).toNatClampNeg = ss_e (f k) := by rw [ss_ci (by omega)]; exact hA k (by omega)
    have p' : post (ss_m (if f k = 0 then ss_d f k else k + 1)) := p
    refine br_f (nI_pos (by omega)) ⟨vp_in_nI (by omega) (by decide), ?_⟩
    by_cases z : f k = 0
    · rw [if_pos z] at p'
      exact br_t (by rw [e, z]; exact ss_e0) (nm_e (ih _ (by omega) rfl p'))
    · rw [if_neg z, ss_m_s] at p'
      exact br_f (by rw [e]; exact fun h => z ((ss_e_eq0 _).mp h)) p'
theorem ss_lz_right {post : Int32 → Prop} {f : Nat → ss_F} {c le ri re ot sl lp rp lW rW pt lL rL pL : Nat → Int32} (hA : ss_A ri f 32) (p : post (ss_m (ss_d f 32))) : wpX_lastNonZero__right post (c, le, ri, re, ot, sl, lp, rp, lW, rW, pt, lL, rL, pL) := ⟨33, ss_lz_right_lp hA 32 31 (Nat.le_refl 32) (by decide) p⟩
end
section
/-! the relation; set, fill, coefficient, degree, copy, add, value -/
/-- the pieces that are left from earlier calls are residues -/
def ss_P (x y : Nat → Int32) : Prop := (∃ g, x = ss_em g) ∧ ∃ g, y = ss_em g
def i_Rel (_ : Nat) (u : SX) (v : SY) : Prop := ∃ (f : Nat → ss_F) (le ri re ot sl lp rp lW rW pt lL rL pL m : Nat → Int32), u = (ss_em f, le, ri, re, ot, sl, lp, rp, lW, rW, pt, lL, rL, pL) ∧ v = (ss_em f, m) ∧ ss_P lp rp
theorem ss_R {k : Nat} {f : Nat → ss_F} {le ri re ot sl lp rp lW rW pt lL rL pL : Nat → Int32} {m : Nat → Int32} (hP : ss_P lp rp) : i_Rel k (ss_em f, le, ri, re, ot, sl, lp, rp, lW, rW, pt, lL, rL, pL) (ss_em f, m) := ⟨f, le, ri, re, ot, sl, lp, rp, lW, rW, pt, lL, rL, pL, m, rfl, rfl, hP⟩
theorem i_up {k : Nat} {u : SX} {v : SY} (h : i_Rel k u v) : i_Rel (k + 5) u v := h
theorem i_vc0 : wpX_init (fun u => wpY_init (fun v => i_Rel 0 u v)) := by
  unfold wpX_init wpY_init
  exact ⟨fun _ => 0, _, _, _, _, _, _, _, _, _, _, _, _, _, _, by rw [← ss_em_0], by rw [← ss_em_0], ⟨_, ss_em_0⟩, ⟨_, ss_em_0⟩⟩
/-! set -/
theorem ss_X_set {post : Int32 → SX → Prop} {f : Nat → ss_F} {le ri re ot sl lp rp lW rW pt lL rL pL : Nat → Int32} {s i : Nat} (hs : s < 5) (hi : i < 32) (v : Int32) (p : post 1 (ss_em (ss_u f (32 * s + i) (ss_z v.toInt)), le, ri, re, ot, sl, lp, rp, lW, rW, pt, lL, rL, pL)) : wpX_set post (ss_em f, le, ri, re, ot, sl, lp, rp, lW, rW, pt, lL, rL, pL) (nI s) (nI i) v := by
  unfold wpX_set
  refine ss_XserT hs (br_f ss_10 (ss_XplcT hi (br_f ss_10 (ss_Xr (ss_LV_any v) ⟨?_, nm_r ?_ p⟩))))
  · rw [ss_ix]
    exact ss_in160 hs hi
  · rw [ss_ix, ss_cl160 hs hi, ss_em_u]
theorem ss_Y_set {post : Int32 → SY → Prop} {f : Nat → ss_F} {m : Nat → Int32} {s i : Nat} (hs : s < 5) (hi : i < 32) (v : Int32) (p : post 1 (ss_em (ss_u f (32 * s + i) (ss_z v.toInt)), m)) : wpY_set post (ss_em f, m) (nI s) (nI i) v := by
  unfold wpY_set
  refine ss_YserT hs (br_f ss_10 (ss_YplcT hi (br_f ss_10 (ss_Yr (ss_LV_any v) ⟨?_, nm_r ?_ p⟩))))
  · rw [ss_iy]
    exact ss_in160 hs hi
  · rw [ss_iy, ss_cl160 hs hi, ss_em_u]
theorem i_vc_set {k : Nat} {u : SX} {v : SY} (I : i_Rel k u v) (hk : k + 5 ≤ 2560) (v1 : Int32) (v2 : Int32) (v3 : Int32) : wpX_set (fun r u' => wpY_set (fun r' v' => r' = r ∧ i_Rel (k + 5) u' v') v v1 v2 v3) u v1 v2 v3 := by
  obtain ⟨f, le, ri, re, ot, sl, lp, rp, lW, rW, pt, lL, rL, pL, m, rfl, rfl, hP⟩ := I
  rcases ss_ser v1 with h | ⟨s, hs, rfl⟩
  · unfold wpX_set wpY_set
    exact ss_XserF h (br_t rfl (ss_YserF h (br_t rfl ⟨rfl, ss_R hP⟩)))
  · rcases ss_plc v2 with h | ⟨i, hi, rfl⟩
    · unfold wpX_set wpY_set
      exact ss_XserT hs (br_f ss_10 (ss_XplcF h (br_t rfl (ss_YserT hs (br_f ss_10 (ss_YplcF h (br_t rfl ⟨rfl, ss_R hP⟩)))))))
    · exact ss_X_set hs hi v3 (ss_Y_set hs hi v3 ⟨rfl, ss_R hP⟩)
/-! fill -/
def ss_fl (r : ss_F) : Nat → (Nat → ss_F) → Nat → ss_F → Nat → ss_F
  | 0, f, _, _ => f
  | d + 1, f, b, t => ss_fl r d (ss_u f b t) (b + 1) (t * r)
theorem ss_X_fill_lp {post : Int32 → SX → Prop} {s : Nat} (hs : s < 5) {r : ss_F} {le ri re ot sl lp rp lW rW pt lL rL pL : Nat → Int32} : ∀ d i f t, i + d = 32 → post 1 (ss_em (ss_fl r d f (32 * s + i) t), le, ri, re, ot, sl, lp, rp, lW, rW, pt, lL, rL, pL) → wX_fill_34 post (nI s) (ss_e r) (d + 1) (ss_e t) (nI i) (ss_em f) le ri re ot sl lp rp lW rW pt lL rL pL := by
  intro d
  induction d with
  | zero =>
    intro i f t hi p
    have : i = 32 := by omega
    subst this
    exact br_t (by decide) p
  | succ d ih =>
    intro i f t hi p
    refine br_f (nI_ge (b := 32) (by omega) (by decide)) ⟨?_, nm_r (e' := ss_em (ss_u f (32 * s + i) t)) ?_ ⟨ss_pI, nm_r (ss_NV_rem (ss_NV_mul (ss_NV_e t) (ss_NV_e r))) (nm_r (nI_1 i) (ih (i + 1) _ _ (by omega) p))⟩⟩
    · rw [ss_ix]
      exact ss_in160 hs (by omega)
    · rw [ss_ix, ss_cl160 hs (by omega), ss_em_u]
theorem ss_Y_fill_lp {post : Int32 → SY → Prop} {s : Nat} (hs : s < 5) {m : Nat → Int32} (w : Int32) : ∀ d i f t, i + d = 32 → post 1 (ss_em (ss_fl (ss_z w.toInt) d f (32 * s + i) t), m) → wY_fill_29 post (nI s) w (d + 1) (ss_e t) (nI i) (ss_em f) m := by
  intro d
  induction d with
  | zero =>
    intro i f t hi p
    have : i = 32 := by omega
    subst this
    exact br_t (by decide) p
  | succ d ih =>
    intro i f t hi p
    refine br_f (nI_ge (b := 32) (by omega) (by decide)) ⟨?_, nm_r (e' := ss_em (ss_u f (32 * s + i) t)) ?_ (ss_Yr (ss_LV_any w) (ss_Yr (ss_LV_mul (ss_LVe t) (ss_LVe _)) (nm_r (nI_1 i) (ih (i + 1) _ _ (by omega) p))))⟩
    · rw [ss_iy]
      exact ss_in160 hs (by omega)
    · rw [ss_iy, ss_cl160 hs (by omega), ss_em_u]
theorem i_vc_fill {k : Nat} {u : SX} {v : SY} (I : i_Rel k u v) (hk : k + 5 ≤ 2560) (v1 : Int32) (v2 : Int32) (v3 : Int32) (v4 : Int32) : wpX_fill (fun r u' => wpY_fill (fun r' v' => r' = r ∧ i_Rel (k + 5) u' v') v v1 v2 v3 v4) u v1 v2 v3 v4 := by
  obtain ⟨f, le, ri, re, ot, sl, lp, rp, lW, rW, pt, lL, rL, pL, m, rfl, rfl, hP⟩ := I
  rcases ss_ser v1 with h | ⟨s, hs, rfl⟩
  · unfold wpX_fill wpY_fill
    exact ss_XserF h (br_t rfl (ss_YserF h (br_t rfl ⟨rfl, ss_R hP⟩)))
  · rcases ss_plc v2 with h | ⟨i, hi, rfl⟩
    · unfold wpX_fill wpY_fill
      exact ss_XserT hs (br_f ss_10 (ss_XplcF h (br_t rfl (ss_YserT hs (br_f ss_10 (ss_YplcF h (br_t rfl ⟨rfl, ss_R hP⟩)))))))
    · unfold wpX_fill
      refine ss_XserT hs (br_f ss_10 (ss_XplcT hi (br_f ss_10 (ss_Xr (ss_LV_any v3) (ss_Xr (ss_LV_any v4) ⟨32 - i + 1, ss_X_fill_lp hs (32 - i) i _ _ (by omega) ?_⟩)))))
      unfold wpY_fill
      exact ss_YserT hs (br_f ss_10 (ss_YplcT hi (br_f ss_10 (ss_Yr (ss_LV_any v3) ⟨32 - i + 1, ss_Y_fill_lp hs v4 (32 - i) i _ _ (by omega) ⟨rfl, ss_R hP⟩⟩))))
/-! coefficient -/
theorem i_vc_coefficient {k : Nat} {u : SX} {v : SY} (I : i_Rel k u v) (hk : k + 5 ≤ 2560) (v1 : Int32) (v2 : Int32) : wpX_coefficient (fun r => wpY_coefficient (fun r' => r' = r ∧ i_Rel (k + 5) u v) v v1 v2) u v1 v2 := by
  obtain ⟨f, le, ri, re, ot, sl, lp, rp, lW, rW, pt, lL, rL, pL, m, rfl, rfl, hP⟩ := I
  rcases ss_ser v1 with h | ⟨s, hs, rfl⟩
  · unfold wpX_coefficient wpY_coefficient
    exact ss_XserF h (br_t rfl (ss_YserF h (br_t rfl ⟨rfl, ss_R hP⟩)))
  · rcases ss_plc v2 with h | ⟨i, hi, rfl⟩
    · unfold wpX_coefficient wpY_coefficient
      exact ss_XserT hs (br_f ss_10 (ss_XplcF h (br_t rfl (ss_YserT hs (br_f ss_10 (ss_YplcF h (br_t rfl ⟨rfl, ss_R hP⟩)))))))
    · unfold wpX_coefficient wpY_coefficient
      refine ss_XserT hs (br_f ss_10 (ss_XplcT hi (br_f ss_10 ⟨?_, ss_YserT hs (br_f ss_10 (ss_YplcT hi (br_f ss_10 (ss_Yat hs hi ⟨?_, ss_R hP⟩))))⟩)))
      · rw [ss_ix]
        exact ss_in160 hs hi
      · rw [ss_ix, ss_cl160 hs hi]
        rfl
/-! degree -/
theorem ss_Y_deg_lp {post : Int32 → Prop} {f : Nat → ss_F} {m : Nat → Int32} {s : Nat} (hs : s < 5) : ∀ k y, k ≤ 32 → y = ss_m k → post (ss_m (ss_d (ss_g f s) k)) → wY_degree_14 post (nI s) (ss_em f) m (k + 1) y := by
  intro k
  induction k with
  | zero =>
    intro y _ hy p
    subst hy
    exact br_t (by decide) p
  | succ k ih =>
    intro y hk hy p
    subst hy
    rw [ss_m_s]
    have p' : post (ss_m (if ss_g f s k = 0 then ss_d (ss_g f s) k else k + 1)) := p
    refine br_f (nI_pos (by omega)) (ss_Yat hs (by omega) ?_)
    by_cases z : ss_g f s k = 0
    · rw [if_pos z] at p'
      exact br_t (by rw [z]; exact ss_e0) (nm_e (ih _ (by omega) rfl p'))
    · rw [if_neg z, ss_m_s] at p'
      exact br_f (fun h => z ((ss_e_eq0 _).mp h)) p'
theorem ss_Y_deg {post : Int32 → Prop} {f : Nat → ss_F} {m : Nat → Int32} {s : Nat} (hs : s < 5) (p : post (ss_m (ss_d (ss_g f s) 32))) : wpY_degree post (ss_em f, m) (nI s) := by
  unfold wpY_degree
  exact ss_YserT hs (br_f ss_10 ⟨33, ss_Y_deg_lp hs 32 31 (Nat.le_refl 32) (by decide) p⟩)
theorem i_vc_degree {k : Nat} {u : SX} {v : SY} (I : i_Rel k u v) (hk : k + 5 ≤ 2560) (v1 : Int32) : wpX_degree (fun r u' => wpY_degree (fun r' => r' = r ∧ i_Rel (k + 5) u' v) v v1) u v1 := by
  obtain ⟨f, le, ri, re, ot, sl, lp, rp, lW, rW, pt, lL, rL, pL, m, rfl, rfl, hP⟩ := I
  rcases ss_ser v1 with h | ⟨s, hs, rfl⟩
  · unfold wpX_degree wpY_degree
    exact ss_XserF h (br_t rfl (ss_YserF h (br_t rfl ⟨rfl, ss_R hP⟩)))
  · unfold wpX_degree
    exact ss_XserT hs (br_f ss_10 (ss_ld_left hs (fun x hx => ss_lz_left hx (ss_Y_deg hs ⟨rfl, ss_R hP⟩))))
/-! copy -/
theorem ss_b_t (f : Nat → ss_F) {s t i : Nat} (hi : i < 32) (g : Nat → ss_F) : ss_g (ss_b f s i g) t i = ss_g f t i := by
  show (if 32 * s ≤ 32 * t + i ∧ 32 * t + i < 32 * s + i then _ else _) = _
  rw [if_neg (by omega)]
  rfl
theorem ss_Y_copy_lp {post : Int32 → SY → Prop} {f : Nat → ss_F} {m : Nat → Int32} {s t : Nat} (hs : s < 5) (ht : t < 5) (p : post 1 (ss_em (ss_b f s 32 (ss_g f t)), m)) : ∀ d i, i + d = 32 → wY_copy_20 post (nI s) (nI t) (d + 1) (nI i) (ss_em (ss_b f s i (ss_g f t))) m := by
  intro d
  induction d with
  | zero =>
    intro i hi
    have : i = 32 := by omega
    subst this
    exact br_t (by decide) p
  | succ d ih =>
    intro i hi
    refine br_f (nI_ge (b := 32) (by omega) (by decide)) (ss_Yat ht (by omega) ⟨?_, nm_r (e' := ss_em (ss_b f s (i + 1) (ss_g f t))) ?_ (nm_r (nI_1 i) (ih (i + 1) (by omega)))⟩)
    · rw [ss_iy]
      exact ss_in160 hs (by omega)
    · rw [ss_iy, ss_cl160 hs (by omega), ss_em_u, ss_b_t f (by omega), ss_bs]
theorem i_vc_copy {k : Nat} {u : SX} {v : SY} (I : i_Rel k u v) (hk : k + 5 ≤ 2560) (v1 : Int32) (v2 : Int32) : wpX_copy (fun r u' => wpY_copy (fun r' v' => r' = r ∧ i_Rel (k + 5) u' v') v v1 v2) u v1 v2 := by
  obtain ⟨f, le, ri, re, ot, sl, lp, rp, lW, rW, pt, lL, rL, pL, m, rfl, rfl, hP⟩ := I
  rcases ss_ser v1 with h | ⟨s, hs, rfl⟩
  · unfold wpX_copy wpY_copy
    exact ss_XserF h (br_t rfl (ss_YserF h (br_t rfl ⟨rfl, ss_R hP⟩)))
  · rcases ss_ser v2 with h | ⟨t, ht, rfl⟩
    · unfold wpX_copy wpY_copy
      exact ss_XserT hs (br_f ss_10 (ss_XserF h (br_t rfl (ss_YserT hs (br_f ss_10 (ss_YserF h (br_t rfl ⟨rfl, ss_R hP⟩)))))))
    · unfold wpX_copy
      refine ss_XserT hs (br_f ss_10 (ss_XserT ht (br_f ss_10 (ss_ld_left ht (fun x hx => ss_st_left hs hx ?_)))))
      unfold wpY_copy
      have k := ss_Y_copy_lp (post := fun r' v' => r' = 1 ∧ i_Rel (k + 5) (ss_em (ss_b f s 32 (ss_g f t)), x, ri, re, ot, sl, lp, rp, lW, rW, pt, lL, rL, pL) v') (f := f) (m := m) hs ht ⟨rfl, ss_R hP⟩ 32 0 rfl
      rw [ss_b0] at k
      exact ss_YserT hs (br_f ss_10 (ss_YserT ht (br_f ss_10 ⟨33, k⟩)))
/-! add -/
def ss_ad (f : Nat → ss_F) (s t : Nat) (v : ss_F) : Nat → ss_F := fun n => ss_g f s n + v * ss_g f t n
theorem ss_X_add_lp {post : Int32 → SX → Prop} {f : Nat → ss_F} {s t : Nat} (hs : s < 5) (ht : t < 5) {v : ss_F} {le ri re ot sl lp rp lW rW pt lL rL pL : Nat → Int32} (p : post 1 (ss_em (ss_b f s 32 (ss_ad f s t v)), le, ri, re, ot, sl, lp, rp, lW, rW, pt, lL, rL, pL)) : ∀ d i, i + d = 32 → wX_add_26 post (nI s) (nI t) (ss_e v) (d + 1) (nI i) (ss_em (ss_b f s i (ss_ad f s t v))) le ri re ot sl lp rp lW rW pt lL rL pL := by
  intro d
  induction d with
  | zero =>
    intro i hi
    have : i = 32 := by omega
    subst this
    exact br_t (by decide) p
  | succ d ih =>
    intro i hi
    have e1 : ss_em (ss_b f s i (ss_ad f s t v)) (nI (32 * s + i)).toNatClampNeg = ss_e (ss_g f s i) := by
      rw [ss_cl160 hs (by omega)]
      exact congrArg ss_e (ss_b_t f (by omega) _)
    have e2 : ss_em (ss_b f s i (ss_ad f s t v)) (nI t * 32 + nI i).toNatClampNeg = ss_e (ss_g f t i) := by
      rw [ss_ix, ss_cl160 ht (by omega)]
      exact congrArg ss_e (ss_b_t f (by omega) _)
    refine br_f (nI_ge (b := 32) (by omega) (by decide)) (nm_r (ss_ix s i) ⟨ss_in160 hs (by omega), ?_, ss_pI, ss_in160 hs (by omega), nm_r (e' := ss_em (ss_b f s (i + 1) (ss_ad f s t v))) ?_ (nm_r (nI_1 i) (ih (i + 1) (by omega)))⟩)
    · rw [ss_ix]
      exact ss_in160 ht (by omega)
    · rw [e1, e2, ss_NV_rem (ss_NV_add (ss_NV_e (ss_g f s i)) (ss_NV_mul (ss_NV_e v) (ss_NV_e (ss_g f t i)))), ss_cl160 hs (by omega), ss_em_u, ← ss_bs]
      rfl
theorem ss_Y_add_lp {post : Int32 → SY → Prop} {f : Nat → ss_F} {s t : Nat} (hs : s < 5) (ht : t < 5) (v : Int32) (p : ∀ m, post 1 (ss_em (ss_b f s 32 (ss_ad f s t (ss_z v.toInt))), m)) : ∀ d i m, i + d = 32 → ss_A m (ss_ad f s t (ss_z v.toInt)) i → wY_add_21 post (nI s) (nI t) v (d + 1) (nI i) (ss_em f) m := by
  intro d
  induction d with
  | zero =>
    intro i m hi hA
    have : i = 32 := by omega
    subst this
    exact br_t (by decide) (ss_tk hs hA (p m))
  | succ d ih =>
    intro i m hi hA
    refine br_f (nI_ge (b := 32) (by omega) (by decide)) (ss_Yat hs (by omega) (ss_Yr (ss_LV_any v) (ss_Yat ht (by omega) (ss_Yr (ss_LV_add (ss_LVe _) (ss_LV_mul (ss_LVe _) (ss_LVe _))) ⟨vp_in_nI (by omega) (by decide), nm_e (nm_r (nI_1 i) (ih (i + 1) _ (by omega) ?_))⟩))))
    rw [ss_ci (by omega)]
    exact ss_A_s hA rfl
theorem i_vc_add {k : Nat} {u : SX} {v : SY} (I : i_Rel k u v) (hk : k + 5 ≤ 2560) (v1 : Int32) (v2 : Int32) (v3 : Int32) : wpX_add (fun r u' => wpY_add (fun r' v' => r' = r ∧ i_Rel (k + 5) u' v') v v1 v2 v3) u v1 v2 v3 := by
  obtain ⟨f, le, ri, re, ot, sl, lp, rp, lW, rW, pt, lL, rL, pL, m, rfl, rfl, hP⟩ := I
  rcases ss_ser v1 with h | ⟨s, hs, rfl⟩
  · unfold wpX_add wpY_add
    exact ss_XserF h (br_t rfl (ss_YserF h (br_t rfl ⟨rfl, ss_R hP⟩)))
  · rcases ss_ser v2 with h | ⟨t, ht, rfl⟩
    · unfold wpX_add wpY_add
      exact ss_XserT hs (br_f ss_10 (ss_XserF h (br_t rfl (ss_YserT hs (br_f ss_10 (ss_YserF h (br_t rfl ⟨rfl, ss_R hP⟩)))))))
    · unfold wpX_add
      have key : ∀ post : Int32 → SX → Prop, post 1 (ss_em (ss_b f s 32 (ss_ad f s t (ss_z v3.toInt))), le, ri, re, ot, sl, lp, rp, lW, rW, pt, lL, rL, pL) → wX_add_26 post (nI s) (nI t) (ss_e (ss_z v3.toInt)) 33 (nI 0) (ss_em f) le ri re ot sl lp rp lW rW pt lL rL pL := by
        intro post p
        have k := ss_X_add_lp (f := f) (v := ss_z v3.toInt) hs ht p 32 0 rfl
        rw [ss_b0] at k
        exact k
      refine ss_XserT hs (br_f ss_10 (ss_XserT ht (br_f ss_10 (ss_Xr (ss_LV_any v3) ⟨33, key _ ?_⟩))))
      unfold wpY_add
      exact ss_YserT hs (br_f ss_10 (ss_YserT ht (br_f ss_10 ⟨33, ss_Y_add_lp hs ht v3 (fun m => ⟨rfl, ss_R hP⟩) 32 0 m rfl (ss_A_0 _ _)⟩)))
/-! value -/
theorem ss_Y_val_lp {post : Int32 → Prop} {f : Nat → ss_F} {m : Nat → Int32} {s : Nat} (hs : s < 5) (x : Int32) (p : post (ss_e (ss_v 32 (ss_g f s) (ss_z x.toInt)))) : ∀ k y, k ≤ 32 → y = ss_m k → wY_value_17 post (nI s) x (ss_em f) m (k + 1) (ss_e (ss_h (ss_g f s) (ss_z x.toInt) k)) y := by
  intro k
  induction k with
  | zero =>
    intro y _ hy
    subst hy
    rw [ss_h0]
    exact br_t (by decide) p
  | succ k ih =>
    intro y hk hy
    subst hy
    rw [ss_m_s]
    refine br_f (nI_pos (by omega)) (ss_Yr (ss_LV_any x) (ss_Yat hs (by omega) (ss_Yr (ss_LV_add (ss_LV_mul (ss_LVe _) (ss_LVe _)) (ss_LVe _)) (nm_e ?_))))
    rw [← ss_hs (ss_g f s) (ss_z x.toInt) (k := k) (by omega)]
    exact ih _ (by omega) rfl
theorem i_vc_value {k : Nat} {u : SX} {v : SY} (I : i_Rel k u v) (hk : k + 5 ≤ 2560) (v1 : Int32) (v2 : Int32) : wpX_value (fun r u' => wpY_value (fun r' => r' = r ∧ i_Rel (k + 5) u' v) v v1 v2) u v1 v2 := by
  obtain ⟨f, le, ri, re, ot, sl, lp, rp, lW, rW, pt, lL, rL, pL, m, rfl, rfl, hP⟩ := I
  rcases ss_ser v1 with h | ⟨s, hs, rfl⟩
  · unfold wpX_value wpY_value
    exact ss_XserF h (br_t rfl (ss_YserF h (br_t rfl ⟨rfl, ss_R hP⟩)))
  · unfold wpX_value
    refine ss_XserT hs (br_f ss_10 (ss_ld_left hs (fun x hx => ss_Xr (ss_LV_any v2) (ss_va_left hx ?_))))
    unfold wpY_value
    exact ss_YserT hs (br_f ss_10 ⟨33, ss_Y_val_lp hs v2 ⟨rfl, ss_R hP⟩ 32 31 (Nat.le_refl 32) (by decide)⟩)
end
section
/-! invert, log, exp, root -/
theorem ss_c0 (f : Nat → ss_F) {s : Nat} (hs : s < 5) : ss_em f (nI s * 32).toNatClampNeg = ss_e (ss_g f s 0) := by
  rw [ss_i0, ss_cl160 hs (by decide)]
  rfl
theorem ss_v0 {s : Nat} (hs : s < 5) : vp_in (nI s * 32) 160 := by
  rw [ss_i0]
  exact ss_in160 hs (by decide)
theorem ss_n1I {n : Nat} (h : 0 < n) : nI n - 1 = nI (n - 1) := pk_sub (b := 1) h
theorem ss_LV1 : ss_LV 1 1 1 := ⟨by decide, by decide⟩
theorem ss_LVs {i : Nat} (h : i < 1000) : ss_LV ((nI i).toInt64 + 1) (ss_n (i + 1)) (i + 1) := by
  rw [ss_n_succ]
  exact ss_LV_add (ss_IV_L (ss_IV_n i (by omega))) ss_LV1 (by omega)
/-! invert -/
theorem ss_X_inv_lp {post : Int32 → SX → Prop} {s : Nat} (hs : s < 5) {f l : Nat → ss_F} {cc : ss_F} {le ri ot sl lp rp lW rW pt lL rL pL : Nat → Int32} (hA : ss_A le l 32) (p : ∀ x, post 1 (ss_em (ss_b f s 32 (ss_gI l cc)), le, ri, x, ot, sl, lp, rp, lW, rW, pt, lL, rL, pL)) : ∀ d n x, n + d = 32 → 0 < n → ss_A x (ss_gI l cc) n → wX_invert_49 post (nI s) (ss_e cc) (d + 1) (nI n) (ss_em f) le ri x ot sl lp rp lW rW pt lL rL pL := by
  intro d
  induction d with
  | zero =>
    intro n x hn _ hx
    have : n = 32 := by omega
    subst this
    exact br_t (by decide) (ss_st_result hs hx (p x))
  | succ d ih =>
    intro n x hn h0 hx
    have LV : ss_LV ((-ss_e (ss_o l (ss_gI l cc) n 1 (n + 1 - 1))) * ss_e cc).toInt64 (ss_gI l cc n) (12288 * 12288) := by
      rw [ss_gI_n l cc h0 (by omega), Nat.add_sub_cancel]
      exact ss_IV_L (ss_IV_mul (ss_IV_neg (ss_IV_e _)) (ss_IV_e cc))
    refine br_f (nI_ge (b := 32) (by omega) (by decide)) (ss_so_left_result l (ss_gI l cc) (first := 1) (fun i _ h2 => hA i (by omega)) (fun i h1 h2 => hx _ (by omega)) (by omega) (Nat.le_refl n) (by omega) (ss_Xr LV ⟨vp_in_nI (by omega) (by decide), nm_e (nm_r (nI_1 n) (ih (n + 1) _ (by omega) (by omega) ?_))⟩))
    rw [ss_ci (by omega)]
    exact ss_A_s hx rfl
theorem ss_Y_inv_in {post : Int32 → SY → Prop} {J : Int32 → (Nat → Int32) → (Nat → Int32) → Prop} {f : Nat → ss_F} {m : Nat → Int32} {s : Nat} (hs : s < 5) {cc : ss_F} {n : Nat} (h0 : 0 < n) (hn : n < 32) (hx : ss_A m (ss_gI (ss_g f s) cc) n) (h : J (nI (n + 1)) (ss_em f) (upd m n (ss_e (ss_gI (ss_g f s) cc n)))) : ∀ d k sum, 1 + k + d = n + 1 → ss_LV sum (ss_o (ss_g f s) (ss_gI (ss_g f s) cc) n 1 k) (k * 150994944) → wY_invert_54 post J (nI s) (ss_e cc) (nI n) (ss_em f) m (d + 1) sum (nI (1 + k)) := by
  intro d
  induction d with
  | zero =>
    intro k sum hk hL
    have e : k = n := by omega
    subst e
    have LV : ss_LV ((-(ss_e (ss_o (ss_g f s) (ss_gI (ss_g f s) cc) k 1 k)).toInt64) * (ss_e cc).toInt64) (ss_gI (ss_g f s) cc k) (12288 * 12288) := by
      rw [ss_gI_n _ cc h0 hn]
      exact ss_LV_mul (ss_LV_neg (ss_LVe _)) (ss_LVe cc)
    refine br_t (nI_lt (by omega) (by omega)) (ss_Yr hL (ss_Yr LV ⟨vp_in_nI (by omega) (by decide), nm_e (nm_r (nI_1 k) ?_)⟩))
    rw [ss_ci (by omega)]
    exact h
  | succ d ih =>
    intro k sum hk hL
    have x2 : m (nI n - nI (1 + k)).toNatClampNeg = ss_e (ss_gI (ss_g f s) cc (n - (1 + k))) := by rw [pk_sub (by omega), ss_ci (by omega)]; exact hx _ (by omega)
    refine br_f (nI_nlt (by omega) (by omega)) (ss_Yat hs (by omega) ⟨?_, nm_e (nm_r (nI_1 (1 + k)) (ih (k + 1) _ (by omega) (ss_accY hL rfl x2 (by omega))))⟩)
    rw [pk_sub (by omega)]
    exact vp_in_nI (by omega) (by decide)
theorem ss_Y_inv_lp {post : Int32 → SY → Prop} {f : Nat → ss_F} {s : Nat} (hs : s < 5) {cc : ss_F} (p : ∀ m, post 1 (ss_em (ss_b f s 32 (ss_gI (ss_g f s) cc)), m)) : ∀ d n m, n + d = 32 → ss_A m (ss_gI (ss_g f s) cc) n → wY_invert_32 post (nI s) (ss_e cc) (d + 1) (nI n) (ss_em f) m := by
  intro d
  induction d with
  | zero =>
    intro n m hn hx
    have : n = 32 := by omega
    subst this
    exact br_t (by decide) (ss_tk hs hx (p m))
  | succ d ih =>
    intro n m hn hx
    have nx := ih (n + 1) (upd m n (ss_e (ss_gI (ss_g f s) cc n))) (by omega) (ss_A_s hx rfl)
    refine br_f (nI_ge (b := 32) (by omega) (by decide)) ?_
    by_cases z : n = 0
    · subst z
      have LV : ss_LV ((-(ss_e (-1)).toInt64) * (ss_e cc).toInt64) (ss_gI (ss_g f s) cc 0) (12288 * 12288) := by
        rw [ss_gI_0]
        have e : cc = (-(-1)) * cc := by grobner
        have k := ss_LV_mul (ss_LV_neg (ss_LVe (-1))) (ss_LVe cc)
        rw [← e] at k
        exact k
      exact br_t rfl ⟨1, br_t (by decide) (ss_Yr ss_LV_m1 (ss_Yr LV ⟨vp_in_nI (n := 0) (by decide) (by decide), nm_e (nm_r (nI_1 0) nx)⟩))⟩
    · exact br_f (fun e => nI_ne0 (Nat.pos_of_ne_zero z) (by omega) e) ⟨n + 1, ss_Y_inv_in hs (by omega) (by omega) hx nx n 0 0 (by omega) ss_acc0⟩
theorem i_vc_invert {k : Nat} {u : SX} {v : SY} (I : i_Rel k u v) (hk : k + 5 ≤ 2560) (v1 : Int32) : wpX_invert (fun r u' => wpY_invert (fun r' v' => r' = r ∧ i_Rel (k + 5) u' v') v v1) u v1 := by
  obtain ⟨f, le, ri, re, ot, sl, lp, rp, lW, rW, pt, lL, rL, pL, m, rfl, rfl, hP⟩ := I
  rcases ss_ser v1 with h | ⟨s, hs, rfl⟩
  · unfold wpX_invert wpY_invert
    exact ss_XserF h (br_t rfl (ss_YserF h (br_t rfl ⟨rfl, ss_R hP⟩)))
  · by_cases z : ss_g f s 0 = 0
    · have e : ss_e (ss_g f s 0) = 0 := by rw [z]; exact ss_e0
      unfold wpX_invert wpY_invert
      exact ss_XserT hs (br_f ss_10 ⟨ss_v0 hs, br_t ((ss_c0 f hs).trans e) (ss_YserT hs (br_f ss_10 (ss_Yat (i := 0) hs (by decide) (br_t e ⟨rfl, ss_R hP⟩))))⟩)
    · have e : ¬ ss_e (ss_g f s 0) = 0 := fun h => z ((ss_e_eq0 _).mp h)
      unfold wpX_invert
      refine ss_XserT hs (br_f ss_10 ⟨ss_v0 hs, br_f (by rw [ss_c0 f hs]; exact e) (ss_ld_left hs (fun x hx => ?_))⟩)
      show wpX_inverse _ (x 0)
      rw [hx 0 (by decide)]
      refine ss_Xi (nm_e ⟨32, ss_X_inv_lp hs hx (fun y => ?_) 31 1 _ rfl (by decide) (ss_A_s (n := 0) (ss_A_0 _ _) (by rw [ss_gI_0]))⟩)
      unfold wpY_invert
      exact ss_YserT hs (br_f ss_10 (ss_Yat (i := 0) hs (by decide) (br_f e (ss_Yat (i := 0) hs (by decide) (ss_Yi z ⟨33, ss_Y_inv_lp hs (fun m => ⟨rfl, ss_R hP⟩) 32 0 m rfl (ss_A_0 _ _)⟩)))))
/-! log -/
theorem ss_X_log_lp {post : Int32 → SX → Prop} {s : Nat} (hs : s < 5) {f l : Nat → ss_F} {le ri ot lp rp lW rW pt lL rL pL : Nat → Int32} (hA : ss_A le l 32) (p : ∀ x y, post 1 (ss_em (ss_b f s 32 (ss_gL l)), le, ri, x, ot, y, lp, rp, lW, rW, pt, lL, rL, pL)) : ∀ d n x y, n + d = 32 → 0 < n → ss_A x (ss_gL l) n → (∀ j, 0 < j → j < n → y j = ss_e (ss_gS l j)) → wX_log_40 post (nI s) (d + 1) (nI n) (ss_em f) le ri x ot y lp rp lW rW pt lL rL pL := by
  intro d
  induction d with
  | zero =>
    intro n x y hn _ hx hy
    have : n = 32 := by omega
    subst this
    exact br_t (by decide) (ss_st_result hs hx (p x y))
  | succ d ih =>
    intro n x y hn h0 hx hy
    have e1 := ss_n1I h0
    have LV : ss_LV (nI n * le (nI n).toNatClampNeg - ss_e (ss_o (ss_gS l) l n 1 (n - 1 + 1 - 1))).toInt64 (ss_gS l n) (n * 12288 + 12288) := by
      rw [ss_gS_n l h0 (by omega), Nat.add_sub_cancel, ss_ci (by omega), hA n (by omega)]
      exact ss_IV_L (ss_IV_sub (ss_IV_mul (ss_IV_n n (by omega)) (ss_IV_e _) (by omega)) (ss_IV_e _) (by omega))
    refine br_f (nI_ge (b := 32) (by omega) (by decide)) ?_
    rw [e1]
    refine ss_so_slopes_left (ss_gS l) l (first := 1) (fun i h1 h2 => hy i (by omega) (by omega)) (fun i h1 h2 => hA _ (by omega)) (by omega) (by omega) (by omega) ⟨vp_in_nI (by omega) (by decide), ss_Xr LV ⟨vp_in_nI (by omega) (by decide), nm_r (e' := upd y n (ss_e (ss_gS l n))) (by rw [ss_ci (by omega)]) ⟨vp_in_nI (by omega) (by decide), ?_⟩⟩⟩
    have e3 : nI n = ss_e (ss_n n) := ss_ne (by omega)
    have gl : ∀ P : Int32 → Prop, P (ss_e (ss_i (ss_n n))) → wpX_inverse P (nI n) := fun P hP => by rw [e3]; exact ss_Xi hP
    refine gl _ ⟨ss_pI, vp_in_nI (by omega) (by decide), nm_r (e' := upd x n (ss_e (ss_gL l n))) ?_ (nm_r (nI_1 n) (ih (n + 1) _ _ (by omega) (by omega) (ss_A_s hx rfl) ?_))⟩
    · rw [ss_ci (by omega), pk_us]
      exact congrArg (upd x n) (ss_NV_rem (ss_NV_mul (ss_NV_e _) (ss_NV_e _)))
    · intro j j0 jn
      by_cases ej : j = n
      · subst ej
        exact pk_us
      · rw [pk_un ej]
        exact hy j j0 (by omega)
theorem ss_Y_log_in {post : Int32 → SY → Prop} {J : Int32 → (Nat → Int32) → (Nat → Int32) → Prop} {f : Nat → ss_F} {m : Nat → Int32} {s : Nat} (hs : s < 5) {n : Nat} (hn : n < 31) (hx : ss_A m (ss_gL (ss_g f s)) (n + 1)) (h : J (nI (n + 1)) (ss_em f) (upd m (n + 1) (ss_e (ss_gL (ss_g f s) (n + 1))))) : ∀ d k sum, k + d = n → ss_LV sum (ss_n (n + 1) * ss_g f s (n + 1) - ss_o (ss_gS (ss_g f s)) (ss_g f s) (n + 1) 1 k) ((k + 1) * 150994944) → wY_log_53 post J (nI s) (nI n) (ss_em f) m (d + 1) sum (nI k) := by
  intro d
  induction d with
  | zero =>
    intro k sum hk hL
    have e : k = n := by omega
    subst e
    have g := ss_gS_n (ss_g f s) (n := k + 1) (by omega) (by omega)
    rw [Nat.add_sub_cancel] at g
    rw [← g] at hL
    have e3 : nI k + 1 = ss_e (ss_n (k + 1)) := by rw [nI_1]; exact ss_ne (by omega)
    have gl : ∀ P : Int32 → Prop, P (ss_e (ss_i (ss_n (k + 1)))) → wpY_inverse P (ss_em f, m) (nI k + 1) := fun P hP => by rw [e3]; exact ss_Yi (ss_n_ne (by omega) (by omega)) hP
    refine br_t (nI_le (Nat.le_refl k) (by omega)) (ss_Yr hL (gl _ (ss_Yr (ss_LV_mul (ss_LVe _) (ss_LVe _)) ⟨?_, nm_r (e' := upd m (k + 1) (ss_e (ss_gL (ss_g f s) (k + 1)))) ?_ (nm_r (nI_1 k) h)⟩)))
    · rw [nI_1]
      exact vp_in_nI (by omega) (by decide)
    · rw [nI_1, ss_ci (by omega)]
      rfl
  | succ d ih =>
    intro k sum hk hL
    have e1 : (nI k + 1).toNatClampNeg = k + 1 := by rw [nI_1, ss_ci (by omega)]
    have LV : ss_LV (((nI k).toInt64 + 1) * (m (nI k + 1).toNatClampNeg).toInt64) (ss_gS (ss_g f s) (k + 1)) ((k + 1) * 12288) := by
      rw [e1, hx (k + 1) (by omega), ← ss_gL_s (ss_g f s) (n := k + 1) (by omega) (by omega)]
      exact ss_LV_mul (ss_LVs (by omega)) (ss_LVe _) (by omega)
    have e2 : nI n - nI k = nI (n - k) := pk_sub (by omega)
    refine br_f (nI_ge (by omega) (by omega)) ⟨?_, ss_Yr LV ?_⟩
    · rw [nI_1]
      exact vp_in_nI (by omega) (by decide)
    · rw [e2]
      refine ss_Yat hs (by omega) (nm_e (nm_r (nI_1 k) (ih (k + 1) _ (by omega) ?_)))
      have A := ss_accS hL (x := ss_e (ss_gS (ss_g f s) (k + 1))) (y := ss_e (ss_g f s (n - k))) rfl rfl (by omega)
      have o : ss_o (ss_gS (ss_g f s)) (ss_g f s) (n + 1) 1 (k + 1) = ss_o (ss_gS (ss_g f s)) (ss_g f s) (n + 1) 1 k + ss_gS (ss_g f s) (k + 1) * ss_g f s (n - k) := by
        show _ + ss_gS (ss_g f s) (1 + k) * ss_g f s (n + 1 - (1 + k)) = _
        rw [show 1 + k = k + 1 from by omega, show n + 1 - (k + 1) = n - k from by omega]
        rfl
      have r : ∀ a b c : ss_F, a - (b + c) = a - b - c := fun a b c => by grobner
      rw [o, r]
      exact A
theorem ss_Y_log_lp {post : Int32 → SY → Prop} {f : Nat → ss_F} {s : Nat} (hs : s < 5) (p : ∀ m, post 1 (ss_em (ss_b f s 32 (ss_gL (ss_g f s))), m)) : ∀ d n m, n + d = 31 → ss_A m (ss_gL (ss_g f s)) (n + 1) → wY_log_29 post (nI s) (d + 1) (nI n) (ss_em f) m := by
  intro d
  induction d with
  | zero =>
    intro n m hn hx
    have : n = 31 := by omega
    subst this
    exact br_t (by decide) (ss_tk hs hx (p m))
  | succ d ih =>
    intro n m hn hx
    have nx := ih (n + 1) (upd m (n + 1) (ss_e (ss_gL (ss_g f s) (n + 1)))) (by omega) (ss_A_s hx rfl)
    refine br_f (nI_ge (b := 31) (by omega) (by decide)) ?_
    rw [nI_1]
    refine ss_Yat hs (by omega) (nm_e ⟨n + 1, ss_Y_log_in hs (by omega) hx nx n 0 _ (by omega) ?_⟩)
    have k := ss_LV_mul (ss_LVs (i := n) (by omega)) (ss_LVe (ss_g f s (n + 1))) (by omega)
    have o : ss_n (n + 1) * ss_g f s (n + 1) - ss_o (ss_gS (ss_g f s)) (ss_g f s) (n + 1) 1 0 = ss_n (n + 1) * ss_g f s (n + 1) := by
      show _ - (0 : ss_F) = _
      grobner
    rw [o]
    exact ss_LV_le k (by omega)
theorem i_vc_log {k : Nat} {u : SX} {v : SY} (I : i_Rel k u v) (hk : k + 5 ≤ 2560) (v1 : Int32) : wpX_log (fun r u' => wpY_log (fun r' v' => r' = r ∧ i_Rel (k + 5) u' v') v v1) u v1 := by
  obtain ⟨f, le, ri, re, ot, sl, lp, rp, lW, rW, pt, lL, rL, pL, m, rfl, rfl, hP⟩ := I
  rcases ss_ser v1 with h | ⟨s, hs, rfl⟩
  · unfold wpX_log wpY_log
    exact ss_XserF h (br_t rfl (ss_YserF h (br_t rfl ⟨rfl, ss_R hP⟩)))
  · by_cases z : ss_g f s 0 = 1
    · have e : ss_e (ss_g f s 0) = 1 := by rw [z]; exact ss_e1
      unfold wpX_log
      refine ss_XserT hs (br_f ss_10 ⟨ss_v0 hs, br_t ((ss_c0 f hs).trans e) (ss_ld_left hs (fun x hx => nm_e ⟨32, ss_X_log_lp hs hx (fun y w => ?_) 31 1 _ _ rfl (by decide) (ss_A_s (n := 0) (ss_A_0 _ _) (by rw [ss_gL_0]; rfl)) (fun j j0 j1 => absurd j1 (by omega))⟩))⟩)
      unfold wpY_log
      exact ss_YserT hs (br_f ss_10 (ss_Yat (i := 0) hs (by decide) (br_t e (nm_e ⟨32, ss_Y_log_lp hs (fun m => ⟨rfl, ss_R hP⟩) 31 0 _ rfl (ss_A_s (n := 0) (ss_A_0 _ _) (by rw [ss_gL_0]; rfl))⟩))))
    · have e : ¬ ss_e (ss_g f s 0) = 1 := fun h => z ((ss_e_eq1 _).mp h)
      unfold wpX_log wpY_log
      exact ss_XserT hs (br_f ss_10 ⟨ss_v0 hs, br_f (by rw [ss_c0 f hs]; exact e) (ss_YserT hs (br_f ss_10 (ss_Yat (i := 0) hs (by decide) (br_f e ⟨rfl, ss_R hP⟩))))⟩)
end
section
/-! exp -/
theorem ss_X_exp_lp {post : Int32 → SX → Prop} {s : Nat} (hs : s < 5) {f l : Nat → ss_F} {le ri ot lp rp lW rW pt lL rL pL : Nat → Int32} (hA : ss_A le l 32) (p : ∀ x y, post 1 (ss_em (ss_b f s 32 (ss_gE l)), le, ri, x, ot, y, lp, rp, lW, rW, pt, lL, rL, pL)) : ∀ d n x y, n + d = 32 → 0 < n → ss_A x (ss_gE l) n → (∀ j, 0 < j → j < n → y j = ss_e (ss_n j * l j)) → wX_exp_39 post (nI s) (d + 1) (nI n) (ss_em f) le ri x ot y lp rp lW rW pt lL rL pL := by
  intro d
  induction d with
  | zero =>
    intro n x y hn _ hx hy
    have : n = 32 := by omega
    subst this
    exact br_t (by decide) (ss_st_result hs hx (p x y))
  | succ d ih =>
    intro n x y hn h0 hx hy
    have hy' : ∀ j, 0 < j → j < n + 1 → upd y n (ss_e (ss_n n * l n)) j = ss_e (ss_n j * l j) := by
      intro j j0 jn
      by_cases ej : j = n
      · subst ej
        exact pk_us
      · rw [pk_un ej]
        exact hy j j0 (by omega)
    have e3 : nI n = ss_e (ss_n n) := ss_ne (by omega)
    have gl : ∀ P : Int32 → Prop, P (ss_e (ss_i (ss_n n))) → wpX_inverse P (nI n) := fun P hP => by rw [e3]; exact ss_Xi hP
    refine br_f (nI_ge (b := 32) (by omega) (by decide)) ⟨vp_in_nI (by omega) (by decide), ss_pI, vp_in_nI (by omega) (by decide), nm_r (e' := upd y n (ss_e (ss_n n * l n))) ?_ (ss_so_slopes_result (fun i => ss_n i * l i) (ss_gE l) (first := 1) (fun i h1 h2 => hy' i (by omega) (by omega)) (fun i h1 h2 => hx _ (by omega)) (by omega) (Nat.le_refl n) (by omega) (gl _ ⟨ss_pI, vp_in_nI (by omega) (by decide), nm_r (e' := upd x n (ss_e (ss_gE l n))) ?_ (nm_r (nI_1 n) (ih (n + 1) _ _ (by omega) (by omega) (ss_A_s hx rfl) hy'))⟩))⟩
    · rw [ss_ci (by omega), hA n (by omega)]
      exact congrArg (upd y n) (ss_NV_rem (ss_NV_mul (ss_NV_n n) (ss_NV_e _)) (by omega))
    · rw [ss_ci (by omega), ss_gE_n l h0 (by omega), Nat.add_sub_cancel]
      exact congrArg (upd x n) (ss_NV_rem (ss_NV_mul (ss_NV_e _) (ss_NV_e _)))
theorem ss_Y_exp_in {post : Int32 → SY → Prop} {J : Int32 → (Nat → Int32) → (Nat → Int32) → Prop} {f : Nat → ss_F} {m : Nat → Int32} {s : Nat} (hs : s < 5) {n : Nat} (hn : n < 31) (hx : ss_A m (ss_gE (ss_g f s)) (n + 1)) (h : J (nI (n + 1)) (ss_em f) (upd m (n + 1) (ss_e (ss_gE (ss_g f s) (n + 1))))) : ∀ d k sum, k + d = n + 1 → ss_LV sum (ss_s (fun i => ss_gE (ss_g f s) i * (fun j => ss_n j * ss_g f s j) (n - i + 1)) k) (k * 150994944) → wY_exp_39 post J (nI s) (nI n) (ss_em f) m (d + 1) sum (nI k) := by
  intro d
  induction d with
  | zero =>
    intro k sum hk hL
    have e : k = n + 1 := by omega
    subst e
    have rv := ss_o_rev (fun j => ss_n j * ss_g f s j) (ss_gE (ss_g f s)) n
    replace hL : ss_LV sum (ss_o (fun j => ss_n j * ss_g f s j) (ss_gE (ss_g f s)) (n + 1) 1 (n + 1)) ((n + 1) * 150994944) := rv ▸ hL
    have e3 : nI n + 1 = ss_e (ss_n (n + 1)) := by rw [nI_1]; exact ss_ne (by omega)
    have gl : ∀ P : Int32 → Prop, P (ss_e (ss_i (ss_n (n + 1)))) → wpY_inverse P (ss_em f, m) (nI n + 1) := fun P hP => by rw [e3]; exact ss_Yi (ss_n_ne (by omega) (by omega)) hP
    refine br_t (nI_lt (by omega) (by omega)) (ss_Yr hL (gl _ (ss_Yr (ss_LV_mul (ss_LVe _) (ss_LVe _)) ⟨?_, nm_r (e' := upd m (n + 1) (ss_e (ss_gE (ss_g f s) (n + 1)))) ?_ (nm_r (nI_1 n) h)⟩)))
    · rw [nI_1]
      exact vp_in_nI (by omega) (by decide)
    · rw [nI_1, ss_ci (by omega), ss_gE_n (ss_g f s) (n := n + 1) (by omega) (by omega)]
  | succ d ih =>
    intro k sum hk hL
    have e2 : nI n - nI k = nI (n - k) := pk_sub (by omega)
    have e4 : m (nI k).toNatClampNeg = ss_e (ss_gE (ss_g f s) k) := by rw [ss_ci (by omega)]; exact hx k (by omega)
    have LV : ss_LV (((nI (n - k)).toInt64 + 1) * (ss_e (ss_g f s (n - k + 1))).toInt64) (ss_n (n - k + 1) * ss_g f s (n - k + 1)) ((n - k + 1) * 12288) := ss_LV_mul (ss_LVs (by omega)) (ss_LVe _) (by omega)
    refine br_f (nI_nlt (by omega) (by omega)) ⟨vp_in_nI (by omega) (by decide), ?_⟩
    rw [e2, nI_1 (n - k)]
    exact ss_Yat hs (by omega) (ss_Yr LV (nm_e (nm_r (nI_1 k) (ih (k + 1) _ (by omega) (ss_accY hL e4 rfl (by omega))))))
theorem ss_Y_exp_lp {post : Int32 → SY → Prop} {f : Nat → ss_F} {s : Nat} (hs : s < 5) (p : ∀ m, post 1 (ss_em (ss_b f s 32 (ss_gE (ss_g f s))), m)) : ∀ d n m, n + d = 31 → ss_A m (ss_gE (ss_g f s)) (n + 1) → wY_exp_28 post (nI s) (d + 1) (nI n) (ss_em f) m := by
  intro d
  induction d with
  | zero =>
    intro n m hn hx
    have : n = 31 := by omega
    subst this
    exact br_t (by decide) (ss_tk hs hx (p m))
  | succ d ih =>
    intro n m hn hx
    have nx := ih (n + 1) (upd m (n + 1) (ss_e (ss_gE (ss_g f s) (n + 1)))) (by omega) (ss_A_s hx rfl)
    exact br_f (nI_ge (b := 31) (by omega) (by decide)) ⟨n + 2, ss_Y_exp_in hs (by omega) hx nx (n + 1) 0 0 (by omega) ss_acc0⟩
theorem i_vc_exp {k : Nat} {u : SX} {v : SY} (I : i_Rel k u v) (hk : k + 5 ≤ 2560) (v1 : Int32) : wpX_exp (fun r u' => wpY_exp (fun r' v' => r' = r ∧ i_Rel (k + 5) u' v') v v1) u v1 := by
  obtain ⟨f, le, ri, re, ot, sl, lp, rp, lW, rW, pt, lL, rL, pL, m, rfl, rfl, hP⟩ := I
  rcases ss_ser v1 with h | ⟨s, hs, rfl⟩
  · unfold wpX_exp wpY_exp
    exact ss_XserF h (br_t rfl (ss_YserF h (br_t rfl ⟨rfl, ss_R hP⟩)))
  · by_cases z : ss_g f s 0 = 0
    · have e : ss_e (ss_g f s 0) = 0 := by rw [z]; exact ss_e0
      unfold wpX_exp
      refine ss_XserT hs (br_f ss_10 ⟨ss_v0 hs, br_t ((ss_c0 f hs).trans e) (ss_ld_left hs (fun x hx => nm_e ⟨32, ss_X_exp_lp hs hx (fun y w => ?_) 31 1 _ _ rfl (by decide) (ss_A_s (n := 0) (ss_A_0 _ _) (by rw [ss_gE_0]; rfl)) (fun j j0 j1 => absurd j1 (by omega))⟩))⟩)
      unfold wpY_exp
      exact ss_YserT hs (br_f ss_10 (ss_Yat (i := 0) hs (by decide) (br_t e (nm_e ⟨32, ss_Y_exp_lp hs (fun m => ⟨rfl, ss_R hP⟩) 31 0 _ rfl (ss_A_s (n := 0) (ss_A_0 _ _) (by rw [ss_gE_0]; rfl))⟩))))
    · have e : ¬ ss_e (ss_g f s 0) = 0 := fun h => z ((ss_e_eq0 _).mp h)
      unfold wpX_exp wpY_exp
      exact ss_XserT hs (br_f ss_10 ⟨ss_v0 hs, br_f (by rw [ss_c0 f hs]; exact e) (ss_YserT hs (br_f ss_10 (ss_Yat (i := 0) hs (by decide) (br_f e ⟨rfl, ss_R hP⟩))))⟩)
/-! root -/
theorem ss_LV6145 : ss_LV 6145 (ss_n 6145) 6145 := ⟨by decide, by decide⟩
theorem ss_X_root_lp {post : Int32 → SX → Prop} {s : Nat} (hs : s < 5) {f l : Nat → ss_F} {le ri ot sl lp rp lW rW pt lL rL pL : Nat → Int32} (hA : ss_A le l 32) (p : ∀ x, post 1 (ss_em (ss_b f s 32 (ss_gR l)), le, ri, x, ot, sl, lp, rp, lW, rW, pt, lL, rL, pL)) : ∀ d n x, n + d = 32 → 0 < n → ss_A x (ss_gR l) n → wX_root_40 post (nI s) (d + 1) (nI n) (ss_em f) le ri x ot sl lp rp lW rW pt lL rL pL := by
  intro d
  induction d with
  | zero =>
    intro n x hn _ hx
    have : n = 32 := by omega
    subst this
    exact br_t (by decide) (ss_st_result hs hx (p x))
  | succ d ih =>
    intro n x hn h0 hx
    have e1 := ss_n1I h0
    have LV : ss_LV ((le (nI n).toNatClampNeg - ss_e (ss_o (ss_gR l) (ss_gR l) n 1 (n - 1 + 1 - 1))) * 6145).toInt64 (ss_gR l n) ((12288 + 12288) * 6145) := by
      rw [ss_gR_n l h0 (by omega), Nat.add_sub_cancel, ss_ci (by omega), hA n (by omega)]
      exact ss_IV_L (ss_IV_mul (ss_IV_sub (ss_IV_e _) (ss_IV_e _)) (ss_IV_n 6145 (by decide)))
    refine br_f (nI_ge (b := 32) (by omega) (by decide)) ?_
    rw [e1]
    refine ss_so_result_result (ss_gR l) (ss_gR l) (first := 1) (fun i h1 h2 => hx i (by omega)) (fun i h1 h2 => hx _ (by omega)) (by omega) (by omega) (by omega) ⟨vp_in_nI (by omega) (by decide), ss_Xr LV ⟨vp_in_nI (by omega) (by decide), nm_r (e' := upd x n (ss_e (ss_gR l n))) (by rw [ss_ci (by omega)]) (nm_r (nI_1 n) (ih (n + 1) _ (by omega) (by omega) (ss_A_s hx rfl)))⟩⟩
theorem ss_Y_root_in {post : Int32 → SY → Prop} {J : Int32 → (Nat → Int32) → (Nat → Int32) → Prop} {f : Nat → ss_F} {m : Nat → Int32} {s : Nat} {n : Nat} (h0 : 0 < n) (hn : n < 32) (hx : ss_A m (ss_gR (ss_g f s)) n) (h : J (nI (n + 1)) (ss_em f) (upd m n (ss_e (ss_gR (ss_g f s) n)))) : ∀ d k sum, 1 + k + d = n → ss_LV sum (ss_g f s n - ss_o (ss_gR (ss_g f s)) (ss_gR (ss_g f s)) n 1 k) ((k + 1) * 150994944) → wY_root_46 post J (nI s) (nI n) (ss_em f) m (d + 1) sum (nI (1 + k)) := by
  intro d
  induction d with
  | zero =>
    intro k sum hk hL
    have e : k = n - 1 := by omega
    have LV : ss_LV ((ss_e (ss_g f s n - ss_o (ss_gR (ss_g f s)) (ss_gR (ss_g f s)) n 1 k)).toInt64 * 6145) (ss_gR (ss_g f s) n) (12288 * 6145) := by
      rw [ss_gR_n (ss_g f s) h0 (by omega), e]
      exact ss_LV_mul (ss_LVe _) ss_LV6145
    exact br_t (nI_le (by omega) (by omega)) (ss_Yr hL (ss_Yr LV ⟨vp_in_nI (by omega) (by decide), nm_r (e' := upd m n (ss_e (ss_gR (ss_g f s) n))) (by rw [ss_ci (by omega)]) (nm_r (nI_1 n) h)⟩))
  | succ d ih =>
    intro k sum hk hL
    have x1 : m (nI (1 + k)).toNatClampNeg = ss_e (ss_gR (ss_g f s) (1 + k)) := by rw [ss_ci (by omega)]; exact hx _ (by omega)
    have x2 : m (nI n - nI (1 + k)).toNatClampNeg = ss_e (ss_gR (ss_g f s) (n - (1 + k))) := by rw [pk_sub (by omega), ss_ci (by omega)]; exact hx _ (by omega)
    refine br_f (nI_ge (by omega) (by omega)) ⟨vp_in_nI (by omega) (by decide), ?_, nm_e (nm_r (nI_1 (1 + k)) (ih (k + 1) _ (by omega) ?_))⟩
    · rw [pk_sub (by omega)]
      exact vp_in_nI (by omega) (by decide)
    · have A := ss_accS hL x1 x2 (by omega)
      have o : ss_o (ss_gR (ss_g f s)) (ss_gR (ss_g f s)) n 1 (k + 1) = ss_o (ss_gR (ss_g f s)) (ss_gR (ss_g f s)) n 1 k + ss_gR (ss_g f s) (1 + k) * ss_gR (ss_g f s) (n - (1 + k)) := rfl
      have r : ∀ a b c : ss_F, a - (b + c) = a - b - c := fun a b c => by grobner
      rw [o, r]
      exact A
theorem ss_Y_root_lp {post : Int32 → SY → Prop} {f : Nat → ss_F} {s : Nat} (hs : s < 5) (p : ∀ m, post 1 (ss_em (ss_b f s 32 (ss_gR (ss_g f s))), m)) : ∀ d n m, n + d = 32 → 0 < n → ss_A m (ss_gR (ss_g f s)) n → wY_root_29 post (nI s) (d + 1) (nI n) (ss_em f) m := by
  intro d
  induction d with
  | zero =>
    intro n m hn _ hx
    have : n = 32 := by omega
    subst this
    exact br_t (by decide) (ss_tk hs hx (p m))
  | succ d ih =>
    intro n m hn h0 hx
    have nx := ih (n + 1) (upd m n (ss_e (ss_gR (ss_g f s) n))) (by omega) (by omega) (ss_A_s hx rfl)
    refine br_f (nI_ge (b := 32) (by omega) (by decide)) (ss_Yat hs (by omega) ⟨n - 1 + 1, ss_Y_root_in h0 (by omega) hx nx (n - 1) 0 _ (by omega) ?_⟩)
    have o : ss_g f s n - ss_o (ss_gR (ss_g f s)) (ss_gR (ss_g f s)) n 1 0 = ss_g f s n := by
      show _ - (0 : ss_F) = _
      grobner
    rw [o]
    exact ss_LV_le (ss_LVe _) (by omega)
theorem i_vc_root {k : Nat} {u : SX} {v : SY} (I : i_Rel k u v) (hk : k + 5 ≤ 2560) (v1 : Int32) : wpX_root (fun r u' => wpY_root (fun r' v' => r' = r ∧ i_Rel (k + 5) u' v') v v1) u v1 := by
  obtain ⟨f, le, ri, re, ot, sl, lp, rp, lW, rW, pt, lL, rL, pL, m, rfl, rfl, hP⟩ := I
  rcases ss_ser v1 with h | ⟨s, hs, rfl⟩
  · unfold wpX_root wpY_root
    exact ss_XserF h (br_t rfl (ss_YserF h (br_t rfl ⟨rfl, ss_R hP⟩)))
  · by_cases z : ss_g f s 0 = 1
    · have e : ss_e (ss_g f s 0) = 1 := by rw [z]; exact ss_e1
      unfold wpX_root
      refine ss_XserT hs (br_f ss_10 ⟨ss_v0 hs, br_t ((ss_c0 f hs).trans e) (ss_ld_left hs (fun x hx => nm_e ⟨32, ss_X_root_lp hs hx (fun y => ?_) 31 1 _ rfl (by decide) (ss_A_s (n := 0) (ss_A_0 _ _) (by rw [ss_gR_0]; rfl))⟩))⟩)
      unfold wpY_root
      exact ss_YserT hs (br_f ss_10 (ss_Yat (i := 0) hs (by decide) (br_t e (nm_e ⟨32, ss_Y_root_lp hs (fun m => ⟨rfl, ss_R hP⟩) 31 1 _ rfl (by decide) (ss_A_s (n := 0) (ss_A_0 _ _) (by rw [ss_gR_0]; rfl))⟩))))
    · have e : ¬ ss_e (ss_g f s 0) = 1 := fun h => z ((ss_e_eq1 _).mp h)
      unfold wpX_root wpY_root
      exact ss_XserT hs (br_f ss_10 ⟨ss_v0 hs, br_f (by rw [ss_c0 f hs]; exact e) (ss_YserT hs (br_f ss_10 (ss_Yat (i := 0) hs (by decide) (br_f e ⟨rfl, ss_R hP⟩))))⟩)
/-! cross -/
def ss_x (l r : Nat → ss_F) (n : Nat) : ss_F := ss_s (fun i => l i * r (n ^^^ i)) 32
theorem ss_xlt {a b : Nat} (ha : a < 32) (hb : b < 32) : a ^^^ b < 32 := Nat.xor_lt_two_pow (n := 5) ha hb
theorem ss_X_cr_in {post : Int32 → SX → Prop} {J : Int32 → (Nat → Int32) → (Nat → Int32) → (Nat → Int32) → (Nat → Int32) → (Nat → Int32) → (Nat → Int32) → (Nat → Int32) → (Nat → Int32) → (Nat → Int32) → (Nat → Int32) → (Nat → Int32) → (Nat → Int32) → (Nat → Int32) → (Nat → Int32) → Prop} {l r : Nat → ss_F} {c le ri re ot sl lp rp lW rW pt lL rL pL : Nat → Int32} {s1 : Int32} (hl : ss_A le l 32) (hr : ss_A ri r 32) {n : Nat} (hn : n < 32) (h : J (nI (n + 1)) c le ri (upd re n (ss_e (ss_x l r n))) ot sl lp rp lW rW pt lL rL pL) : ∀ d k sum, k + d = 32 → ss_LV sum (ss_s (fun i => l i * r (n ^^^ i)) k) (k * 150994944) → wX_cross_48 post J s1 (nI n) c le ri re ot sl lp rp lW rW pt lL rL pL (d + 1) sum (nI k) := by
  intro d
  induction d with
  | zero =>
    intro k sum hk hL
    have : k = 32 := by omega
    subst this
    exact br_t (by decide) (ss_Xr hL ⟨vp_in_nI (by omega) (by decide), nm_r (e' := upd re n (ss_e (ss_x l r n))) (by rw [ss_ci (by omega)]; rfl) (nm_r (nI_1 n) h)⟩)
  | succ d ih =>
    intro k sum hk hL
    have q := ss_xlt hn (show k < 32 by omega)
    have x1 : le (nI k).toNatClampNeg = ss_e (l k) := by rw [ss_ci (by omega)]; exact hl k (by omega)
    have x2 : ri (nI n ^^^ nI k).toNatClampNeg = ss_e (r (n ^^^ k)) := by rw [nx_xor, ss_ci (by omega)]; exact hr _ q
    refine br_f (nI_ge (b := 32) (by omega) (by decide)) ⟨vp_in_nI (by omega) (by decide), ?_, nm_e (nm_r (nI_1 k) (ih (k + 1) _ (by omega) (ss_acc hL x1 x2 (by omega))))⟩
    rw [nx_xor]
    exact vp_in_nI q (by decide)
theorem ss_X_cr_lp {post : Int32 → SX → Prop} {s : Nat} (hs : s < 5) {f l r : Nat → ss_F} {le ri ot sl lp rp lW rW pt lL rL pL : Nat → Int32} (hl : ss_A le l 32) (hr : ss_A ri r 32) (p : ∀ x, post 1 (ss_em (ss_b f s 32 (ss_x l r)), le, ri, x, ot, sl, lp, rp, lW, rW, pt, lL, rL, pL)) : ∀ d n x, n + d = 32 → ss_A x (ss_x l r) n → wX_cross_36 post (nI s) (d + 1) (nI n) (ss_em f) le ri x ot sl lp rp lW rW pt lL rL pL := by
  intro d
  induction d with
  | zero =>
    intro n x hn hx
    have : n = 32 := by omega
    subst this
    exact br_t (by decide) (ss_st_result hs hx (p x))
  | succ d ih =>
    intro n x hn hx
    exact br_f (nI_ge (b := 32) (by omega) (by decide)) ⟨33, ss_X_cr_in hl hr (by omega) (ih (n + 1) _ (by omega) (ss_A_s hx rfl)) 32 0 0 rfl ss_acc0⟩
theorem ss_Y_cr_in {post : Int32 → SY → Prop} {J : Int32 → (Nat → Int32) → (Nat → Int32) → Prop} {f : Nat → ss_F} {m : Nat → Int32} {s t : Nat} (hs : s < 5) (ht : t < 5) {n : Nat} (hn : n < 32) (h : J (nI (n + 1)) (ss_em f) (upd m n (ss_e (ss_x (ss_g f s) (ss_g f t) n)))) : ∀ d k sum, k + d = 32 → ss_LV sum (ss_s (fun i => ss_g f s i * ss_g f t (n ^^^ i)) k) (k * 150994944) → wY_cross_32 post J (nI s) (nI t) (nI n) (ss_em f) m (d + 1) sum (nI k) := by
  intro d
  induction d with
  | zero =>
    intro k sum hk hL
    have : k = 32 := by omega
    subst this
    exact br_t (by decide) (ss_Yr hL ⟨vp_in_nI (by omega) (by decide), nm_r (e' := upd m n (ss_e (ss_x (ss_g f s) (ss_g f t) n))) (by rw [ss_ci (by omega)]; rfl) (nm_r (nI_1 n) h)⟩)
  | succ d ih =>
    intro k sum hk hL
    have q := ss_xlt hn (show k < 32 by omega)
    refine br_f (nI_ge (b := 32) (by omega) (by decide)) ?_
    rw [nx_xor, Nat.xor_comm k n]
    exact ss_Yat hs (by omega) (ss_Yat ht q (nm_e (nm_r (nI_1 k) (ih (k + 1) _ (by omega) (ss_accY hL rfl rfl (by omega))))))
theorem ss_Y_cr_lp {post : Int32 → SY → Prop} {f : Nat → ss_F} {s t : Nat} (hs : s < 5) (ht : t < 5) (p : ∀ m, post 1 (ss_em (ss_b f s 32 (ss_x (ss_g f s) (ss_g f t))), m)) : ∀ d n m, n + d = 32 → ss_A m (ss_x (ss_g f s) (ss_g f t)) n → wY_cross_20 post (nI s) (nI t) (d + 1) (nI n) (ss_em f) m := by
  intro d
  induction d with
  | zero =>
    intro n m hn hx
    have : n = 32 := by omega
    subst this
    exact br_t (by decide) (ss_tk hs hx (p m))
  | succ d ih =>
    intro n m hn hx
    exact br_f (nI_ge (b := 32) (by omega) (by decide)) ⟨33, ss_Y_cr_in hs ht (by omega) (ih (n + 1) _ (by omega) (ss_A_s hx rfl)) 32 0 0 rfl ss_acc0⟩
theorem i_vc_cross {k : Nat} {u : SX} {v : SY} (I : i_Rel k u v) (hk : k + 5 ≤ 2560) (v1 : Int32) (v2 : Int32) : wpX_cross (fun r u' => wpY_cross (fun r' v' => r' = r ∧ i_Rel (k + 5) u' v') v v1 v2) u v1 v2 := by
  obtain ⟨f, le, ri, re, ot, sl, lp, rp, lW, rW, pt, lL, rL, pL, m, rfl, rfl, hP⟩ := I
  rcases ss_ser v1 with h | ⟨s, hs, rfl⟩
  · unfold wpX_cross wpY_cross
    exact ss_XserF h (br_t rfl (ss_YserF h (br_t rfl ⟨rfl, ss_R hP⟩)))
  · rcases ss_ser v2 with h | ⟨t, ht, rfl⟩
    · unfold wpX_cross wpY_cross
      exact ss_XserT hs (br_f ss_10 (ss_XserF h (br_t rfl (ss_YserT hs (br_f ss_10 (ss_YserF h (br_t rfl ⟨rfl, ss_R hP⟩)))))))
    · unfold wpX_cross
      refine ss_XserT hs (br_f ss_10 (ss_XserT ht (br_f ss_10 (ss_ld_left hs (fun x hx => ss_ld_right ht (fun y hy => ⟨33, ss_X_cr_lp hs hx hy (fun w => ?_) 32 0 _ rfl (ss_A_0 _ _)⟩))))))
      unfold wpY_cross
      exact ss_YserT hs (br_f ss_10 (ss_YserT ht (br_f ss_10 ⟨33, ss_Y_cr_lp hs ht (fun m => ⟨rfl, ss_R hP⟩) 32 0 _ rfl (ss_A_0 _ _)⟩)))
end
section
/-! rest -/
theorem ss_X_rs_in {post : Int32 → SX → Prop} {J : Int32 → (Nat → Int32) → (Nat → Int32) → (Nat → Int32) → (Nat → Int32) → (Nat → Int32) → (Nat → Int32) → (Nat → Int32) → (Nat → Int32) → (Nat → Int32) → (Nat → Int32) → (Nat → Int32) → (Nat → Int32) → (Nat → Int32) → (Nat → Int32) → Prop} {t a : Nat → ss_F} {q : ss_F} {low e : Nat} {c ri re ot sl lp rp lW rW pt lL rL pL : Nat → Int32} {s1 s4 : Int32} (hr : ss_A ri t 32) (hb : low + e < 32) (h : ∀ x, ss_A x (ss_r1 t q low (e + 1) a) 32 → J (ss_m low) c x ri re ot sl lp rp lW rW pt lL rL pL) : ∀ d i x, i + d = e + 1 → ss_A x (ss_r1 t q low i a) 32 → wX_rest_91 post J s1 (nI e) s4 (nI low) (ss_e q) (d + 1) (nI i) c x ri re ot sl lp rp lW rW pt lL rL pL := by
  intro d
  induction d with
  | zero =>
    intro i x hi hx
    have : i = e + 1 := by omega
    subst this
    exact br_t (nI_lt (by omega) (by omega)) (nm_e (h x hx))
  | succ d ih =>
    intro i x hi hx
    have e1 : nI low + nI i = nI (low + i) := nI_add low i
    have LV : ss_LV (x (nI low + nI i).toNatClampNeg - ss_e q * ri (nI i).toNatClampNeg).toInt64 (a (low + i) - q * t i) (12288 + 12288 * 12288) := by
      rw [e1, ss_ci (by omega), ss_ci (by omega), hx (low + i) (by omega), hr i (by omega), ss_r1_at]
      exact ss_IV_L (ss_IV_sub (ss_IV_e _) (ss_IV_mul (ss_IV_e _) (ss_IV_e _)))
    refine br_f (nI_nlt (by omega) (by omega)) ⟨?_, vp_in_nI (by omega) (by decide), ss_Xr LV ⟨?_, nm_r (e' := upd x (low + i) (ss_e (a (low + i) - q * t i))) ?_ (nm_r (nI_1 i) (ih (i + 1) _ (by omega) ?_))⟩⟩
    · rw [e1]
      exact vp_in_nI (by omega) (by decide)
    · rw [e1]
      exact vp_in_nI (by omega) (by decide)
    · rw [e1, ss_ci (by omega)]
    · rw [← ss_r1_s]
      exact ss_A_u hx rfl
theorem ss_X_rs_lp {post : Int32 → SX → Prop} {s : Nat} (hs : s < 5) {f t : Nat → ss_F} {lead : ss_F} {e : Nat} {ri re ot sl lp rp lW rW pt lL rL pL : Nat → Int32} (hr : ss_A ri t 32) : ∀ k a x y, k + e ≤ 32 → y = ss_m k → ss_A x a 32 → (∀ x, post 1 (ss_em (ss_b f s 32 (ss_rs t e lead k a)), x, ri, re, ot, sl, lp, rp, lW, rW, pt, lL, rL, pL)) → wX_rest_65 post (nI s) (nI e) (ss_e lead) (k + 1) y (ss_em f) x ri re ot sl lp rp lW rW pt lL rL pL := by
  intro k
  induction k with
  | zero =>
    intro a x y _ hy hx p
    subst hy
    exact br_t (by decide) (ss_st_left hs hx (p x))
  | succ k ih =>
    intro a x y hk hy hx p
    subst hy
    rw [ss_m_s]
    have e1 : nI k + nI e = nI (k + e) := nI_add k e
    refine br_f (nI_pos (by omega)) ⟨?_, ss_pI, nm_r (e' := ss_e (a (k + e) * lead)) ?_ ⟨e + 2, ss_X_rs_in hr (by omega) (fun x' hx' => ih _ x' _ (by omega) rfl hx' p) (e + 1) 0 x (by omega) ?_⟩⟩
    · rw [e1]
      exact vp_in_nI (by omega) (by decide)
    · rw [e1, ss_ci (by omega), hx (k + e) (by omega)]
      exact ss_NV_rem (ss_NV_mul (ss_NV_e _) (ss_NV_e _))
    · rw [ss_r1_0]
      exact hx
theorem ss_Y_rs_in {post : Int32 → SY → Prop} {J : Int32 → (Nat → Int32) → (Nat → Int32) → Prop} {f a : Nat → ss_F} {t : Nat} (ht : t < 5) {q : ss_F} {low e : Nat} {s1 s4 : Int32} (hb : low + e < 32) (h : ∀ x, ss_A x (ss_r1 (ss_g f t) q low (e + 1) a) 32 → J (ss_m (low + e)) (ss_em f) x) : ∀ d i x, i + d = e + 1 → ss_A x (ss_r1 (ss_g f t) q low i a) 32 → wY_rest_105 post J s1 (nI t) (nI e) s4 (nI (low + e)) (ss_e q) (d + 1) (nI i) (ss_em f) x := by
  intro d
  induction d with
  | zero =>
    intro i x hi hx
    have : i = e + 1 := by omega
    subst this
    exact br_t (nI_lt (by omega) (by omega)) (nm_e (h x hx))
  | succ d ih =>
    intro i x hi hx
    have e1 : nI (low + e) - nI e + nI i = nI (low + i) := by rw [pk_sub (by omega), Nat.add_sub_cancel, nI_add]
    have LV : ss_LV ((x (nI (low + e) - nI e + nI i).toNatClampNeg).toInt64 - (ss_e q).toInt64 * (ss_e (ss_g f t i)).toInt64) (a (low + i) - q * ss_g f t i) (12288 + 12288 * 12288) := by
      rw [e1, ss_ci (by omega), hx (low + i) (by omega), ss_r1_at]
      exact ss_LV_sub (ss_LVe _) (ss_LV_mul (ss_LVe _) (ss_LVe _))
    refine br_f (nI_nlt (by omega) (by omega)) ⟨?_, ss_Yat ht (by omega) (ss_Yr LV ⟨?_, nm_r (e' := upd x (low + i) (ss_e (a (low + i) - q * ss_g f t i))) ?_ (nm_r (nI_1 i) (ih (i + 1) _ (by omega) ?_))⟩)⟩
    · rw [e1]
      exact vp_in_nI (by omega) (by decide)
    · rw [e1]
      exact vp_in_nI (by omega) (by decide)
    · rw [e1, ss_ci (by omega)]
    · rw [← ss_r1_s]
      exact ss_A_u hx rfl
theorem ss_m_lt (e : Nat) (h : e < 1000) : ss_m e < nI e := by
  cases e with
  | zero => decide
  | succ e => rw [ss_m_s]; exact nI_lt (by omega) (by omega)
theorem ss_Y_rs_lp {post : Int32 → SY → Prop} {s t : Nat} (hs : s < 5) (ht : t < 5) {f : Nat → ss_F} {lead : ss_F} {e : Nat} : ∀ k a x y, k + e ≤ 32 → y = ss_m (k + e) → ss_A x a 32 → (∀ x, post 1 (ss_em (ss_b f s 32 (ss_rs (ss_g f t) e lead k a)), x)) → wY_rest_78 post (nI s) (nI t) (nI e) (ss_e lead) (k + 1) y (ss_em f) x := by
  intro k
  induction k with
  | zero =>
    intro a x y he hy hx p
    subst hy
    rw [Nat.zero_add e]
    exact br_t (ss_m_lt e (by omega)) (ss_tk hs hx (p x))
  | succ k ih =>
    intro a x y hk hy hx p
    subst hy
    rw [show k + 1 + e = k + e + 1 from by omega, ss_m_s]
    have LV : ss_LV ((x (nI (k + e)).toNatClampNeg).toInt64 * (ss_e lead).toInt64) (a (k + e) * lead) (12288 * 12288) := by
      rw [ss_ci (by omega), hx (k + e) (by omega)]
      exact ss_LV_mul (ss_LVe _) (ss_LVe _)
    refine br_f (nI_nlt (by omega) (by omega)) ⟨vp_in_nI (by omega) (by decide), ss_Yr LV ⟨e + 2, ss_Y_rs_in ht (by omega) (fun x' hx' => ih _ x' _ (by omega) rfl hx' p) (e + 1) 0 x (by omega) ?_⟩⟩
    rw [ss_r1_0]
    exact hx
theorem ss_Y_rs_cp {post : Int32 → SY → Prop} {s t : Nat} (hs : s < 5) (ht : t < 5) {f : Nat → ss_F} {lead : ss_F} {e : Nat} (he : e < 32) (p : ∀ x, post 1 (ss_em (ss_b f s 32 (ss_rs (ss_g f t) e lead (32 - e) (ss_g f s))), x)) : ∀ d i x, i + d = 32 → ss_A x (ss_g f s) i → wY_rest_47 post (nI s) (nI t) (nI e) (ss_e lead) (d + 1) (nI i) (ss_em f) x := by
  intro d
  induction d with
  | zero =>
    intro i x hi hx
    have : i = 32 := by omega
    subst this
    refine br_t (by decide) ⟨32 - e + 1, ss_Y_rs_lp hs ht (32 - e) (ss_g f s) x 31 (by omega) ?_ hx p⟩
    rw [show 32 - e + e = 32 from by omega]
    decide
  | succ d ih =>
    intro i x hi hx
    refine br_f (nI_ge (b := 32) (by omega) (by decide)) (ss_Yat hs (by omega) ⟨vp_in_nI (by omega) (by decide), nm_r (e' := upd x i (ss_e (ss_g f s i))) (by rw [ss_ci (by omega)]) (nm_r (nI_1 i) (ih (i + 1) _ (by omega) (ss_A_s hx rfl)))⟩)
theorem i_vc_rest {k : Nat} {u : SX} {v : SY} (I : i_Rel k u v) (hk : k + 5 ≤ 2560) (v1 : Int32) (v2 : Int32) : wpX_rest (fun r u' => wpY_rest (fun r' v' => r' = r ∧ i_Rel (k + 5) u' v') v v1 v2) u v1 v2 := by
  obtain ⟨f, le, ri, re, ot, sl, lp, rp, lW, rW, pt, lL, rL, pL, m, rfl, rfl, hP⟩ := I
  rcases ss_ser v1 with h | ⟨s, hs, rfl⟩
  · unfold wpX_rest wpY_rest
    exact ss_XserF h (br_t rfl (ss_YserF h (br_t rfl ⟨rfl, ss_R hP⟩)))
  · rcases ss_ser v2 with h | ⟨t, ht, rfl⟩
    · unfold wpX_rest wpY_rest
      exact ss_XserT hs (br_f ss_10 (ss_XserF h (br_t rfl (ss_YserT hs (br_f ss_10 (ss_YserF h (br_t rfl ⟨rfl, ss_R hP⟩)))))))
    · have dl := ss_d_le (ss_g f t) 32
      have dn := ss_d_ne (ss_g f t) 32
      have YD : ∀ P : Int32 → Prop, P (ss_m (ss_d (ss_g f t) 32)) → wpY_degree P (ss_em f, m) (nI t) := fun P hP => ss_Y_deg ht hP
      have XD : ∀ (P : Int32 → Prop) (x y : Nat → Int32), ss_A y (ss_g f t) 32 → P (ss_m (ss_d (ss_g f t) 32)) → wpX_lastNonZero__right P (ss_em f, x, y, re, ot, sl, lp, rp, lW, rW, pt, lL, rL, pL) := fun P x y hy hP => ss_lz_right hy hP
      generalize ss_d (ss_g f t) 32 = D at dl dn YD XD
      unfold wpX_rest
      refine ss_XserT hs (br_f ss_10 (ss_XserT ht (br_f ss_10 (ss_ld_left hs (fun x hx => ss_ld_right ht (fun y hy => XD _ x y hy ?_))))))
      cases D with
      | zero =>
        refine br_f ss_m_neg ?_
        unfold wpY_rest
        exact ss_YserT hs (br_f ss_10 (ss_YserT ht (br_f ss_10 (YD _ (br_f ss_m_neg ⟨rfl, ss_R hP⟩)))))
      | succ e =>
        have z := dn e rfl
        rw [ss_m_s] at YD ⊢
        refine br_t (nI_pos' (by omega)) ⟨vp_in_nI (by omega) (by decide), ?_⟩
        have gl : ∀ P : Int32 → Prop, P (ss_e (ss_i (ss_g f t e))) → wpX_inverse P (y (nI e).toNatClampNeg) := fun P hP => by rw [ss_ci (by omega), hy e (by omega)]; exact ss_Xi hP
        refine gl _ (nm_r (e' := ss_m (32 - e)) ?_ ⟨32 - e + 1, ss_X_rs_lp hs hy (32 - e) (ss_g f s) x _ (by omega) rfl hx (fun x' => ?_)⟩)
        · rw [show 32 - e = 31 - e + 1 from by omega, ss_m_s]
          exact pk_sub (a := 31) (by omega)
        · unfold wpY_rest
          exact ss_YserT hs (br_f ss_10 (ss_YserT ht (br_f ss_10 (YD _ (br_t (nI_pos' (by omega)) (YD _ (ss_Yat ht (by omega) (ss_Yi z ⟨33, ss_Y_rs_cp hs ht (by omega) (fun m => ⟨rfl, ss_R hP⟩) 32 0 _ rfl (ss_A_0 _ _)⟩))))))))
/-! shift -/
theorem ss_X_sh_in {post : Int32 → SX → Prop} {J : Int32 → (Nat → Int32) → (Nat → Int32) → (Nat → Int32) → (Nat → Int32) → (Nat → Int32) → (Nat → Int32) → (Nat → Int32) → (Nat → Int32) → (Nat → Int32) → (Nat → Int32) → (Nat → Int32) → (Nat → Int32) → (Nat → Int32) → (Nat → Int32) → Prop} {a : Nat → ss_F} {x : ss_F} {t : Nat} (ht : t < 31) {c ri re ot sl lp rp lW rW pt lL rL pL : Nat → Int32} {s1 : Int32} (h : ∀ y b, ss_A y b 32 → (∀ j, t ≤ j → j < 31 → b j = a j + x * b (j + 1)) → b 31 = a 31 → (∀ j, j < t → b j = a j) → J (nI (t + 1)) c y ri re ot sl lp rp lW rW pt lL rL pL) : ∀ d k y b z, t + d = k → k ≤ 31 → z = ss_m k → ss_A y b 32 → (∀ j, k ≤ j → j < 31 → b j = a j + x * b (j + 1)) → b 31 = a 31 → (∀ j, j < k → b j = a j) → wX_shift_38 post J s1 (ss_e x) (nI t) (d + 1) z c y ri re ot sl lp rp lW rW pt lL rL pL := by
  intro d
  induction d with
  | zero =>
    intro k y b z hk _ hz hy h1 h2 h3
    have : k = t := by omega
    subst this
    subst hz
    exact br_t (ss_m_lt k (by omega)) (nm_r (nI_1 k) (h y b hy h1 h2 h3))
  | succ d ih =>
    intro k y b z hk hk2 hz hy h1 h2 h3
    obtain ⟨n, rfl⟩ : ∃ n, k = n + 1 := ⟨k - 1, by omega⟩
    subst hz
    rw [ss_m_s]
    refine br_f (nI_nlt (by omega) (by omega)) ⟨vp_in_nI (by omega) (by decide), ?_, ss_pI, vp_in_nI (by omega) (by decide), nm_r (e' := upd y n (ss_e (a n + x * b (n + 1)))) ?_ (nm_e (ih n _ (ss_u b n (a n + x * b (n + 1))) _ (by omega) (by omega) rfl (ss_A_u hy rfl) ?_ ?_ ?_))⟩
    · rw [nI_1]
      exact vp_in_nI (by omega) (by decide)
    · rw [nI_1, ss_ci (by omega), ss_ci (by omega), hy n (by omega), hy (n + 1) (by omega), h3 n (by omega)]
      exact congrArg (upd y n) (ss_NV_rem (ss_NV_add (ss_NV_e _) (ss_NV_mul (ss_NV_e _) (ss_NV_e _))))
    · intro j j1 j2
      by_cases e : j = n
      · subst e
        rw [ss_us, ss_un (by omega)]
      · rw [ss_un e, ss_un (by omega)]
        exact h1 j (by omega) j2
    · rw [ss_un (by omega)]
      exact h2
    · intro j hj
      rw [ss_un (by omega)]
      exact h3 j (by omega)
theorem ss_X_sh_lp {post : Int32 → SX → Prop} {s : Nat} (hs : s < 5) {f q : Nat → ss_F} {x : ss_F} {ri re ot sl lp rp lW rW pt lL rL pL : Nat → Int32} (p : ∀ y, post 1 (ss_em (ss_b f s 32 (ss_hh x q 32 0)), y, ri, re, ot, sl, lp, rp, lW, rW, pt, lL, rL, pL)) : ∀ d t y a, t + d = 31 → ss_A y a 32 → ss_Sh x q t a → wX_shift_27 post (nI s) (ss_e x) (d + 1) (nI t) (ss_em f) y ri re ot sl lp rp lW rW pt lL rL pL := by
  intro d
  induction d with
  | zero =>
    intro t y a ht hy hS
    have : t = 31 := by omega
    subst this
    exact br_t (by decide) (ss_st_left hs (ss_A_congr hy (ss_She hS)) (p y))
  | succ d ih =>
    intro t y a ht hy hS
    exact br_f (nI_ge (b := 31) (by omega) (by decide)) ⟨31 - t + 1, ss_X_sh_in (by omega) (fun y' b hy' h1 h2 h3 => ih (t + 1) y' b (by omega) hy' (ss_Shs (by omega) hS h1 h2 h3)) (31 - t) 31 y a 30 (by omega) (Nat.le_refl 31) (by decide) hy (fun j j1 j2 => absurd j2 (by omega)) rfl (fun j _ => rfl)⟩
/-- a step of the reference, of which the places from j on are done -/
def ss_yg (x : ss_F) (H : Nat → ss_F) (j : Nat) : Nat → ss_F := fun i => if j ≤ i then H i * x + (if i = 0 then 0 else H (i - 1)) else H i
theorem ss_Y_sh_in {post : Int32 → SY → Prop} {J : Int32 → (Nat → Int32) → (Nat → Int32) → Prop} {f H : Nat → ss_F} {s : Nat} (hs : s < 5) (x : Int32) {n : Nat} (hn : n < 32) (h : ∀ m, ss_A m (ss_u (ss_yg (ss_z x.toInt) H 0) 0 (ss_yg (ss_z x.toInt) H 0 0 + ss_g f s n)) 32 → J (ss_m n) (ss_em f) m) : ∀ j m z, j ≤ 32 → z = ss_m j → ss_A m (ss_yg (ss_z x.toInt) H j) 32 → wY_shift_42 post J (nI s) x (nI n) (j + 1) z (ss_em f) m := by
  intro j
  induction j with
  | zero =>
    intro m z _ hz hm
    subst hz
    have LV : ss_LV ((m 0).toInt64 + (ss_e (ss_g f s n)).toInt64) (ss_yg (ss_z x.toInt) H 0 0 + ss_g f s n) (12288 + 12288) := by
      rw [hm 0 (by decide)]
      exact ss_LV_add (ss_LVe _) (ss_LVe _)
    exact br_t (by decide) (ss_Yat hs hn (ss_Yr LV (nm_e (nm_e (h _ (ss_A_u hm rfl))))))
  | succ j ih =>
    intro m z hj hz hm
    subst hz
    rw [ss_m_s]
    have own : m (nI j).toNatClampNeg = ss_e (H j) := by
      rw [ss_ci (by omega), hm j (by omega)]
      exact congrArg ss_e (if_neg (by omega))
    have nx : ∀ m', ss_A m' (ss_u (ss_yg (ss_z x.toInt) H (j + 1)) j (H j * ss_z x.toInt + (if j = 0 then 0 else H (j - 1)))) 32 → wY_shift_42 post J (nI s) x (nI n) (j + 1) (nI j + (-1)) (ss_em f) m' := by
      intro m' hm'
      refine ih m' _ (by omega) rfl (ss_A_congr hm' ?_)
      intro i _
      by_cases e : i = j
      · subst e
        rw [ss_us]
        exact (if_pos (Nat.le_refl i)).symm
      · rw [ss_un e]
        unfold ss_yg
        by_cases g : j ≤ i
        · rw [if_pos g, if_pos (by omega)]
        · rw [if_neg g, if_neg (by omega)]
    refine br_f (nI_pos (by omega)) ?_
    by_cases j0 : j = 0
    · subst j0
      have LV : ss_LV ((m (nI 0).toNatClampNeg).toInt64 * (ss_e (ss_z x.toInt)).toInt64 + (0 : Int32).toInt64) (H 0 * ss_z x.toInt + (if 0 = 0 then 0 else H (0 - 1))) (12288 * 12288 + 0) := by
        rw [own, if_pos rfl]
        exact ss_LV_add (ss_LV_mul (ss_LVe _) (ss_LVe _)) (ss_IV_L ⟨by decide, by decide⟩)
      exact br_t (by decide) ⟨vp_in_nI (by omega) (by decide), ss_Yr (ss_LV_any x) (ss_Yr LV ⟨vp_in_nI (by omega) (by decide), nm_r (e' := upd m 0 _) (by rw [ss_ci (by omega)]) (nm_e (nx _ (ss_A_u hm rfl)))⟩)⟩
    · have e1 : nI j - 1 = nI (j - 1) := ss_n1I (by omega)
      have low : m (nI j - 1).toNatClampNeg = ss_e (H (j - 1)) := by
        rw [e1, ss_ci (by omega), hm (j - 1) (by omega)]
        exact congrArg ss_e (if_neg (by omega))
      have LV : ss_LV ((m (nI j).toNatClampNeg).toInt64 * (ss_e (ss_z x.toInt)).toInt64 + (m (nI j - 1).toNatClampNeg).toInt64) (H j * ss_z x.toInt + (if j = 0 then 0 else H (j - 1))) (12288 * 12288 + 12288) := by
        rw [own, low, if_neg j0]
        exact ss_LV_add (ss_LV_mul (ss_LVe _) (ss_LVe _)) (ss_LVe _)
      exact br_f (nI_nle (by omega) (by omega)) ⟨by rw [e1]; exact vp_in_nI (by omega) (by decide), vp_in_nI (by omega) (by decide), ss_Yr (ss_LV_any x) (ss_Yr LV ⟨vp_in_nI (by omega) (by decide), nm_r (e' := upd m j _) (by rw [ss_ci (by omega)]) (nm_e (nx _ (ss_A_u hm rfl)))⟩)⟩
theorem ss_Y_sh_lp {post : Int32 → SY → Prop} {f : Nat → ss_F} {s : Nat} (hs : s < 5) (x : Int32) (p : ∀ m, post 1 (ss_em (ss_b f s 32 (ss_hh (ss_z x.toInt) (ss_g f s) 32 0)), m)) : ∀ k m z, k ≤ 32 → z = ss_m k → ss_A m (ss_hh (ss_z x.toInt) (ss_g f s) (32 - k) k) 32 → wY_shift_34 post (nI s) x (k + 1) z (ss_em f) m := by
  intro k
  induction k with
  | zero =>
    intro m z _ hz hm
    subst hz
    exact br_t (by decide) (ss_tk hs hm (p m))
  | succ k ih =>
    intro m z hk hz hm
    subst hz
    rw [ss_m_s]
    refine br_f (nI_pos (by omega)) ⟨33, ss_Y_sh_in (H := ss_hh (ss_z x.toInt) (ss_g f s) (32 - (k + 1)) (k + 1)) hs x (by omega) (fun m' hm' => ih m' _ (by omega) rfl (ss_A_congr hm' ?_)) 32 m 31 (Nat.le_refl 32) (by decide) (ss_A_congr hm (fun i hi => (if_neg (by omega)).symm))⟩
    intro i _
    rw [show 32 - k = 32 - (k + 1) + 1 from by omega]
    cases i with
    | zero =>
      rw [ss_us, ss_hh_0]
      show (if 0 ≤ 0 then ss_hh (ss_z x.toInt) (ss_g f s) (32 - (k + 1)) (k + 1) 0 * ss_z x.toInt + (if 0 = 0 then 0 else ss_hh (ss_z x.toInt) (ss_g f s) (32 - (k + 1)) (k + 1) (0 - 1)) else _) + ss_g f s k = _
      rw [if_pos (Nat.le_refl 0), if_pos rfl]
      grobner
    | succ i =>
      rw [ss_un (by omega), ss_hh_s]
      show (if 0 ≤ i + 1 then ss_hh (ss_z x.toInt) (ss_g f s) (32 - (k + 1)) (k + 1) (i + 1) * ss_z x.toInt + (if i + 1 = 0 then 0 else ss_hh (ss_z x.toInt) (ss_g f s) (32 - (k + 1)) (k + 1) (i + 1 - 1)) else _) = _
      rw [if_pos (by omega), if_neg (by omega), Nat.add_sub_cancel]
      grobner
theorem ss_Y_sh_z {post : Int32 → SY → Prop} {f : Nat → ss_F} {s : Nat} (hs : s < 5) (x : Int32) (p : ∀ m, post 1 (ss_em (ss_b f s 32 (ss_hh (ss_z x.toInt) (ss_g f s) 32 0)), m)) : ∀ d i m, i + d = 32 → ss_A m (fun _ => 0) i → wY_shift_12 post (nI s) x (d + 1) (nI i) (ss_em f) m := by
  intro d
  induction d with
  | zero =>
    intro i m hi hm
    have : i = 32 := by omega
    subst this
    exact br_t (by decide) ⟨33, ss_Y_sh_lp hs x p 32 m 31 (Nat.le_refl 32) (by decide) (ss_A_congr hm (fun j _ => rfl))⟩
  | succ d ih =>
    intro i m hi hm
    exact br_f (nI_ge (b := 32) (by omega) (by decide)) ⟨vp_in_nI (by omega) (by decide), nm_r (e' := upd m i 0) (by rw [ss_ci (by omega)]) (nm_r (nI_1 i) (ih (i + 1) _ (by omega) (ss_A_s hm ss_e0.symm)))⟩
theorem i_vc_shift {k : Nat} {u : SX} {v : SY} (I : i_Rel k u v) (hk : k + 5 ≤ 2560) (v1 : Int32) (v2 : Int32) : wpX_shift (fun r u' => wpY_shift (fun r' v' => r' = r ∧ i_Rel (k + 5) u' v') v v1 v2) u v1 v2 := by
  obtain ⟨f, le, ri, re, ot, sl, lp, rp, lW, rW, pt, lL, rL, pL, m, rfl, rfl, hP⟩ := I
  rcases ss_ser v1 with h | ⟨s, hs, rfl⟩
  · unfold wpX_shift wpY_shift
    exact ss_XserF h (br_t rfl (ss_YserF h (br_t rfl ⟨rfl, ss_R hP⟩)))
  · unfold wpX_shift
    refine ss_XserT hs (br_f ss_10 (ss_ld_left hs (fun x hx => ss_Xr (ss_LV_any v2) ⟨32, ss_X_sh_lp hs (fun y => ?_) 31 0 x (ss_g f s) rfl hx (ss_Sh0 _ _)⟩)))
    unfold wpY_shift
    exact ss_YserT hs (br_f ss_10 ⟨33, ss_Y_sh_z hs v2 (fun m => ⟨rfl, ss_R hP⟩) 32 0 m rfl (ss_A_0 _ _)⟩)
end
section
/-! the reference's product; the component's columns and big numbers -/
theorem ss_Y_mu_in {post : Int32 → SY → Prop} {J : Int32 → (Nat → Int32) → (Nat → Int32) → Prop} {f : Nat → ss_F} {m : Nat → Int32} {s t : Nat} (hs : s < 5) (ht : t < 5) {n : Nat} (hn : n < 32) (h : J (nI (n + 1)) (ss_em f) (upd m n (ss_e (ss_c (ss_g f s) (ss_g f t) n)))) : ∀ d k sum, k + d = n + 1 → ss_LV sum (ss_s (fun i => ss_g f s i * ss_g f t (n - i)) k) (k * 150994944) → wY_multiply_43 post J (nI s) (nI t) (nI n) (ss_em f) m (d + 1) sum (nI k) := by
  intro d
  induction d with
  | zero =>
    intro k sum hk hL
    have : k = n + 1 := by omega
    subst this
    exact br_t (nI_lt (by omega) (by omega)) (ss_Yr hL ⟨vp_in_nI (by omega) (by decide), nm_r (e' := upd m n (ss_e (ss_c (ss_g f s) (ss_g f t) n))) (by rw [ss_ci (by omega)]; rfl) (nm_r (nI_1 n) h)⟩)
  | succ d ih =>
    intro k sum hk hL
    refine br_f (nI_nlt (by omega) (by omega)) ?_
    rw [pk_sub (a := n) (b := k) (by omega)]
    exact ss_Yat hs (by omega) (ss_Yat ht (by omega) (nm_e (nm_r (nI_1 k) (ih (k + 1) _ (by omega) (ss_accY hL rfl rfl (by omega))))))
theorem ss_Y_mu_lp {post : Int32 → SY → Prop} {f : Nat → ss_F} {s t : Nat} (hs : s < 5) (ht : t < 5) (p : ∀ m, post 1 (ss_em (ss_b f s 32 (ss_c (ss_g f s) (ss_g f t))), m)) : ∀ d n m, n + d = 32 → ss_A m (ss_c (ss_g f s) (ss_g f t)) n → wY_multiply_30 post (nI s) (nI t) (d + 1) (nI n) (ss_em f) m := by
  intro d
  induction d with
  | zero =>
    intro n m hn hx
    have : n = 32 := by omega
    subst this
    exact br_t (by decide) (ss_tk hs hx (p m))
  | succ d ih =>
    intro n m hn hx
    exact br_f (nI_ge (b := 32) (by omega) (by decide)) ⟨n + 2, ss_Y_mu_in hs ht (by omega) (ih (n + 1) _ (by omega) (ss_A_s hx rfl)) (n + 1) 0 0 (by omega) ss_acc0⟩
theorem ss_o0 (l r : Nat → ss_F) (n : Nat) : ss_o l r n 0 (n + 1 - 0) = ss_c l r n := by
  apply ss_s_congr
  intro i _
  rw [Nat.zero_add]
theorem ss_E0_result_lp {post : SX → Prop} {l r : Nat → ss_F} {c le ri ot sl lp rp lW rW pt lL rL pL : Nat → Int32} (hl : ss_A le l 32) (hr : ss_A ri r 32) (h : ∀ x, ss_A x (ss_c l r) 32 → post (c, le, ri, x, ot, sl, lp, rp, lW, rW, pt, lL, rL, pL)) : ∀ d n x, n + d = 32 → ss_A x (ss_c l r) n → wX_multiplyByColumns__result_2 post (d + 1) (nI n) c le ri x ot sl lp rp lW rW pt lL rL pL := by
  intro d
  induction d with
  | zero =>
    intro n x hn hx
    have : n = 32 := by omega
    subst this
    exact br_t (by decide) (h x hx)
  | succ d ih =>
    intro n x hn hx
    exact br_f (nI_ge (b := 32) (by omega) (by decide)) (ss_so_left_right l r (first := 0) (fun i _ h2 => hl i (by omega)) (fun i _ h2 => hr _ (by omega)) (by omega) (Nat.le_refl n) (by omega) ⟨vp_in_nI (by omega) (by decide), nm_r (e' := upd x n (ss_e (ss_c l r n))) (by rw [ss_ci (by omega), ss_o0]) (nm_r (nI_1 n) (ih (n + 1) _ (by omega) (ss_A_s hx rfl)))⟩)
theorem ss_E0_result {post : SX → Prop} {l r : Nat → ss_F} {c le ri re ot sl lp rp lW rW pt lL rL pL : Nat → Int32} (hl : ss_A le l 32) (hr : ss_A ri r 32) (h : ∀ x, ss_A x (ss_c l r) 32 → post (c, le, ri, x, ot, sl, lp, rp, lW, rW, pt, lL, rL, pL)) : wpX_multiplyByColumns__result post (c, le, ri, re, ot, sl, lp, rp, lW, rW, pt, lL, rL, pL) := ⟨33, ss_E0_result_lp hl hr h 32 0 re rfl (ss_A_0 _ _)⟩
theorem ss_E0_otherResult_lp {post : SX → Prop} {l r : Nat → ss_F} {c le ri re sl lp rp lW rW pt lL rL pL : Nat → Int32} (hl : ss_A le l 32) (hr : ss_A ri r 32) (h : ∀ x, ss_A x (ss_c l r) 32 → post (c, le, ri, re, x, sl, lp, rp, lW, rW, pt, lL, rL, pL)) : ∀ d n x, n + d = 32 → ss_A x (ss_c l r) n → wX_multiplyByColumns__otherResult_2 post (d + 1) (nI n) c le ri re x sl lp rp lW rW pt lL rL pL := by
  intro d
  induction d with
  | zero =>
    intro n x hn hx
    have : n = 32 := by omega
    subst this
    exact br_t (by decide) (h x hx)
  | succ d ih =>
    intro n x hn hx
    exact br_f (nI_ge (b := 32) (by omega) (by decide)) (ss_so_left_right l r (first := 0) (fun i _ h2 => hl i (by omega)) (fun i _ h2 => hr _ (by omega)) (by omega) (Nat.le_refl n) (by omega) ⟨vp_in_nI (by omega) (by decide), nm_r (e' := upd x n (ss_e (ss_c l r n))) (by rw [ss_ci (by omega), ss_o0]) (nm_r (nI_1 n) (ih (n + 1) _ (by omega) (ss_A_s hx rfl)))⟩)
theorem ss_E0_otherResult {post : SX → Prop} {l r : Nat → ss_F} {c le ri re ot sl lp rp lW rW pt lL rL pL : Nat → Int32} (hl : ss_A le l 32) (hr : ss_A ri r 32) (h : ∀ x, ss_A x (ss_c l r) 32 → post (c, le, ri, re, x, sl, lp, rp, lW, rW, pt, lL, rL, pL)) : wpX_multiplyByColumns__otherResult post (c, le, ri, re, ot, sl, lp, rp, lW, rW, pt, lL, rL, pL) := ⟨33, ss_E0_otherResult_lp hl hr h 32 0 ot rfl (ss_A_0 _ _)⟩
/-! limbs -/
def ss_L (z : Nat → Int32) (l : Nat → ss_F) (k : Nat) : Prop := ∀ j, j < k → z j = nI (ss_lm l j)
theorem ss_L_s {z : Nat → Int32} {l : Nat → ss_F} {k : Nat} {x : Int32} (h : ss_L z l k) (hx : x = nI (ss_lm l k)) : ss_L (upd z k x) l (k + 1) := by
  intro j hj
  by_cases e : j = k
  · subst e
    rw [pk_us, hx]
  · rw [pk_un e, h j (by omega)]
theorem ss_i3 (n i : Nat) : nI n * 3 + nI i = nI (3 * n + i) := by
  rw [show (3 : Int32) = nI 3 from rfl, pk_mul, nI_add, Nat.mul_comm]
theorem ss_lmd (l : Nat → ss_F) (n : Nat) : ∀ i, i < 3 → (l n).val / 4096 ^ i % 4096 = ss_lm l (3 * n + i) := by
  intro i hi
  have hv := (l n).isLt
  have h3 : i = 0 ∨ i = 1 ∨ i = 2 := by omega
  rcases h3 with rfl | rfl | rfl
  · rw [Nat.add_zero, ss_lm0, Nat.pow_zero, Nat.div_one]
  · rw [ss_lm1, Nat.pow_one]
    omega
  · rw [ss_lm2, show 4096 ^ 2 = 16777216 from rfl]
    omega
theorem ss_wl_left_leftLimbs_in {post : SX → Prop} {J : Int32 → (Nat → Int32) → (Nat → Int32) → (Nat → Int32) → (Nat → Int32) → (Nat → Int32) → (Nat → Int32) → (Nat → Int32) → (Nat → Int32) → (Nat → Int32) → (Nat → Int32) → (Nat → Int32) → (Nat → Int32) → (Nat → Int32) → (Nat → Int32) → Prop} {l : Nat → ss_F} {c le ri re ot sl lp rp lW rW pt rL pL : Nat → Int32} {n : Nat} (hn : n < 32) (h : ∀ z, ss_L z l (3 * (n + 1)) → J (nI (n + 1)) c le ri re ot sl lp rp lW rW pt z rL pL) : ∀ d i z, i + d = 3 → ss_L z l (3 * n + i) → wX_writeLimbs__left_leftLimbs_15 post J (nI n) (d + 1) (nI ((l n).val / 4096 ^ i)) (nI i) c le ri re ot sl lp rp lW rW pt z rL pL := by
  have hv := (l n).isLt
  intro d
  induction d with
  | zero =>
    intro i z hi hz
    have : i = 3 := by omega
    subst this
    exact br_t (by decide) (nm_r (nI_1 n) (h z hz))
  | succ d ih =>
    intro i z hi hz
    have hd : (l n).val / 4096 ^ i ≤ (l n).val := Nat.div_le_self _ _
    have e1 := ss_i3 n i
    have e2 : nI ((l n).val / 4096 ^ i) &&& 4095 = nI (ss_lm l (3 * n + i)) := by
      rw [← ss_lmd l n i (by omega)]
      exact pk_andN (by omega) 12 (by decide)
    have e3 : nI ((l n).val / 4096 ^ i) >>> ((12 : Int32) &&& 31) = nI ((l n).val / 4096 ^ (i + 1)) := by
      rw [pk_shrN (by omega) _ 12 (by decide), Nat.div_div_eq_div_mul]
      rfl
    refine br_f (nI_ge (b := 3) (by omega) (by decide)) ⟨?_, nm_r (e' := upd z (3 * n + i) (nI (ss_lm l (3 * n + i)))) ?_ (nm_r e3 (nm_r (nI_1 i) (ih (i + 1) _ (by omega) (ss_L_s hz rfl))))⟩
    · rw [e1]
      exact vp_in_nI (by omega) (by decide)
    · rw [e1, ss_ci (by omega), e2]
theorem ss_wl_left_leftLimbs_lp {post : SX → Prop} {l : Nat → ss_F} {c le ri re ot sl lp rp lW rW pt rL pL : Nat → Int32} (hl : ss_A le l 32) (h : ∀ z, ss_L z l 96 → post (c, le, ri, re, ot, sl, lp, rp, lW, rW, pt, z, rL, pL)) : ∀ d n z, n + d = 32 → ss_L z l (3 * n) → wX_writeLimbs__left_leftLimbs_2 post (d + 1) (nI n) c le ri re ot sl lp rp lW rW pt z rL pL := by
  intro d
  induction d with
  | zero =>
    intro n z hn hz
    have : n = 32 := by omega
    subst this
    exact br_t (by decide) (h z hz)
  | succ d ih =>
    intro n z hn hz
    refine br_f (nI_ge (b := 32) (by omega) (by decide)) ⟨vp_in_nI (by omega) (by decide), nm_r (e' := nI ((l n).val / 4096 ^ 0)) ?_ ⟨4, ss_wl_left_leftLimbs_in (by omega) (fun z' hz' => ih (n + 1) z' (by omega) hz') 3 0 z rfl hz⟩⟩
    rw [ss_ci (by omega), hl n (by omega), Nat.pow_zero, Nat.div_one]
    rfl
theorem ss_wl_left_leftLimbs {post : SX → Prop} {l : Nat → ss_F} {c le ri re ot sl lp rp lW rW pt lL rL pL : Nat → Int32} (hl : ss_A le l 32) (h : ∀ z, ss_L z l 96 → post (c, le, ri, re, ot, sl, lp, rp, lW, rW, pt, z, rL, pL)) : wpX_writeLimbs__left_leftLimbs post (c, le, ri, re, ot, sl, lp, rp, lW, rW, pt, lL, rL, pL) := ⟨33, ss_wl_left_leftLimbs_lp hl h 32 0 lL rfl (fun j hj => absurd hj (by omega))⟩
theorem ss_wl_right_rightLimbs_in {post : SX → Prop} {J : Int32 → (Nat → Int32) → (Nat → Int32) → (Nat → Int32) → (Nat → Int32) → (Nat → Int32) → (Nat → Int32) → (Nat → Int32) → (Nat → Int32) → (Nat → Int32) → (Nat → Int32) → (Nat → Int32) → (Nat → Int32) → (Nat → Int32) → (Nat → Int32) → Prop} {l : Nat → ss_F} {c le ri re ot sl lp rp lW rW pt lL pL : Nat → Int32} {n : Nat} (hn : n < 32) (h : ∀ z, ss_L z l (3 * (n + 1)) → J (nI (n + 1)) c le ri re ot sl lp rp lW rW pt lL z pL) : ∀ d i z, i + d = 3 → ss_L z l (3 * n + i) → wX_writeLimbs__right_rightLimbs_15 post J (nI n) (d + 1) (nI ((l n).val / 4096 ^ i)) (nI i) c le ri re ot sl lp rp lW rW pt lL z pL := by
  have hv := (l n).isLt
  intro d
  induction d with
  | zero =>
    intro i z hi hz
    have : i = 3 := by omega
    subst this
    exact br_t (by decide) (nm_r (nI_1 n) (h z hz))
  | succ d ih =>
    intro i z hi hz
    have hd : (l n).val / 4096 ^ i ≤ (l n).val := Nat.div_le_self _ _
    have e1 := ss_i3 n i
    have e2 : nI ((l n).val / 4096 ^ i) &&& 4095 = nI (ss_lm l (3 * n + i)) := by
      rw [← ss_lmd l n i (by omega)]
      exact pk_andN (by omega) 12 (by decide)
    have e3 : nI ((l n).val / 4096 ^ i) >>> ((12 : Int32) &&& 31) = nI ((l n).val / 4096 ^ (i + 1)) := by
      rw [pk_shrN (by omega) _ 12 (by decide), Nat.div_div_eq_div_mul]
      rfl
    refine br_f (nI_ge (b := 3) (by omega) (by decide)) ⟨?_, nm_r (e' := upd z (3 * n + i) (nI (ss_lm l (3 * n + i)))) ?_ (nm_r e3 (nm_r (nI_1 i) (ih (i + 1) _ (by omega) (ss_L_s hz rfl))))⟩
    · rw [e1]
      exact vp_in_nI (by omega) (by decide)
    · rw [e1, ss_ci (by omega), e2]
theorem ss_wl_right_rightLimbs_lp {post : SX → Prop} {l : Nat → ss_F} {c le ri re ot sl lp rp lW rW pt lL pL : Nat → Int32} (hl : ss_A ri l 32) (h : ∀ z, ss_L z l 96 → post (c, le, ri, re, ot, sl, lp, rp, lW, rW, pt, lL, z, pL)) : ∀ d n z, n + d = 32 → ss_L z l (3 * n) → wX_writeLimbs__right_rightLimbs_2 post (d + 1) (nI n) c le ri re ot sl lp rp lW rW pt lL z pL := by
  intro d
  induction d with
  | zero =>
    intro n z hn hz
    have : n = 32 := by omega
    subst this
    exact br_t (by decide) (h z hz)
  | succ d ih =>
    intro n z hn hz
    refine br_f (nI_ge (b := 32) (by omega) (by decide)) ⟨vp_in_nI (by omega) (by decide), nm_r (e' := nI ((l n).val / 4096 ^ 0)) ?_ ⟨4, ss_wl_right_rightLimbs_in (by omega) (fun z' hz' => ih (n + 1) z' (by omega) hz') 3 0 z rfl hz⟩⟩
    rw [ss_ci (by omega), hl n (by omega), Nat.pow_zero, Nat.div_one]
    rfl
theorem ss_wl_right_rightLimbs {post : SX → Prop} {l : Nat → ss_F} {c le ri re ot sl lp rp lW rW pt lL rL pL : Nat → Int32} (hl : ss_A ri l 32) (h : ∀ z, ss_L z l 96 → post (c, le, ri, re, ot, sl, lp, rp, lW, rW, pt, lL, z, pL)) : wpX_writeLimbs__right_rightLimbs post (c, le, ri, re, ot, sl, lp, rp, lW, rW, pt, lL, rL, pL) := ⟨33, ss_wl_right_rightLimbs_lp hl h 32 0 rL rfl (fun j hj => absurd hj (by omega))⟩
theorem ss_lmask {V : Nat} (h : V < 2 ^ 62) : (lN V &&& 4095).toInt32 = nI (V % 4096) := by
  have e : (lN V &&& 4095).toInt = (V : Int) % 2 ^ 12 := by
    rw [Jvm.Kit.i64_mask (lN V) 4095 (k := 12) (by decide) (by decide), pk_lT (by omega)]
  apply Int32.toInt_inj.mp
  rw [Jvm.Kit.i32_of_i64 (by rw [e]; omega) (by rw [e]; omega), e, nI_toInt (by omega)]
  omega
theorem ss_lshr {V : Nat} (h : V < 2 ^ 62) : lN V >>> ((12 : Int32).toInt64 &&& 63) = lN (V / 4096) := by
  apply Int64.toInt_inj.mp
  rw [Jvm.Kit.i64_shr _ _ (k := 12) (by decide), pk_lT (by omega), pk_lT (by omega)]
  omega
theorem ss_lshl {V : Nat} (h : V < 2 ^ 40) : lN V <<< ((12 : Int32).toInt64 &&& 63) = lN (V * 4096) := by
  apply Int64.toInt_inj.mp
  rw [Jvm.Kit.i64_shl _ _ (k := 12) (by decide) (by rw [pk_lT (by omega)]; omega) (by rw [pk_lT (by omega)]; omega), pk_lT (by omega), pk_lT (by omega)]
  omega
theorem ss_lmul {a b : Nat} (ha : a ≤ 4095) (hb : b ≤ 4095) : (nI a * nI b).toInt64 = lN (a * b) := by
  have h : a * b ≤ 4095 * 4095 := Nat.mul_le_mul ha hb
  rw [pk_mul, nI_l (by omega)]
theorem ss_ml_in {post : SX → Prop} {J : Int64 → Int32 → (Nat → Int32) → (Nat → Int32) → (Nat → Int32) → (Nat → Int32) → (Nat → Int32) → (Nat → Int32) → (Nat → Int32) → (Nat → Int32) → (Nat → Int32) → (Nat → Int32) → (Nat → Int32) → (Nat → Int32) → (Nat → Int32) → (Nat → Int32) → Prop} {l r : Nat → ss_F} {c le ri re ot sl lp rp lW rW pt lL rL pL : Nat → Int32} (hl : ss_L lL l 96) (hr : ss_L rL r 96) {n : Nat} (hn : n < 96) (h : J (lN (ss_lC l r (n + 1))) (nI (n + 1)) c le ri re ot sl lp rp lW rW pt lL rL (upd pL n (nI (ss_lP l r n)))) : ∀ d k, k + d = n + 1 → wX_multiplyLimbs_16 post J (nI n) c le ri re ot sl lp rp lW rW pt lL rL pL (d + 1) (lN (ss_lC l r n + ss_sN (fun i => ss_lm l i * ss_lm r (n - i)) k)) (nI k) := by
  have b1 := ss_lC_le l r n (by omega)
  have b2 := ss_lS_le l r hn
  intro d
  induction d with
  | zero =>
    intro k hk
    have : k = n + 1 := by omega
    subst this
    exact br_t (nI_lt (by omega) (by omega)) ⟨vp_in_nI hn (by decide), nm_r (e' := upd pL n (nI (ss_lP l r n))) (by rw [ss_ci (by omega)]; exact congrArg (upd pL n) (ss_lmask (V := ss_lC l r n + ss_lS l r n) (by omega))) (nm_r (ss_lshr (V := ss_lC l r n + ss_lS l r n) (by omega)) (nm_r (nI_1 n) h))⟩
  | succ d ih =>
    intro k hk
    have x1 : lL (nI k).toNatClampNeg = nI (ss_lm l k) := by rw [ss_ci (by omega)]; exact hl k (by omega)
    have x2 : rL (nI n - nI k).toNatClampNeg = nI (ss_lm r (n - k)) := by rw [pk_sub (by omega), ss_ci (by omega)]; exact hr _ (by omega)
    refine br_f (nI_nlt (by omega) (by omega)) ⟨vp_in_nI (by omega) (by decide), ?_, nm_r (e' := lN (ss_lC l r n + ss_sN (fun i => ss_lm l i * ss_lm r (n - i)) (k + 1))) ?_ (nm_r (nI_1 k) (ih (k + 1) (by omega)))⟩
    · rw [pk_sub (by omega)]
      exact vp_in_nI (by omega) (by decide)
    · rw [x1, x2, ss_lmul (ss_lm_le l k) (ss_lm_le r (n - k)), lN_add, ss_sNs, Nat.add_assoc]
theorem ss_ml_lp {post : SX → Prop} {l r : Nat → ss_F} {c le ri re ot sl lp rp lW rW pt lL rL : Nat → Int32} (hl : ss_L lL l 96) (hr : ss_L rL r 96) (h : ∀ z, (∀ j, j < 96 → z j = nI (ss_lP l r j)) → post (c, le, ri, re, ot, sl, lp, rp, lW, rW, pt, lL, rL, z)) : ∀ d n z, n + d = 96 → (∀ j, j < n → z j = nI (ss_lP l r j)) → wX_multiplyLimbs_4 post (d + 1) (lN (ss_lC l r n)) (nI n) c le ri re ot sl lp rp lW rW pt lL rL z := by
  intro d
  induction d with
  | zero =>
    intro n z hn hz
    have : n = 96 := by omega
    subst this
    exact br_t (by decide) (h z hz)
  | succ d ih =>
    intro n z hn hz
    refine br_f (nI_ge (b := 96) (by omega) (by decide)) ⟨n + 2, ss_ml_in hl hr (by omega) (ih (n + 1) _ (by omega) ?_) (n + 1) 0 (by omega)⟩
    intro j hj
    by_cases e : j = n
    · subst e
      exact pk_us
    · rw [pk_un e]
      exact hz j (by omega)
theorem ss_ml {post : SX → Prop} {l r : Nat → ss_F} {c le ri re ot sl lp rp lW rW pt lL rL pL : Nat → Int32} (hl : ss_L lL l 96) (hr : ss_L rL r 96) (h : ∀ z, (∀ j, j < 96 → z j = nI (ss_lP l r j)) → post (c, le, ri, re, ot, sl, lp, rp, lW, rW, pt, lL, rL, z)) : wpX_multiplyLimbs post (c, le, ri, re, ot, sl, lp, rp, lW, rW, pt, lL, rL, pL) := ⟨97, ss_ml_lp hl hr h 96 0 pL rfl (fun j hj => absurd hj (by omega))⟩
theorem ss_lP_lt (l r : Nat → ss_F) (n : Nat) : ss_lP l r n < 4096 := Nat.mod_lt _ (by decide)
theorem ss_LV_lN {n b : Nat} (h : n ≤ b) (hb : b < 2 ^ 62) : ss_LV (lN n) (ss_n n) b := by
  constructor
  · rw [pk_lT (by omega), ss_nz]
  · rw [pk_lT (by omega)]
    omega
theorem ss_E4_result_in {post : SX → Prop} {J : Int32 → (Nat → Int32) → (Nat → Int32) → (Nat → Int32) → (Nat → Int32) → (Nat → Int32) → (Nat → Int32) → (Nat → Int32) → (Nat → Int32) → (Nat → Int32) → (Nat → Int32) → (Nat → Int32) → (Nat → Int32) → (Nat → Int32) → (Nat → Int32) → Prop} {l r : Nat → ss_F} {c le ri re ot sl lp rp lW rW pt lL rL pL : Nat → Int32} (hp : ∀ j, j < 96 → pL j = nI (ss_lP l r j)) {n : Nat} (hn : n < 32) (h : J (nI (n + 1)) c le ri (upd re n (ss_e (ss_c l r n))) ot sl lp rp lW rW pt lL rL pL) : wX_multiplyByBigNumbers__result_39 post J (nI n) c le ri re ot sl lp rp lW rW pt lL rL pL 4 0 2 := by
  have q0 := ss_lP_lt l r (3 * n)
  have q1 := ss_lP_lt l r (3 * n + 1)
  have q2 := ss_lP_lt l r (3 * n + 2)
  have T := ss_lP3 l r hn
  have Tb := ss_lT_le l r hn
  have step : ∀ (i w : Nat), i < 3 → w < 2 ^ 40 → (lN w <<< ((12 : Int32).toInt64 &&& 63)) + (pL (nI n * 3 + nI i).toNatClampNeg).toInt64 = lN (w * 4096 + ss_lP l r (3 * n + i)) := by
    intro i w hi hw
    have b := ss_lP_lt l r (3 * n + i)
    rw [ss_i3, ss_ci (by omega), hp _ (by omega), ss_lshl hw, nI_l (by omega), lN_add]
  have hin : ∀ i, i < 3 → vp_in (nI n * 3 + nI i) 96 := fun i hi => by rw [ss_i3]; exact vp_in_nI (by omega) (by decide)
  have LV : ss_LV (lN (((0 * 4096 + ss_lP l r (3 * n + 2)) * 4096 + ss_lP l r (3 * n + 1)) * 4096 + ss_lP l r (3 * n + 0))) (ss_c l r n) (32 * (12288 * 12288)) := by
    show ss_LV (lN (((0 * 4096 + ss_lP l r (3 * n + 2)) * 4096 + ss_lP l r (3 * n + 1)) * 4096 + ss_lP l r (3 * n))) (ss_c l r n) (32 * (12288 * 12288))
    rw [Nat.zero_mul, Nat.zero_add, T, ← ss_lT_c]
    exact ss_LV_lN Tb (by decide)
  refine br_f (by decide) ⟨hin 2 (by decide), nm_r (step 2 0 (by decide) (by decide)) (nm_r (pk_m1 1) ?_)⟩
  refine br_f (by decide) ⟨hin 1 (by decide), nm_r (step 1 _ (by decide) (by omega)) (nm_r (pk_m1 0) ?_)⟩
  refine br_f (by decide) ⟨hin 0 (by decide), nm_r (step 0 _ (by decide) (by omega)) (nm_e ?_)⟩
  exact br_t (by decide) (ss_Xr LV ⟨vp_in_nI hn (by decide), nm_r (e' := upd re n (ss_e (ss_c l r n))) (by rw [ss_ci (by omega)]) (nm_r (nI_1 n) h)⟩)
theorem ss_E4_result_lp {post : SX → Prop} {l r : Nat → ss_F} {c le ri ot sl lp rp lW rW pt lL rL pL : Nat → Int32} (hp : ∀ j, j < 96 → pL j = nI (ss_lP l r j)) (h : ∀ x, ss_A x (ss_c l r) 32 → post (c, le, ri, x, ot, sl, lp, rp, lW, rW, pt, lL, rL, pL)) : ∀ d n x, n + d = 32 → ss_A x (ss_c l r) n → wX_multiplyByBigNumbers__result_28 post (d + 1) (nI n) c le ri x ot sl lp rp lW rW pt lL rL pL := by
  intro d
  induction d with
  | zero =>
    intro n x hn hx
    have : n = 32 := by omega
    subst this
    exact br_t (by decide) (h x hx)
  | succ d ih =>
    intro n x hn hx
    exact br_f (nI_ge (b := 32) (by omega) (by decide)) ⟨4, ss_E4_result_in hp (by omega) (ih (n + 1) _ (by omega) (ss_A_s hx rfl))⟩
theorem ss_E4_result {post : SX → Prop} {l r : Nat → ss_F} {c le ri re ot sl lp rp lW rW pt lL rL pL : Nat → Int32} (hl : ss_A le l 32) (hr : ss_A ri r 32) (h : ∀ x a b w, ss_A x (ss_c l r) 32 → post (c, le, ri, x, ot, sl, lp, rp, lW, rW, pt, a, b, w)) : wpX_multiplyByBigNumbers__result post (c, le, ri, re, ot, sl, lp, rp, lW, rW, pt, lL, rL, pL) := by
  unfold wpX_multiplyByBigNumbers__result
  exact ss_wl_left_leftLimbs hl (fun a ha => ss_wl_right_rightLimbs hr (fun b hb => ss_ml ha hb (fun w hw => ⟨33, ss_E4_result_lp hw (fun x hx => h x a b w hx) 32 0 _ rfl (ss_A_0 _ _)⟩)))
theorem ss_E4_otherResult_in {post : SX → Prop} {J : Int32 → (Nat → Int32) → (Nat → Int32) → (Nat → Int32) → (Nat → Int32) → (Nat → Int32) → (Nat → Int32) → (Nat → Int32) → (Nat → Int32) → (Nat → Int32) → (Nat → Int32) → (Nat → Int32) → (Nat → Int32) → (Nat → Int32) → (Nat → Int32) → Prop} {l r : Nat → ss_F} {c le ri re ot sl lp rp lW rW pt lL rL pL : Nat → Int32} (hp : ∀ j, j < 96 → pL j = nI (ss_lP l r j)) {n : Nat} (hn : n < 32) (h : J (nI (n + 1)) c le ri re (upd ot n (ss_e (ss_c l r n))) sl lp rp lW rW pt lL rL pL) : wX_multiplyByBigNumbers__otherResult_39 post J (nI n) c le ri re ot sl lp rp lW rW pt lL rL pL 4 0 2 := by
  have q0 := ss_lP_lt l r (3 * n)
  have q1 := ss_lP_lt l r (3 * n + 1)
  have q2 := ss_lP_lt l r (3 * n + 2)
  have T := ss_lP3 l r hn
  have Tb := ss_lT_le l r hn
  have step : ∀ (i w : Nat), i < 3 → w < 2 ^ 40 → (lN w <<< ((12 : Int32).toInt64 &&& 63)) + (pL (nI n * 3 + nI i).toNatClampNeg).toInt64 = lN (w * 4096 + ss_lP l r (3 * n + i)) := by
    intro i w hi hw
    have b := ss_lP_lt l r (3 * n + i)
    rw [ss_i3, ss_ci (by omega), hp _ (by omega), ss_lshl hw, nI_l (by omega), lN_add]
  have hin : ∀ i, i < 3 → vp_in (nI n * 3 + nI i) 96 := fun i hi => by rw [ss_i3]; exact vp_in_nI (by omega) (by decide)
  have LV : ss_LV (lN (((0 * 4096 + ss_lP l r (3 * n + 2)) * 4096 + ss_lP l r (3 * n + 1)) * 4096 + ss_lP l r (3 * n + 0))) (ss_c l r n) (32 * (12288 * 12288)) := by
    show ss_LV (lN (((0 * 4096 + ss_lP l r (3 * n + 2)) * 4096 + ss_lP l r (3 * n + 1)) * 4096 + ss_lP l r (3 * n))) (ss_c l r n) (32 * (12288 * 12288))
    rw [Nat.zero_mul, Nat.zero_add, T, ← ss_lT_c]
    exact ss_LV_lN Tb (by decide)
  refine br_f (by decide) ⟨hin 2 (by decide), nm_r (step 2 0 (by decide) (by decide)) (nm_r (pk_m1 1) ?_)⟩
  refine br_f (by decide) ⟨hin 1 (by decide), nm_r (step 1 _ (by decide) (by omega)) (nm_r (pk_m1 0) ?_)⟩
  refine br_f (by decide) ⟨hin 0 (by decide), nm_r (step 0 _ (by decide) (by omega)) (nm_e ?_)⟩
  exact br_t (by decide) (ss_Xr LV ⟨vp_in_nI hn (by decide), nm_r (e' := upd ot n (ss_e (ss_c l r n))) (by rw [ss_ci (by omega)]) (nm_r (nI_1 n) h)⟩)
theorem ss_E4_otherResult_lp {post : SX → Prop} {l r : Nat → ss_F} {c le ri re sl lp rp lW rW pt lL rL pL : Nat → Int32} (hp : ∀ j, j < 96 → pL j = nI (ss_lP l r j)) (h : ∀ x, ss_A x (ss_c l r) 32 → post (c, le, ri, re, x, sl, lp, rp, lW, rW, pt, lL, rL, pL)) : ∀ d n x, n + d = 32 → ss_A x (ss_c l r) n → wX_multiplyByBigNumbers__otherResult_28 post (d + 1) (nI n) c le ri re x sl lp rp lW rW pt lL rL pL := by
  intro d
  induction d with
  | zero =>
    intro n x hn hx
    have : n = 32 := by omega
    subst this
    exact br_t (by decide) (h x hx)
  | succ d ih =>
    intro n x hn hx
    exact br_f (nI_ge (b := 32) (by omega) (by decide)) ⟨4, ss_E4_otherResult_in hp (by omega) (ih (n + 1) _ (by omega) (ss_A_s hx rfl))⟩
theorem ss_E4_otherResult {post : SX → Prop} {l r : Nat → ss_F} {c le ri re ot sl lp rp lW rW pt lL rL pL : Nat → Int32} (hl : ss_A le l 32) (hr : ss_A ri r 32) (h : ∀ x a b w, ss_A x (ss_c l r) 32 → post (c, le, ri, re, x, sl, lp, rp, lW, rW, pt, a, b, w)) : wpX_multiplyByBigNumbers__otherResult post (c, le, ri, re, ot, sl, lp, rp, lW, rW, pt, lL, rL, pL) := by
  unfold wpX_multiplyByBigNumbers__otherResult
  exact ss_wl_left_leftLimbs hl (fun a ha => ss_wl_right_rightLimbs hr (fun b hb => ss_ml ha hb (fun w hw => ⟨33, ss_E4_otherResult_lp hw (fun x hx => h x a b w hx) 32 0 _ rfl (ss_A_0 _ _)⟩)))
end
section
/-! the points: differences, Newton's form -/
def ss_Ak (d : Nat → ss_F) (k : Nat) : Nat → ss_F := fun x => ss_dv d (if x < k then x else k) x
def ss_Bj (d : Nat → ss_F) (k j : Nat) : Nat → ss_F := fun x => if j ≤ x then ss_dv d (k + 1) x else ss_Ak d k x
theorem ss_Ak_ge (d : Nat → ss_F) {k x : Nat} (h : k ≤ x) : ss_Ak d k x = ss_dv d k x := by
  unfold ss_Ak
  rw [if_neg (by omega)]
theorem ss_Bj_end (d : Nat → ss_F) (k x : Nat) : ss_Bj d k (k + 1) x = ss_Ak d (k + 1) x := by
  unfold ss_Bj
  by_cases h : k + 1 ≤ x
  · rw [if_pos h, ss_Ak_ge d h]
  · rw [if_neg h]
    unfold ss_Ak
    rw [if_pos (show x < k + 1 by omega)]
    by_cases e : x < k
    · rw [if_pos e]
    · rw [if_neg e, show x = k from by omega]
theorem ss_dd_in {post : SX → Prop} {J : Int32 → (Nat → Int32) → (Nat → Int32) → (Nat → Int32) → (Nat → Int32) → (Nat → Int32) → (Nat → Int32) → (Nat → Int32) → (Nat → Int32) → (Nat → Int32) → (Nat → Int32) → (Nat → Int32) → (Nat → Int32) → (Nat → Int32) → (Nat → Int32) → Prop} {d : Nat → ss_F} {c le ri re ot sl lp rp lW rW lL rL pL : Nat → Int32} {k : Nat} (hk : k < 62) (h : ∀ y, ss_A y (ss_Ak d (k + 1)) 63 → J (nI (k + 1 + 1)) c le ri re ot sl lp rp lW rW y lL rL pL) : ∀ e j y z, k + 1 + e = j → j ≤ 63 → z = ss_m j → ss_A y (ss_Bj d k j) 63 → wX_divideDifferences_16 post J (nI (k + 1)) (ss_e (ss_i (ss_n (k + 1)))) (e + 1) z c le ri re ot sl lp rp lW rW y lL rL pL := by
  intro e
  induction e with
  | zero =>
    intro j y z hj _ hz hy
    have : j = k + 1 := by omega
    subst this
    subst hz
    exact br_t (ss_m_lt (k + 1) (by omega)) (nm_r (nI_1 (k + 1)) (h y (ss_A_congr hy (fun x _ => ss_Bj_end d k x))))
  | succ e ih =>
    intro j y z hj hj2 hz hy
    obtain ⟨n, rfl⟩ : ∃ n, j = n + 1 := ⟨j - 1, by omega⟩
    subst hz
    rw [ss_m_s]
    have e1 : nI n - 1 = nI (n - 1) := ss_n1I (by omega)
    have LV : ss_LV ((y (nI n).toNatClampNeg - y (nI n - 1).toNatClampNeg) * ss_e (ss_i (ss_n (k + 1)))).toInt64 (ss_dv d (k + 1) n) ((12288 + 12288) * 12288) := by
      rw [e1, ss_ci (by omega), ss_ci (by omega), hy n (by omega), hy (n - 1) (by omega), ← ss_dv_s d hk (x := n) (by omega)]
      have v1 : ss_Bj d k (n + 1) n = ss_dv d k n := (if_neg (by omega)).trans (ss_Ak_ge d (by omega))
      have v2 : ss_Bj d k (n + 1) (n - 1) = ss_dv d k (n - 1) := (if_neg (by omega)).trans (ss_Ak_ge d (by omega))
      rw [v1, v2]
      exact ss_IV_L (ss_IV_mul (ss_IV_sub (ss_IV_e _) (ss_IV_e _)) (ss_IV_e _))
    refine br_f (nI_nlt (by omega) (by omega)) ⟨vp_in_nI (by omega) (by decide), ?_, ss_Xr LV ⟨vp_in_nI (by omega) (by decide), nm_r (e' := upd y n (ss_e (ss_dv d (k + 1) n))) (by rw [ss_ci (by omega)]) (nm_e (ih n _ _ (by omega) (by omega) rfl (ss_A_congr (ss_A_u hy rfl) ?_)))⟩⟩
    · rw [e1]
      exact vp_in_nI (by omega) (by decide)
    · intro x _
      by_cases ex : x = n
      · subst ex
        rw [ss_us]
        exact (if_pos (Nat.le_refl x)).symm
      · rw [ss_un ex]
        unfold ss_Bj
        by_cases g : n ≤ x
        · rw [if_pos g, if_pos (by omega)]
        · rw [if_neg g, if_neg (by omega)]
theorem ss_dd_lp {post : SX → Prop} {d : Nat → ss_F} {c le ri re ot sl lp rp lW rW lL rL pL : Nat → Int32} (h : ∀ y, ss_A y d 63 → post (c, le, ri, re, ot, sl, lp, rp, lW, rW, y, lL, rL, pL)) : ∀ e k y, k + e = 62 → ss_A y (ss_Ak d k) 63 → wX_divideDifferences_2 post (e + 1) (nI (k + 1)) c le ri re ot sl lp rp lW rW y lL rL pL := by
  intro e
  induction e with
  | zero =>
    intro k y hk hy
    have : k = 62 := by omega
    subst this
    refine br_t (by decide) (h y (ss_A_congr hy (fun x hx => ?_)))
    unfold ss_Ak
    by_cases g : x < 62
    · rw [if_pos g]
      exact ss_dv_d d hx
    · rw [if_neg g, show x = 62 from by omega]
      exact ss_dv_d d (by decide)
  | succ e ih =>
    intro k y hk hy
    have e3 : nI (k + 1) = ss_e (ss_n (k + 1)) := ss_ne (by omega)
    have gl : ∀ P : Int32 → Prop, P (ss_e (ss_i (ss_n (k + 1)))) → wpX_inverse P (nI (k + 1)) := fun P hP => by rw [e3]; exact ss_Xi hP
    refine br_f (nI_ge (b := 63) (by omega) (by decide)) (gl _ ⟨62 - k + 1, ss_dd_in (by omega) (fun y' hy' => ih (k + 1) y' (by omega) hy') (62 - k) 63 y 62 (by omega) (Nat.le_refl 63) (by decide) (ss_A_congr hy (fun x hx => ?_))⟩)
    exact (if_neg (by omega)).symm
theorem ss_dd {post : SX → Prop} {d : Nat → ss_F} {c le ri re ot sl lp rp lW rW pt lL rL pL : Nat → Int32} (hy : ss_A pt (ss_dv d 0) 63) (h : ∀ y, ss_A y d 63 → post (c, le, ri, re, ot, sl, lp, rp, lW, rW, y, lL, rL, pL)) : wpX_divideDifferences post (c, le, ri, re, ot, sl, lp, rp, lW, rW, pt, lL, rL, pL) := ⟨63, ss_dd_lp h 62 0 pt rfl (ss_A_congr hy (fun x _ => (ss_Ak_ge d (Nat.zero_le x)).symm))⟩
theorem ss_en_result_in {post : SX → Prop} {J : Int32 → (Nat → Int32) → (Nat → Int32) → (Nat → Int32) → (Nat → Int32) → (Nat → Int32) → (Nat → Int32) → (Nat → Int32) → (Nat → Int32) → (Nat → Int32) → (Nat → Int32) → (Nat → Int32) → (Nat → Int32) → (Nat → Int32) → (Nat → Int32) → Prop} {d : Nat → ss_F} {c le ri ot sl lp rp lW rW pt lL rL pL : Nat → Int32} {L k : Nat} (hk : k < 63) (hp : ss_A pt d 63) (h : ∀ x, ss_A x (ss_nw d (L + 1) k) 32 → J (ss_m k) c le ri x ot sl lp rp lW rW pt lL rL pL) : ∀ j x, j < 32 → ss_A x (fun i => if j < i then ss_nw d (L + 1) k i else ss_nw d L (k + 1) i) 32 → wX_expandNewton__result_28 post J (nI k) (j + 1) (nI j) c le ri x ot sl lp rp lW rW pt lL rL pL := by
  intro j
  induction j with
  | zero =>
    intro x _ hx
    have LV : ss_LV (pt (nI k).toNatClampNeg - nI k * x 0).toInt64 (ss_nw d (L + 1) k 0) (12288 + k * 12288) := by
      rw [ss_ci (by omega), hp k hk, hx 0 (by decide)]
      dsimp only
      rw [if_neg (Nat.lt_irrefl 0), ss_nw_0]
      exact ss_IV_L (ss_IV_sub (ss_IV_e _) (ss_IV_mul (ss_IV_n k (by omega)) (ss_IV_e _) (by omega)) (by omega))
    refine br_t (by decide) ⟨vp_in_nI hk (by decide), ss_Xr LV (nm_e (nm_e (h _ (ss_A_congr (ss_A_u hx rfl) ?_))))⟩
    intro i _
    by_cases e : i = 0
    · subst e
      exact ss_us _ _ _
    · rw [ss_un e, if_pos (by omega)]
  | succ j ih =>
    intro x hj hx
    have e1 : nI (j + 1) - 1 = nI j := nI_pred j
    have LV : ss_LV (x (nI (j + 1) - 1).toNatClampNeg - nI k * x (nI (j + 1)).toNatClampNeg).toInt64 (ss_nw d (L + 1) k (j + 1)) (12288 + k * 12288) := by
      rw [e1, ss_ci (by omega), ss_ci (by omega), hx j (by omega), hx (j + 1) (by omega)]
      dsimp only
      rw [if_neg (by omega), if_neg (by omega), ss_nw_s]
      exact ss_IV_L (ss_IV_sub (ss_IV_e _) (ss_IV_mul (ss_IV_n k (by omega)) (ss_IV_e _) (by omega)) (by omega))
    refine br_f (nI_nle (by omega) (by omega)) ⟨?_, vp_in_nI (by omega) (by decide), ss_Xr LV ⟨vp_in_nI (by omega) (by decide), nm_r (e' := upd x (j + 1) (ss_e (ss_nw d (L + 1) k (j + 1)))) (by rw [ss_ci (by omega)]) (nm_r (pk_m1 j) (ih _ (by omega) (ss_A_congr (ss_A_u hx rfl) ?_)))⟩⟩
    · rw [e1]
      exact vp_in_nI (by omega) (by decide)
    · intro i _
      by_cases e : i = j + 1
      · subst e
        rw [ss_us, if_pos (by omega)]
      · rw [ss_un e]
        by_cases g : j < i
        · rw [if_pos g, if_pos (by omega)]
        · rw [if_neg g, if_neg (by omega)]
theorem ss_en_result_lp {post : SX → Prop} {d : Nat → ss_F} {c le ri ot sl lp rp lW rW pt lL rL pL : Nat → Int32} (hp : ss_A pt d 63) (h : ∀ x, ss_A x (ss_nw d 63 0) 32 → post (c, le, ri, x, ot, sl, lp, rp, lW, rW, pt, lL, rL, pL)) : ∀ K x z, K ≤ 63 → z = ss_m K → ss_A x (ss_nw d (63 - K) K) 32 → wX_expandNewton__result_21 post (K + 1) z c le ri x ot sl lp rp lW rW pt lL rL pL := by
  intro K
  induction K with
  | zero =>
    intro x z _ hz hx
    subst hz
    exact br_t (by decide) (h x hx)
  | succ k ih =>
    intro x z hk hz hx
    subst hz
    rw [ss_m_s]
    refine br_f (nI_pos (by omega)) ⟨32, ss_en_result_in (L := 63 - (k + 1)) (by omega) hp (fun x' hx' => ih x' _ (by omega) rfl ?_) 31 x (by decide) (ss_A_congr hx (fun i hi => (if_neg (by omega)).symm))⟩
    rw [show 63 - k = 63 - (k + 1) + 1 from by omega]
    exact hx'
theorem ss_en_result_z {post : SX → Prop} {d : Nat → ss_F} {c le ri ot sl lp rp lW rW pt lL rL pL : Nat → Int32} (hp : ss_A pt d 63) (h : ∀ x, ss_A x (ss_nw d 63 0) 32 → post (c, le, ri, x, ot, sl, lp, rp, lW, rW, pt, lL, rL, pL)) : ∀ e i x, i + e = 32 → ss_A x (fun _ => 0) i → wX_expandNewton__result_2 post (e + 1) (nI i) c le ri x ot sl lp rp lW rW pt lL rL pL := by
  intro e
  induction e with
  | zero =>
    intro i x hi hx
    have : i = 32 := by omega
    subst this
    exact br_t (by decide) ⟨64, ss_en_result_lp hp h 63 x 62 (Nat.le_refl 63) (by decide) (ss_A_congr hx (fun j _ => rfl))⟩
  | succ e ih =>
    intro i x hi hx
    exact br_f (nI_ge (b := 32) (by omega) (by decide)) ⟨vp_in_nI (by omega) (by decide), nm_r (e' := upd x i 0) (by rw [ss_ci (by omega)]) (nm_r (nI_1 i) (ih (i + 1) _ (by omega) (ss_A_s hx ss_e0.symm)))⟩
theorem ss_en_result {post : SX → Prop} {d : Nat → ss_F} {c le ri re ot sl lp rp lW rW pt lL rL pL : Nat → Int32} (hp : ss_A pt d 63) (h : ∀ x, ss_A x (ss_nw d 63 0) 32 → post (c, le, ri, x, ot, sl, lp, rp, lW, rW, pt, lL, rL, pL)) : wpX_expandNewton__result post (c, le, ri, re, ot, sl, lp, rp, lW, rW, pt, lL, rL, pL) := ⟨33, ss_en_result_z hp h 32 0 re rfl (ss_A_0 _ _)⟩
theorem ss_E3_result_lp {post : SX → Prop} {l r d : Nat → ss_F} {c le ri re ot sl lp rp lW rW lL rL pL : Nat → Int32} (hl : ss_A le l 32) (hr : ss_A ri r 32) (hv : ∀ x, ss_v 32 l (ss_n x) * ss_v 32 r (ss_n x) = ss_dv d 0 x) (hd : ∀ n, n < 32 → ss_nw d 63 0 n = ss_c l r n) (h : ∀ x y, ss_A x (ss_c l r) 32 → post (c, le, ri, x, ot, sl, lp, rp, lW, rW, y, lL, rL, pL)) : ∀ e n y, n + e = 63 → ss_A y (ss_dv d 0) n → wX_multiplyByPoints__result_2 post (e + 1) (nI n) c le ri re ot sl lp rp lW rW y lL rL pL := by
  intro e
  induction e with
  | zero =>
    intro n y hn hy
    have : n = 63 := by omega
    subst this
    exact br_t (by decide) (ss_dd hy (fun y' hy' => ss_en_result hy' (fun x hx => h x y' (ss_A_congr hx hd))))
  | succ e ih =>
    intro n y hn hy
    have e3 : nI n = ss_e (ss_n n) := ss_ne (by omega)
    have gl : ∀ P : Int32 → Prop, P (ss_e (ss_v 32 l (ss_n n))) → wpX_valueAt__left P (c, le, ri, re, ot, sl, lp, rp, lW, rW, y, lL, rL, pL) (nI n) := fun P hP => by rw [e3]; exact ss_va_left hl hP
    have gr : ∀ P : Int32 → Prop, P (ss_e (ss_v 32 r (ss_n n))) → wpX_valueAt__right P (c, le, ri, re, ot, sl, lp, rp, lW, rW, y, lL, rL, pL) (nI n) := fun P hP => by rw [e3]; exact ss_va_right hr hP
    refine br_f (nI_ge (b := 63) (by omega) (by decide)) (gl _ (gr _ ⟨ss_pI, vp_in_nI (by omega) (by decide), nm_r (e' := upd y n (ss_e (ss_dv d 0 n))) ?_ (nm_r (nI_1 n) (ih (n + 1) _ (by omega) (ss_A_s hy rfl)))⟩))
    rw [ss_ci (by omega), ← hv n]
    exact congrArg (upd y n) (ss_NV_rem (ss_NV_mul (ss_NV_e _) (ss_NV_e _)))
theorem ss_E3_result {post : SX → Prop} {l r : Nat → ss_F} {c le ri re ot sl lp rp lW rW pt lL rL pL : Nat → Int32} (hl : ss_A le l 32) (hr : ss_A ri r 32) (h : ∀ x y, ss_A x (ss_c l r) 32 → post (c, le, ri, x, ot, sl, lp, rp, lW, rW, y, lL, rL, pL)) : wpX_multiplyByPoints__result post (c, le, ri, re, ot, sl, lp, rp, lW, rW, pt, lL, rL, pL) := by
  obtain ⟨d, hv, hd⟩ := ss_newton l r
  exact ⟨64, ss_E3_result_lp hl hr hv hd h 63 0 pt rfl (ss_A_0 _ _)⟩
theorem ss_en_otherResult_in {post : SX → Prop} {J : Int32 → (Nat → Int32) → (Nat → Int32) → (Nat → Int32) → (Nat → Int32) → (Nat → Int32) → (Nat → Int32) → (Nat → Int32) → (Nat → Int32) → (Nat → Int32) → (Nat → Int32) → (Nat → Int32) → (Nat → Int32) → (Nat → Int32) → (Nat → Int32) → Prop} {d : Nat → ss_F} {c le ri re sl lp rp lW rW pt lL rL pL : Nat → Int32} {L k : Nat} (hk : k < 63) (hp : ss_A pt d 63) (h : ∀ x, ss_A x (ss_nw d (L + 1) k) 32 → J (ss_m k) c le ri re x sl lp rp lW rW pt lL rL pL) : ∀ j x, j < 32 → ss_A x (fun i => if j < i then ss_nw d (L + 1) k i else ss_nw d L (k + 1) i) 32 → wX_expandNewton__otherResult_28 post J (nI k) (j + 1) (nI j) c le ri re x sl lp rp lW rW pt lL rL pL := by
  intro j
  induction j with
  | zero =>
    intro x _ hx
    have LV : ss_LV (pt (nI k).toNatClampNeg - nI k * x 0).toInt64 (ss_nw d (L + 1) k 0) (12288 + k * 12288) := by
      rw [ss_ci (by omega), hp k hk, hx 0 (by decide)]
      dsimp only
      rw [if_neg (Nat.lt_irrefl 0), ss_nw_0]
      exact ss_IV_L (ss_IV_sub (ss_IV_e _) (ss_IV_mul (ss_IV_n k (by omega)) (ss_IV_e _) (by omega)) (by omega))
    refine br_t (by decide) ⟨vp_in_nI hk (by decide), ss_Xr LV (nm_e (nm_e (h _ (ss_A_congr (ss_A_u hx rfl) ?_))))⟩
    intro i _
    by_cases e : i = 0
    · subst e
      exact ss_us _ _ _
    · rw [ss_un e, if_pos (by omega)]
  | succ j ih =>
    intro x hj hx
    have e1 : nI (j + 1) - 1 = nI j := nI_pred j
    have LV : ss_LV (x (nI (j + 1) - 1).toNatClampNeg - nI k * x (nI (j + 1)).toNatClampNeg).toInt64 (ss_nw d (L + 1) k (j + 1)) (12288 + k * 12288) := by
      rw [e1, ss_ci (by omega), ss_ci (by omega), hx j (by omega), hx (j + 1) (by omega)]
      dsimp only
      rw [if_neg (by omega), if_neg (by omega), ss_nw_s]
      exact ss_IV_L (ss_IV_sub (ss_IV_e _) (ss_IV_mul (ss_IV_n k (by omega)) (ss_IV_e _) (by omega)) (by omega))
    refine br_f (nI_nle (by omega) (by omega)) ⟨?_, vp_in_nI (by omega) (by decide), ss_Xr LV ⟨vp_in_nI (by omega) (by decide), nm_r (e' := upd x (j + 1) (ss_e (ss_nw d (L + 1) k (j + 1)))) (by rw [ss_ci (by omega)]) (nm_r (pk_m1 j) (ih _ (by omega) (ss_A_congr (ss_A_u hx rfl) ?_)))⟩⟩
    · rw [e1]
      exact vp_in_nI (by omega) (by decide)
    · intro i _
      by_cases e : i = j + 1
      · subst e
        rw [ss_us, if_pos (by omega)]
      · rw [ss_un e]
        by_cases g : j < i
        · rw [if_pos g, if_pos (by omega)]
        · rw [if_neg g, if_neg (by omega)]
theorem ss_en_otherResult_lp {post : SX → Prop} {d : Nat → ss_F} {c le ri re sl lp rp lW rW pt lL rL pL : Nat → Int32} (hp : ss_A pt d 63) (h : ∀ x, ss_A x (ss_nw d 63 0) 32 → post (c, le, ri, re, x, sl, lp, rp, lW, rW, pt, lL, rL, pL)) : ∀ K x z, K ≤ 63 → z = ss_m K → ss_A x (ss_nw d (63 - K) K) 32 → wX_expandNewton__otherResult_21 post (K + 1) z c le ri re x sl lp rp lW rW pt lL rL pL := by
  intro K
  induction K with
  | zero =>
    intro x z _ hz hx
    subst hz
    exact br_t (by decide) (h x hx)
  | succ k ih =>
    intro x z hk hz hx
    subst hz
    rw [ss_m_s]
    refine br_f (nI_pos (by omega)) ⟨32, ss_en_otherResult_in (L := 63 - (k + 1)) (by omega) hp (fun x' hx' => ih x' _ (by omega) rfl ?_) 31 x (by decide) (ss_A_congr hx (fun i hi => (if_neg (by omega)).symm))⟩
    rw [show 63 - k = 63 - (k + 1) + 1 from by omega]
    exact hx'
theorem ss_en_otherResult_z {post : SX → Prop} {d : Nat → ss_F} {c le ri re sl lp rp lW rW pt lL rL pL : Nat → Int32} (hp : ss_A pt d 63) (h : ∀ x, ss_A x (ss_nw d 63 0) 32 → post (c, le, ri, re, x, sl, lp, rp, lW, rW, pt, lL, rL, pL)) : ∀ e i x, i + e = 32 → ss_A x (fun _ => 0) i → wX_expandNewton__otherResult_2 post (e + 1) (nI i) c le ri re x sl lp rp lW rW pt lL rL pL := by
  intro e
  induction e with
  | zero =>
    intro i x hi hx
    have : i = 32 := by omega
    subst this
    exact br_t (by decide) ⟨64, ss_en_otherResult_lp hp h 63 x 62 (Nat.le_refl 63) (by decide) (ss_A_congr hx (fun j _ => rfl))⟩
  | succ e ih =>
    intro i x hi hx
    exact br_f (nI_ge (b := 32) (by omega) (by decide)) ⟨vp_in_nI (by omega) (by decide), nm_r (e' := upd x i 0) (by rw [ss_ci (by omega)]) (nm_r (nI_1 i) (ih (i + 1) _ (by omega) (ss_A_s hx ss_e0.symm)))⟩
theorem ss_en_otherResult {post : SX → Prop} {d : Nat → ss_F} {c le ri re ot sl lp rp lW rW pt lL rL pL : Nat → Int32} (hp : ss_A pt d 63) (h : ∀ x, ss_A x (ss_nw d 63 0) 32 → post (c, le, ri, re, x, sl, lp, rp, lW, rW, pt, lL, rL, pL)) : wpX_expandNewton__otherResult post (c, le, ri, re, ot, sl, lp, rp, lW, rW, pt, lL, rL, pL) := ⟨33, ss_en_otherResult_z hp h 32 0 ot rfl (ss_A_0 _ _)⟩
theorem ss_E3_otherResult_lp {post : SX → Prop} {l r d : Nat → ss_F} {c le ri re ot sl lp rp lW rW lL rL pL : Nat → Int32} (hl : ss_A le l 32) (hr : ss_A ri r 32) (hv : ∀ x, ss_v 32 l (ss_n x) * ss_v 32 r (ss_n x) = ss_dv d 0 x) (hd : ∀ n, n < 32 → ss_nw d 63 0 n = ss_c l r n) (h : ∀ x y, ss_A x (ss_c l r) 32 → post (c, le, ri, re, x, sl, lp, rp, lW, rW, y, lL, rL, pL)) : ∀ e n y, n + e = 63 → ss_A y (ss_dv d 0) n → wX_multiplyByPoints__otherResult_2 post (e + 1) (nI n) c le ri re ot sl lp rp lW rW y lL rL pL := by
  intro e
  induction e with
  | zero =>
    intro n y hn hy
    have : n = 63 := by omega
    subst this
    exact br_t (by decide) (ss_dd hy (fun y' hy' => ss_en_otherResult hy' (fun x hx => h x y' (ss_A_congr hx hd))))
  | succ e ih =>
    intro n y hn hy
    have e3 : nI n = ss_e (ss_n n) := ss_ne (by omega)
    have gl : ∀ P : Int32 → Prop, P (ss_e (ss_v 32 l (ss_n n))) → wpX_valueAt__left P (c, le, ri, re, ot, sl, lp, rp, lW, rW, y, lL, rL, pL) (nI n) := fun P hP => by rw [e3]; exact ss_va_left hl hP
    have gr : ∀ P : Int32 → Prop, P (ss_e (ss_v 32 r (ss_n n))) → wpX_valueAt__right P (c, le, ri, re, ot, sl, lp, rp, lW, rW, y, lL, rL, pL) (nI n) := fun P hP => by rw [e3]; exact ss_va_right hr hP
    refine br_f (nI_ge (b := 63) (by omega) (by decide)) (gl _ (gr _ ⟨ss_pI, vp_in_nI (by omega) (by decide), nm_r (e' := upd y n (ss_e (ss_dv d 0 n))) ?_ (nm_r (nI_1 n) (ih (n + 1) _ (by omega) (ss_A_s hy rfl)))⟩))
    rw [ss_ci (by omega), ← hv n]
    exact congrArg (upd y n) (ss_NV_rem (ss_NV_mul (ss_NV_e _) (ss_NV_e _)))
theorem ss_E3_otherResult {post : SX → Prop} {l r : Nat → ss_F} {c le ri re ot sl lp rp lW rW pt lL rL pL : Nat → Int32} (hl : ss_A le l 32) (hr : ss_A ri r 32) (h : ∀ x y, ss_A x (ss_c l r) 32 → post (c, le, ri, re, x, sl, lp, rp, lW, rW, y, lL, rL, pL)) : wpX_multiplyByPoints__otherResult post (c, le, ri, re, ot, sl, lp, rp, lW, rW, pt, lL, rL, pL) := by
  obtain ⟨d, hv, hd⟩ := ss_newton l r
  exact ⟨64, ss_E3_otherResult_lp hl hr hv hd h 63 0 pt rfl (ss_A_0 _ _)⟩
end
section
/-! the transform -/
theorem ss_NV_sb (a b : ss_F) : ss_NV (ss_e a - ss_e b + 12289) (a - b) 24577 := by
  have ha := a.isLt
  have hb := b.isLt
  refine ⟨a.val + (12289 - b.val), ?_, ?_, by omega⟩
  · have e : nI a.val + nI 12289 - nI b.val = nI (a.val + (12289 - b.val)) := by
      rw [nI_add, pk_sub (by omega)]
      congr 1
      omega
    rw [← e]
    show nI a.val - nI b.val + nI 12289 = nI a.val + nI 12289 - nI b.val
    grind
  · rw [ss_n_add, ss_n_of]
    have e : ss_n (12289 - b.val) + b = 0 := by
      have k := ss_n_add (12289 - b.val) b.val
      rw [ss_n_of, show 12289 - b.val + b.val = 12289 from by omega] at k
      rw [← k]
      decide +kernel
    generalize ss_n (12289 - b.val) = x at e
    grobner
theorem ss_wd_left_leftWide_lp {post : SX → Prop} {l : Nat → ss_F} {c le ri re ot sl lp rp rW pt lL rL pL : Nat → Int32} (hl : ss_A le l 32) (h : ∀ y, ss_A y (ss_k l) 64 → post (c, le, ri, re, ot, sl, lp, rp, y, rW, pt, lL, rL, pL)) : ∀ d n y, n + d = 32 → (∀ j, j < n ∨ (32 ≤ j ∧ j < 32 + n) → y j = ss_e (ss_k l j)) → wX_widen__left_leftWide_2 post (d + 1) (nI n) c le ri re ot sl lp rp y rW pt lL rL pL := by
  intro d
  induction d with
  | zero =>
    intro n y hn hy
    have : n = 32 := by omega
    subst this
    exact br_t (by decide) (h y (fun j hj => hy j (by omega)))
  | succ d ih =>
    intro n y hn hy
    have e1 : nI n + 32 = nI (n + 32) := nI_add n 32
    refine br_f (nI_ge (b := 32) (by omega) (by decide)) ⟨vp_in_nI (by omega) (by decide), vp_in_nI (by omega) (by decide), nm_r (e' := upd y n (ss_e (l n))) (by rw [ss_ci (by omega), hl n (by omega)]) ⟨?_, nm_r (e' := upd (upd y n (ss_e (l n))) (n + 32) 0) (by rw [e1, ss_ci (by omega)]) (nm_r (nI_1 n) (ih (n + 1) _ (by omega) ?_))⟩⟩
    · rw [e1]
      exact vp_in_nI (by omega) (by decide)
    · intro j hj
      by_cases c1 : j = n + 32
      · subst c1
        rw [pk_us, ss_k_ge (by omega), ss_e0]
      · rw [pk_un c1]
        by_cases c2 : j = n
        · subst c2
          rw [pk_us, ss_k_lt (by omega)]
        · rw [pk_un c2]
          exact hy j (by omega)
theorem ss_wd_left_leftWide {post : SX → Prop} {l : Nat → ss_F} {c le ri re ot sl lp rp lW rW pt lL rL pL : Nat → Int32} (hl : ss_A le l 32) (h : ∀ y, ss_A y (ss_k l) 64 → post (c, le, ri, re, ot, sl, lp, rp, y, rW, pt, lL, rL, pL)) : wpX_widen__left_leftWide post (c, le, ri, re, ot, sl, lp, rp, lW, rW, pt, lL, rL, pL) := ⟨33, ss_wd_left_leftWide_lp hl h 32 0 lW rfl (fun j hj => absurd hj (by omega))⟩
theorem ss_wd_right_rightWide_lp {post : SX → Prop} {l : Nat → ss_F} {c le ri re ot sl lp rp lW pt lL rL pL : Nat → Int32} (hl : ss_A ri l 32) (h : ∀ y, ss_A y (ss_k l) 64 → post (c, le, ri, re, ot, sl, lp, rp, lW, y, pt, lL, rL, pL)) : ∀ d n y, n + d = 32 → (∀ j, j < n ∨ (32 ≤ j ∧ j < 32 + n) → y j = ss_e (ss_k l j)) → wX_widen__right_rightWide_2 post (d + 1) (nI n) c le ri re ot sl lp rp lW y pt lL rL pL := by
  intro d
  induction d with
  | zero =>
    intro n y hn hy
    have : n = 32 := by omega
    subst this
    exact br_t (by decide) (h y (fun j hj => hy j (by omega)))
  | succ d ih =>
    intro n y hn hy
    have e1 : nI n + 32 = nI (n + 32) := nI_add n 32
    refine br_f (nI_ge (b := 32) (by omega) (by decide)) ⟨vp_in_nI (by omega) (by decide), vp_in_nI (by omega) (by decide), nm_r (e' := upd y n (ss_e (l n))) (by rw [ss_ci (by omega), hl n (by omega)]) ⟨?_, nm_r (e' := upd (upd y n (ss_e (l n))) (n + 32) 0) (by rw [e1, ss_ci (by omega)]) (nm_r (nI_1 n) (ih (n + 1) _ (by omega) ?_))⟩⟩
    · rw [e1]
      exact vp_in_nI (by omega) (by decide)
    · intro j hj
      by_cases c1 : j = n + 32
      · subst c1
        rw [pk_us, ss_k_ge (by omega), ss_e0]
      · rw [pk_un c1]
        by_cases c2 : j = n
        · subst c2
          rw [pk_us, ss_k_lt (by omega)]
        · rw [pk_un c2]
          exact hy j (by omega)
theorem ss_wd_right_rightWide {post : SX → Prop} {l : Nat → ss_F} {c le ri re ot sl lp rp lW rW pt lL rL pL : Nat → Int32} (hl : ss_A ri l 32) (h : ∀ y, ss_A y (ss_k l) 64 → post (c, le, ri, re, ot, sl, lp, rp, lW, y, pt, lL, rL, pL)) : wpX_widen__right_rightWide post (c, le, ri, re, ot, sl, lp, rp, lW, rW, pt, lL, rL, pL) := ⟨33, ss_wd_right_rightWide_lp hl h 32 0 rW rfl (fun j hj => absurd hj (by omega))⟩
/-- a level under way: the block that begins at st has q pairs done, those ahead of it are done -/
def ss_mp (st h q : Nat) (f g : Nat → ss_F) : Nat → ss_F := fun j => if j < st + q ∨ (st + h ≤ j ∧ j < st + h + q) then f j else g j
theorem ss_mp_s {y : Nat → Int32} {st h q : Nat} {f g : Nat → ss_F} {u v : Int32} (hy : ss_A y (ss_mp st h q f g) 64) (hq : q < h) (hu : u = ss_e (f (st + q))) (hv : v = ss_e (f (st + q + h))) : ss_A (upd (upd y (st + q) u) (st + q + h) v) (ss_mp st h (q + 1) f g) 64 := by
  intro j hj
  by_cases c1 : j = st + q + h
  · subst c1
    rw [pk_us, hv]
    exact congrArg ss_e (if_pos (by omega)).symm
  · rw [pk_un c1]
    by_cases c2 : j = st + q
    · subst c2
      rw [pk_us, hu]
      exact congrArg ss_e (if_pos (by omega)).symm
    · rw [pk_un c2, hy j hj]
      unfold ss_mp
      by_cases c3 : j < st + q ∨ (st + h ≤ j ∧ j < st + h + q)
      · rw [if_pos c3, if_pos (by omega)]
      · rw [if_neg c3, if_neg (by omega)]
theorem ss_mp_e (st h : Nat) (f g : Nat → ss_F) (j : Nat) : ss_mp st h h f g j = ss_mp (st + 2 * h) h 0 f g j := by
  unfold ss_mp
  by_cases c : j < st + 2 * h
  · rw [if_pos (by omega), if_pos (by omega)]
  · rw [if_neg (by omega), if_neg (by omega)]
theorem ss_mp_0 (h : Nat) (f g : Nat → ss_F) (j : Nat) : ss_mp 0 h 0 f g j = g j := if_neg (by omega)
theorem ss_mp_64 (h : Nat) (f g : Nat → ss_F) {j : Nat} (hj : j < 64) : ss_mp 64 h 0 f g j = f j := if_pos (by omega)
theorem ss_mp_lo {st h q : Nat} {f g : Nat → ss_F} (hq : q < h) : ss_mp st h q f g (st + q) = g (st + q) := if_neg (by omega)
theorem ss_mp_hi {st h q : Nat} {f g : Nat → ss_F} (hq : q < h) : ss_mp st h q f g (st + q + h) = g (st + q + h) := if_neg (by omega)
theorem ss_md {h : Nat} (hh : ss_H h) {st q : Nat} (hst : st % (2 * h) = 0) (hq : q < h) : (st + q) % (2 * h) = q ∧ (st + q + h) % (2 * h) = q + h := by
  rcases hh with rfl | rfl | rfl | rfl | rfl | rfl <;> omega
theorem ss_pt_lo {h : Nat} (hh : ss_H h) {st q : Nat} (hst : st % (2 * h) = 0) (hq : q < h) (ρ : ss_F) (A : Nat → ss_F) : ss_pt h ρ A (st + q) = A (st + q) + A (st + q + h) := by
  unfold ss_pt
  rw [(ss_md hh hst hq).1, if_pos hq]
theorem ss_pt_hi {h : Nat} (hh : ss_H h) {st q : Nat} (hst : st % (2 * h) = 0) (hq : q < h) (ρ : ss_F) (A : Nat → ss_F) : ss_pt h ρ A (st + q + h) = (A (st + q) - A (st + q + h)) * ss_p ρ q := by
  unfold ss_pt
  rw [(ss_md hh hst hq).2, if_neg (by omega), Nat.add_sub_cancel, Nat.add_sub_cancel]
theorem ss_jn_lo {h : Nat} (hh : ss_H h) {st q : Nat} (hst : st % (2 * h) = 0) (hq : q < h) (ρ : ss_F) (A : Nat → ss_F) : ss_jn h ρ A (st + q) = A (st + q) + A (st + q + h) * ss_p ρ q := by
  unfold ss_jn
  rw [(ss_md hh hst hq).1, if_pos hq]
theorem ss_jn_hi {h : Nat} (hh : ss_H h) {st q : Nat} (hst : st % (2 * h) = 0) (hq : q < h) (ρ : ss_F) (A : Nat → ss_F) : ss_jn h ρ A (st + q + h) = A (st + q) - A (st + q + h) * ss_p ρ q := by
  unfold ss_jn
  rw [(ss_md hh hst hq).2, if_neg (by omega), Nat.add_sub_cancel, Nat.add_sub_cancel]
theorem ss_H32 {h : Nat} (hh : ss_H h) : h ≤ 32 := by
  rcases hh with rfl | rfl | rfl | rfl | rfl | rfl <;> omega
theorem ss_bk1 : ∀ L, L < 6 → (1 : Int32) <<< (nI L &&& 31) = nI (2 ^ L) := by decide
theorem ss_bk2 : ∀ L, L < 6 → (32 : Int32) >>> (nI L &&& 31) = nI (32 / 2 ^ L) := by decide
theorem ss_bkH : ∀ L, L < 6 → ss_H (32 / 2 ^ L) := by unfold ss_H; decide
theorem ss_bk64 : ∀ L, L < 6 → 2 ^ L * (2 * (32 / 2 ^ L)) = 64 := by decide
theorem ss_bkp : ∀ L, L < 6 → 2 ^ L ≤ 32 := by decide
theorem ss_st2 (b h : Nat) : nI b * 2 * nI h = nI (b * (2 * h)) := by
  rw [show (2 : Int32) = nI 2 from rfl, pk_mul, pk_mul, Nat.mul_assoc]
theorem ss_ph_leftWide_lp {post : SX → Prop} {A : Nat → ss_F} {h st : Nat} {ρ : ss_F} (hh : ss_H h) (hst : st % (2 * h) = 0) (hb : st + 2 * h ≤ 64) {c le ri re ot sl lp rp rW pt lL rL pL : Nat → Int32} (P : ∀ y, ss_A y (ss_mp (st + 2 * h) h 0 (ss_pt h ρ A) A) 64 → post (c, le, ri, re, ot, sl, lp, rp, y, rW, pt, lL, rL, pL)) : ∀ d q y, q + d = h → ss_A y (ss_mp st h q (ss_pt h ρ A) A) 64 → wX_partHalves__leftWide_6 post (nI st) (nI h) (ss_e ρ) (d + 1) (ss_e (ss_p ρ q)) (nI (st + q)) c le ri re ot sl lp rp y rW pt lL rL pL := by
  have h32 := ss_H32 hh
  intro d
  induction d with
  | zero =>
    intro q y hq hy
    have : q = h := by omega
    subst this
    exact br_t (by rw [nI_add]; exact nI_le (Nat.le_refl _) (by omega)) (P y (ss_A_congr hy (fun j _ => ss_mp_e st q _ _ j)))
  | succ d ih =>
    intro q y hq hy
    have hq' : q < h := by omega
    have e1 : nI (st + q) + nI h = nI (st + q + h) := nI_add _ _
    have i1 : vp_in (nI (st + q)) 64 := vp_in_nI (by omega) (by decide)
    have i2 : vp_in (nI (st + q) + nI h) 64 := by rw [e1]; exact vp_in_nI (by omega) (by decide)
    have v1 : y (nI (st + q)).toNatClampNeg = ss_e (A (st + q)) := by rw [ss_ci (by omega), hy _ (by omega), ss_mp_lo hq']
    have v2 : y (nI (st + q) + nI h).toNatClampNeg = ss_e (A (st + q + h)) := by rw [e1, ss_ci (by omega), hy _ (by omega), ss_mp_hi hq']
    refine br_f (by rw [nI_add]; exact nI_ge (by omega) (by omega)) ⟨i1, i2, nm_r (e' := ss_e (A (st + q)) + ss_e (A (st + q + h))) (by rw [v1, v2]) ⟨i1, i2, nm_r (e' := ss_e (A (st + q)) - ss_e (A (st + q + h)) + 12289) (by rw [v1, v2]) ⟨ss_pI, i1, nm_r (e' := upd y (st + q) (ss_e (ss_pt h ρ A (st + q)))) ?_ ⟨ss_pI, i2, nm_r (e' := upd (upd y (st + q) (ss_e (ss_pt h ρ A (st + q)))) (st + q + h) (ss_e (ss_pt h ρ A (st + q + h)))) ?_ ⟨ss_pI, nm_r (ss_NV_rem (ss_NV_mul (ss_NV_e (ss_p ρ q)) (ss_NV_e ρ))) (nm_r (nI_1 (st + q)) (ih (q + 1) _ (by omega) (ss_mp_s hy hq' rfl rfl)))⟩⟩⟩⟩⟩
    · rw [ss_ci (by omega), ss_pt_lo hh hst hq']
      exact congrArg (upd y (st + q)) (ss_NV_rem (ss_NV_add (ss_NV_e _) (ss_NV_e _)))
    · rw [e1, ss_ci (by omega), ss_pt_hi hh hst hq']
      exact congrArg (upd _ (st + q + h)) (ss_NV_rem (ss_NV_mul (ss_NV_sb _ _) (ss_NV_e _)))
theorem ss_ph_leftWide {post : SX → Prop} {A : Nat → ss_F} {h st : Nat} {ρ : ss_F} (hh : ss_H h) (hst : st % (2 * h) = 0) (hb : st + 2 * h ≤ 64) {c le ri re ot sl lp rp lW rW pt lL rL pL : Nat → Int32} (hy : ss_A lW (ss_mp st h 0 (ss_pt h ρ A) A) 64) (P : ∀ y, ss_A y (ss_mp (st + 2 * h) h 0 (ss_pt h ρ A) A) 64 → post (c, le, ri, re, ot, sl, lp, rp, y, rW, pt, lL, rL, pL)) : wpX_partHalves__leftWide post (c, le, ri, re, ot, sl, lp, rp, lW, rW, pt, lL, rL, pL) (nI st) (nI h) (ss_e ρ) := by
  have k := ss_ph_leftWide_lp hh hst hb P h 0 lW (by omega) hy
  exact ⟨h + 1, k⟩
theorem ss_tr_leftWide_in {post : SX → Prop} {J : Int32 → (Nat → Int32) → (Nat → Int32) → (Nat → Int32) → (Nat → Int32) → (Nat → Int32) → (Nat → Int32) → (Nat → Int32) → (Nat → Int32) → (Nat → Int32) → (Nat → Int32) → (Nat → Int32) → (Nat → Int32) → (Nat → Int32) → (Nat → Int32) → Prop} {A : Nat → ss_F} {L h : Nat} {ρ : ss_F} (hL : L < 6) (hh : ss_H h) (h64 : 2 ^ L * (2 * h) = 64) {c le ri re ot sl lp rp rW pt lL rL pL : Nat → Int32} (P : ∀ y, ss_A y (ss_pt h ρ A) 64 → J (nI (L + 1)) c le ri re ot sl lp rp y rW pt lL rL pL) : ∀ d b y, b + d = 2 ^ L → ss_A y (ss_mp (b * (2 * h)) h 0 (ss_pt h ρ A) A) 64 → wX_transform__leftWide_26 post J (nI L) (nI h) (ss_e ρ) (d + 1) (nI b) c le ri re ot sl lp rp y rW pt lL rL pL := by
  have p32 := ss_bkp L hL
  intro d
  induction d with
  | zero =>
    intro b y hb hy
    have : b = 2 ^ L := by omega
    subst this
    rw [h64] at hy
    exact br_t (by rw [ss_bk1 L hL]; exact nI_le (Nat.le_refl _) (by omega)) (nm_r (nI_1 L) (P y (ss_A_congr hy (fun j hj => ss_mp_64 h _ _ hj))))
  | succ d ih =>
    intro b y hb hy
    have m : (b + 1) * (2 * h) ≤ 2 ^ L * (2 * h) := Nat.mul_le_mul_right _ (by omega)
    rw [h64, Nat.add_mul, Nat.one_mul] at m
    refine br_f (by rw [ss_bk1 L hL]; exact nI_ge (by omega) (by omega)) ?_
    rw [ss_st2]
    refine ss_ph_leftWide hh (Nat.mul_mod_left _ _) m hy (fun y' hy' => nm_r (nI_1 b) (ih (b + 1) y' (by omega) ?_))
    rw [Nat.add_mul, Nat.one_mul]
    exact hy'
theorem ss_tr_leftWide_lp {post : SX → Prop} {A : Nat → ss_F} {c le ri re ot sl lp rp rW pt lL rL pL : Nat → Int32} (P : ∀ y, ss_A y (ss_T A 6) 64 → post (c, le, ri, re, ot, sl, lp, rp, y, rW, pt, lL, rL, pL)) : ∀ d L y, L + d = 6 → ss_A y (ss_T A L) 64 → wX_transform__leftWide_2 post (d + 1) (nI L) c le ri re ot sl lp rp y rW pt lL rL pL := by
  intro d
  induction d with
  | zero =>
    intro L y hL hy
    have : L = 6 := by omega
    subst this
    exact br_t (by decide) (P y hy)
  | succ d ih =>
    intro L y hL hy
    have p32 := ss_bkp L (by omega)
    have gl : ∀ Q : Int32 → Prop, Q (ss_e (ss_p ss_w (2 ^ L))) → wpX_power Q 7311 ((1 : Int32) <<< (nI L &&& 31)) := fun Q hQ => by
      rw [ss_bk1 L (by omega), show (7311 : Int32) = ss_e ss_w from by decide]
      exact ss_Xpow (by omega) hQ
    exact br_f (nI_ge (b := 6) (by omega) (by decide)) (nm_r (ss_bk2 L (by omega)) (gl _ ⟨2 ^ L + 1, ss_tr_leftWide_in (by omega) (ss_bkH L (by omega)) (ss_bk64 L (by omega)) (fun y' hy' => ih (L + 1) y' (by omega) hy') (2 ^ L) 0 y (by omega) (ss_A_congr hy (fun j _ => by rw [Nat.zero_mul, ss_mp_0]))⟩))
theorem ss_tr_leftWide {post : SX → Prop} {A : Nat → ss_F} {c le ri re ot sl lp rp lW rW pt lL rL pL : Nat → Int32} (hy : ss_A lW A 64) (P : ∀ y, ss_A y (ss_T A 6) 64 → post (c, le, ri, re, ot, sl, lp, rp, y, rW, pt, lL, rL, pL)) : wpX_transform__leftWide post (c, le, ri, re, ot, sl, lp, rp, lW, rW, pt, lL, rL, pL) := ⟨7, ss_tr_leftWide_lp P 6 0 lW rfl hy⟩
theorem ss_ph_rightWide_lp {post : SX → Prop} {A : Nat → ss_F} {h st : Nat} {ρ : ss_F} (hh : ss_H h) (hst : st % (2 * h) = 0) (hb : st + 2 * h ≤ 64) {c le ri re ot sl lp rp lW pt lL rL pL : Nat → Int32} (P : ∀ y, ss_A y (ss_mp (st + 2 * h) h 0 (ss_pt h ρ A) A) 64 → post (c, le, ri, re, ot, sl, lp, rp, lW, y, pt, lL, rL, pL)) : ∀ d q y, q + d = h → ss_A y (ss_mp st h q (ss_pt h ρ A) A) 64 → wX_partHalves__rightWide_6 post (nI st) (nI h) (ss_e ρ) (d + 1) (ss_e (ss_p ρ q)) (nI (st + q)) c le ri re ot sl lp rp lW y pt lL rL pL := by
  have h32 := ss_H32 hh
  intro d
  induction d with
  | zero =>
    intro q y hq hy
    have : q = h := by omega
    subst this
    exact br_t (by rw [nI_add]; exact nI_le (Nat.le_refl _) (by omega)) (P y (ss_A_congr hy (fun j _ => ss_mp_e st q _ _ j)))
  | succ d ih =>
    intro q y hq hy
    have hq' : q < h := by omega
    have e1 : nI (st + q) + nI h = nI (st + q + h) := nI_add _ _
    have i1 : vp_in (nI (st + q)) 64 := vp_in_nI (by omega) (by decide)
    have i2 : vp_in (nI (st + q) + nI h) 64 := by rw [e1]; exact vp_in_nI (by omega) (by decide)
    have v1 : y (nI (st + q)).toNatClampNeg = ss_e (A (st + q)) := by rw [ss_ci (by omega), hy _ (by omega), ss_mp_lo hq']
    have v2 : y (nI (st + q) + nI h).toNatClampNeg = ss_e (A (st + q + h)) := by rw [e1, ss_ci (by omega), hy _ (by omega), ss_mp_hi hq']
    refine br_f (by rw [nI_add]; exact nI_ge (by omega) (by omega)) ⟨i1, i2, nm_r (e' := ss_e (A (st + q)) + ss_e (A (st + q + h))) (by rw [v1, v2]) ⟨i1, i2, nm_r (e' := ss_e (A (st + q)) - ss_e (A (st + q + h)) + 12289) (by rw [v1, v2]) ⟨ss_pI, i1, nm_r (e' := upd y (st + q) (ss_e (ss_pt h ρ A (st + q)))) ?_ ⟨ss_pI, i2, nm_r (e' := upd (upd y (st + q) (ss_e (ss_pt h ρ A (st + q)))) (st + q + h) (ss_e (ss_pt h ρ A (st + q + h)))) ?_ ⟨ss_pI, nm_r (ss_NV_rem (ss_NV_mul (ss_NV_e (ss_p ρ q)) (ss_NV_e ρ))) (nm_r (nI_1 (st + q)) (ih (q + 1) _ (by omega) (ss_mp_s hy hq' rfl rfl)))⟩⟩⟩⟩⟩
    · rw [ss_ci (by omega), ss_pt_lo hh hst hq']
      exact congrArg (upd y (st + q)) (ss_NV_rem (ss_NV_add (ss_NV_e _) (ss_NV_e _)))
    · rw [e1, ss_ci (by omega), ss_pt_hi hh hst hq']
      exact congrArg (upd _ (st + q + h)) (ss_NV_rem (ss_NV_mul (ss_NV_sb _ _) (ss_NV_e _)))
theorem ss_ph_rightWide {post : SX → Prop} {A : Nat → ss_F} {h st : Nat} {ρ : ss_F} (hh : ss_H h) (hst : st % (2 * h) = 0) (hb : st + 2 * h ≤ 64) {c le ri re ot sl lp rp lW rW pt lL rL pL : Nat → Int32} (hy : ss_A rW (ss_mp st h 0 (ss_pt h ρ A) A) 64) (P : ∀ y, ss_A y (ss_mp (st + 2 * h) h 0 (ss_pt h ρ A) A) 64 → post (c, le, ri, re, ot, sl, lp, rp, lW, y, pt, lL, rL, pL)) : wpX_partHalves__rightWide post (c, le, ri, re, ot, sl, lp, rp, lW, rW, pt, lL, rL, pL) (nI st) (nI h) (ss_e ρ) := by
  have k := ss_ph_rightWide_lp hh hst hb P h 0 rW (by omega) hy
  exact ⟨h + 1, k⟩
theorem ss_tr_rightWide_in {post : SX → Prop} {J : Int32 → (Nat → Int32) → (Nat → Int32) → (Nat → Int32) → (Nat → Int32) → (Nat → Int32) → (Nat → Int32) → (Nat → Int32) → (Nat → Int32) → (Nat → Int32) → (Nat → Int32) → (Nat → Int32) → (Nat → Int32) → (Nat → Int32) → (Nat → Int32) → Prop} {A : Nat → ss_F} {L h : Nat} {ρ : ss_F} (hL : L < 6) (hh : ss_H h) (h64 : 2 ^ L * (2 * h) = 64) {c le ri re ot sl lp rp lW pt lL rL pL : Nat → Int32} (P : ∀ y, ss_A y (ss_pt h ρ A) 64 → J (nI (L + 1)) c le ri re ot sl lp rp lW y pt lL rL pL) : ∀ d b y, b + d = 2 ^ L → ss_A y (ss_mp (b * (2 * h)) h 0 (ss_pt h ρ A) A) 64 → wX_transform__rightWide_26 post J (nI L) (nI h) (ss_e ρ) (d + 1) (nI b) c le ri re ot sl lp rp lW y pt lL rL pL := by
  have p32 := ss_bkp L hL
  intro d
  induction d with
  | zero =>
    intro b y hb hy
    have : b = 2 ^ L := by omega
    subst this
    rw [h64] at hy
    exact br_t (by rw [ss_bk1 L hL]; exact nI_le (Nat.le_refl _) (by omega)) (nm_r (nI_1 L) (P y (ss_A_congr hy (fun j hj => ss_mp_64 h _ _ hj))))
  | succ d ih =>
    intro b y hb hy
    have m : (b + 1) * (2 * h) ≤ 2 ^ L * (2 * h) := Nat.mul_le_mul_right _ (by omega)
    rw [h64, Nat.add_mul, Nat.one_mul] at m
    refine br_f (by rw [ss_bk1 L hL]; exact nI_ge (by omega) (by omega)) ?_
    rw [ss_st2]
    refine ss_ph_rightWide hh (Nat.mul_mod_left _ _) m hy (fun y' hy' => nm_r (nI_1 b) (ih (b + 1) y' (by omega) ?_))
    rw [Nat.add_mul, Nat.one_mul]
    exact hy'
theorem ss_tr_rightWide_lp {post : SX → Prop} {A : Nat → ss_F} {c le ri re ot sl lp rp lW pt lL rL pL : Nat → Int32} (P : ∀ y, ss_A y (ss_T A 6) 64 → post (c, le, ri, re, ot, sl, lp, rp, lW, y, pt, lL, rL, pL)) : ∀ d L y, L + d = 6 → ss_A y (ss_T A L) 64 → wX_transform__rightWide_2 post (d + 1) (nI L) c le ri re ot sl lp rp lW y pt lL rL pL := by
  intro d
  induction d with
  | zero =>
    intro L y hL hy
    have : L = 6 := by omega
    subst this
    exact br_t (by decide) (P y hy)
  | succ d ih =>
    intro L y hL hy
    have p32 := ss_bkp L (by omega)
    have gl : ∀ Q : Int32 → Prop, Q (ss_e (ss_p ss_w (2 ^ L))) → wpX_power Q 7311 ((1 : Int32) <<< (nI L &&& 31)) := fun Q hQ => by
      rw [ss_bk1 L (by omega), show (7311 : Int32) = ss_e ss_w from by decide]
      exact ss_Xpow (by omega) hQ
    exact br_f (nI_ge (b := 6) (by omega) (by decide)) (nm_r (ss_bk2 L (by omega)) (gl _ ⟨2 ^ L + 1, ss_tr_rightWide_in (by omega) (ss_bkH L (by omega)) (ss_bk64 L (by omega)) (fun y' hy' => ih (L + 1) y' (by omega) hy') (2 ^ L) 0 y (by omega) (ss_A_congr hy (fun j _ => by rw [Nat.zero_mul, ss_mp_0]))⟩))
theorem ss_tr_rightWide {post : SX → Prop} {A : Nat → ss_F} {c le ri re ot sl lp rp lW rW pt lL rL pL : Nat → Int32} (hy : ss_A rW A 64) (P : ∀ y, ss_A y (ss_T A 6) 64 → post (c, le, ri, re, ot, sl, lp, rp, lW, y, pt, lL, rL, pL)) : wpX_transform__rightWide post (c, le, ri, re, ot, sl, lp, rp, lW, rW, pt, lL, rL, pL) := ⟨7, ss_tr_rightWide_lp P 6 0 rW rfl hy⟩
end
section
/-! the way back, and the product by the transform -/
theorem ss_jh_lp {post : SX → Prop} {A : Nat → ss_F} {h st : Nat} {ρ : ss_F} (hh : ss_H h) (hst : st % (2 * h) = 0) (hb : st + 2 * h ≤ 64) {c le ri re ot sl lp rp rW pt lL rL pL : Nat → Int32} (P : ∀ y, ss_A y (ss_mp (st + 2 * h) h 0 (ss_jn h ρ A) A) 64 → post (c, le, ri, re, ot, sl, lp, rp, y, rW, pt, lL, rL, pL)) : ∀ d q y, q + d = h → ss_A y (ss_mp st h q (ss_jn h ρ A) A) 64 → wX_joinHalves__leftWide_6 post (nI st) (nI h) (ss_e ρ) (d + 1) (ss_e (ss_p ρ q)) (nI (st + q)) c le ri re ot sl lp rp y rW pt lL rL pL := by
  have h32 := ss_H32 hh
  intro d
  induction d with
  | zero =>
    intro q y hq hy
    have : q = h := by omega
    subst this
    exact br_t (by rw [nI_add]; exact nI_le (Nat.le_refl _) (by omega)) (P y (ss_A_congr hy (fun j _ => ss_mp_e st q _ _ j)))
  | succ d ih =>
    intro q y hq hy
    have hq' : q < h := by omega
    have e1 : nI (st + q) + nI h = nI (st + q + h) := nI_add _ _
    have i1 : vp_in (nI (st + q)) 64 := vp_in_nI (by omega) (by decide)
    have i2 : vp_in (nI (st + q) + nI h) 64 := by rw [e1]; exact vp_in_nI (by omega) (by decide)
    have v1 : y (nI (st + q)).toNatClampNeg = ss_e (A (st + q)) := by rw [ss_ci (by omega), hy _ (by omega), ss_mp_lo hq']
    have v2 : y (nI (st + q) + nI h).toNatClampNeg = ss_e (A (st + q + h)) := by rw [e1, ss_ci (by omega), hy _ (by omega), ss_mp_hi hq']
    refine br_f (by rw [nI_add]; exact nI_ge (by omega) (by omega)) ⟨i2, ss_pI, nm_r (e' := ss_e (A (st + q + h) * ss_p ρ q)) (by rw [v2]; exact ss_NV_rem (ss_NV_mul (ss_NV_e _) (ss_NV_e _))) ⟨i1, nm_r (e' := ss_e (A (st + q)) - ss_e (A (st + q + h) * ss_p ρ q) + 12289) (by rw [v1]) ⟨i1, ss_pI, i1, nm_r (e' := upd y (st + q) (ss_e (ss_jn h ρ A (st + q)))) ?_ ⟨ss_pI, i2, nm_r (e' := upd (upd y (st + q) (ss_e (ss_jn h ρ A (st + q)))) (st + q + h) (ss_e (ss_jn h ρ A (st + q + h)))) ?_ ⟨ss_pI, nm_r (ss_NV_rem (ss_NV_mul (ss_NV_e (ss_p ρ q)) (ss_NV_e ρ))) (nm_r (nI_1 (st + q)) (ih (q + 1) _ (by omega) (ss_mp_s hy hq' rfl rfl)))⟩⟩⟩⟩⟩
    · rw [v1, ss_ci (by omega), ss_jn_lo hh hst hq']
      exact congrArg (upd y (st + q)) (ss_NV_rem (ss_NV_add (ss_NV_e _) (ss_NV_e _)))
    · rw [e1, ss_ci (by omega), ss_jn_hi hh hst hq']
      exact congrArg (upd _ (st + q + h)) (ss_NV_rem (ss_NV_sb _ _))
theorem ss_jh {post : SX → Prop} {A : Nat → ss_F} {h st : Nat} {ρ : ss_F} (hh : ss_H h) (hst : st % (2 * h) = 0) (hb : st + 2 * h ≤ 64) {c le ri re ot sl lp rp lW rW pt lL rL pL : Nat → Int32} (hy : ss_A lW (ss_mp st h 0 (ss_jn h ρ A) A) 64) (P : ∀ y, ss_A y (ss_mp (st + 2 * h) h 0 (ss_jn h ρ A) A) 64 → post (c, le, ri, re, ot, sl, lp, rp, y, rW, pt, lL, rL, pL)) : wpX_joinHalves__leftWide post (c, le, ri, re, ot, sl, lp, rp, lW, rW, pt, lL, rL, pL) (nI st) (nI h) (ss_e ρ) := by
  have k := ss_jh_lp hh hst hb P h 0 lW (by omega) hy
  exact ⟨h + 1, k⟩
theorem ss_tb_in {post : SX → Prop} {J : Int32 → (Nat → Int32) → (Nat → Int32) → (Nat → Int32) → (Nat → Int32) → (Nat → Int32) → (Nat → Int32) → (Nat → Int32) → (Nat → Int32) → (Nat → Int32) → (Nat → Int32) → (Nat → Int32) → (Nat → Int32) → (Nat → Int32) → (Nat → Int32) → Prop} {A : Nat → ss_F} {L h : Nat} {ρ : ss_F} (hL : L < 6) (hh : ss_H h) (h64 : 2 ^ L * (2 * h) = 64) {c le ri re ot sl lp rp rW pt lL rL pL : Nat → Int32} (P : ∀ y, ss_A y (ss_jn h ρ A) 64 → J (ss_m L) c le ri re ot sl lp rp y rW pt lL rL pL) : ∀ d b y, b + d = 2 ^ L → ss_A y (ss_mp (b * (2 * h)) h 0 (ss_jn h ρ A) A) 64 → wX_transformBack__leftWide_24 post J (nI L) (nI h) (ss_e ρ) (d + 1) (nI b) c le ri re ot sl lp rp y rW pt lL rL pL := by
  have p32 := ss_bkp L hL
  intro d
  induction d with
  | zero =>
    intro b y hb hy
    have : b = 2 ^ L := by omega
    subst this
    rw [h64] at hy
    exact br_t (by rw [ss_bk1 L hL]; exact nI_le (Nat.le_refl _) (by omega)) (nm_e (P y (ss_A_congr hy (fun j hj => ss_mp_64 h _ _ hj))))
  | succ d ih =>
    intro b y hb hy
    have m : (b + 1) * (2 * h) ≤ 2 ^ L * (2 * h) := Nat.mul_le_mul_right _ (by omega)
    rw [h64, Nat.add_mul, Nat.one_mul] at m
    refine br_f (by rw [ss_bk1 L hL]; exact nI_ge (by omega) (by omega)) ?_
    rw [ss_st2]
    refine ss_jh hh (Nat.mul_mod_left _ _) m hy (fun y' hy' => nm_r (nI_1 b) (ih (b + 1) y' (by omega) ?_))
    rw [Nat.add_mul, Nat.one_mul]
    exact hy'
theorem ss_bks : ∀ k, k < 6 → 32 / 2 ^ k = 2 ^ (5 - k) ∧ 5 - (5 - k) = k ∧ 6 - k = 5 - k + 1 ∧ 6 - (k + 1) = 5 - k := by decide
theorem ss_tb_lp {post : SX → Prop} {A : Nat → ss_F} {c le ri re ot sl lp rp rW pt lL rL pL : Nat → Int32} (P : ∀ y, ss_A y (ss_Bk A 6) 64 → post (c, le, ri, re, ot, sl, lp, rp, y, rW, pt, lL, rL, pL)) : ∀ K y z, K ≤ 6 → z = ss_m K → ss_A y (ss_Bk A (6 - K)) 64 → wX_transformBack__leftWide_2 post (K + 1) z c le ri re ot sl lp rp y rW pt lL rL pL := by
  intro K
  induction K with
  | zero =>
    intro y z _ hz hy
    subst hz
    exact br_t (by decide) (P y hy)
  | succ k ih =>
    intro y z hk hz hy
    subst hz
    rw [ss_m_s]
    have p32 := ss_bkp k (by omega)
    obtain ⟨b1, b2, b3, b4⟩ := ss_bks k (by omega)
    have gl : ∀ Q : Int32 → Prop, Q (ss_e (ss_p ss_wi (2 ^ k))) → wpX_power Q 9650 ((1 : Int32) <<< (nI k &&& 31)) := fun Q hQ => by
      rw [ss_bk1 k (by omega), show (9650 : Int32) = ss_e ss_wi from by decide]
      exact ss_Xpow (by omega) hQ
    rw [b4] at hy
    refine br_f (nI_pos (by omega)) (nm_r (ss_bk2 k (by omega)) (gl _ ⟨2 ^ k + 1, ss_tb_in (A := ss_Bk A (5 - k)) (by omega) (ss_bkH k (by omega)) (ss_bk64 k (by omega)) (fun y' hy' => ih y' _ (by omega) rfl ?_) (2 ^ k) 0 y (by omega) (ss_A_congr hy (fun j _ => by rw [Nat.zero_mul, ss_mp_0]))⟩))
    rw [b3]
    show ss_A y' (ss_jn (2 ^ (5 - k)) (ss_p ss_wi (2 ^ (5 - (5 - k)))) (ss_Bk A (5 - k))) 64
    rw [b2, ← b1]
    exact hy'
theorem ss_tb {post : SX → Prop} {A : Nat → ss_F} {c le ri re ot sl lp rp lW rW pt lL rL pL : Nat → Int32} (hy : ss_A lW A 64) (P : ∀ y, ss_A y (ss_Bk A 6) 64 → post (c, le, ri, re, ot, sl, lp, rp, y, rW, pt, lL, rL, pL)) : wpX_transformBack__leftWide post (c, le, ri, re, ot, sl, lp, rp, lW, rW, pt, lL, rL, pL) := ⟨7, ss_tb_lp P 6 lW 5 (Nat.le_refl 6) (by decide) hy⟩
theorem ss_E2_result_out {post : SX → Prop} {g B : Nat → ss_F} {c le ri ot sl lp rp lW rW pt lL rL pL : Nat → Int32} (hy : ss_A lW B 64) (hB : ∀ n, n < 32 → B n * ss_n 12097 = g n) (h : ∀ x, ss_A x g 32 → post (c, le, ri, x, ot, sl, lp, rp, lW, rW, pt, lL, rL, pL)) : ∀ d n x, n + d = 32 → ss_A x g n → wX_multiplyByTransform__result_82 post (d + 1) (nI n) c le ri x ot sl lp rp lW rW pt lL rL pL := by
  intro d
  induction d with
  | zero =>
    intro n x hn hx
    have : n = 32 := by omega
    subst this
    exact br_t (by decide) (h x hx)
  | succ d ih =>
    intro n x hn hx
    refine br_f (nI_ge (b := 32) (by omega) (by decide)) ⟨vp_in_nI (by omega) (by decide), ss_pI, vp_in_nI (by omega) (by decide), nm_r (e' := upd x n (ss_e (g n))) ?_ (nm_r (nI_1 n) (ih (n + 1) _ (by omega) (ss_A_s hx rfl)))⟩
    rw [ss_ci (by omega), hy n (by omega), ← hB n (by omega)]
    exact congrArg (upd x n) (ss_NV_rem (ss_NV_mul (ss_NV_e _) (ss_NV_n 12097)))
theorem ss_E2_result_lp {post : SX → Prop} {l r : Nat → ss_F} {c le ri re ot sl lp rp rW pt lL rL pL : Nat → Int32} (hr : ss_A rW (ss_T (ss_k r) 6) 64) (h : ∀ x y, ss_A x (ss_c l r) 32 → post (c, le, ri, x, ot, sl, lp, rp, y, rW, pt, lL, rL, pL)) : ∀ d n y, n + d = 64 → ss_A y (fun j => if j < n then ss_T (ss_k l) 6 j * ss_T (ss_k r) 6 j else ss_T (ss_k l) 6 j) 64 → wX_multiplyByTransform__result_38 post (d + 1) (nI n) c le ri re ot sl lp rp y rW pt lL rL pL := by
  intro d
  induction d with
  | zero =>
    intro n y hn hy
    have : n = 64 := by omega
    subst this
    exact br_t (by decide) (ss_tb hy (fun y' hy' => ⟨33, ss_E2_result_out hy' (fun n hn => ss_ntt l r _ (fun j hj => if_pos hj) hn) (fun x hx => h x y' hx) 32 0 _ rfl (ss_A_0 _ _)⟩))
  | succ d ih =>
    intro n y hn hy
    refine br_f (nI_ge (b := 64) (by omega) (by decide)) ⟨vp_in_nI (by omega) (by decide), vp_in_nI (by omega) (by decide), ss_pI, vp_in_nI (by omega) (by decide), nm_r (e' := upd y n (ss_e (ss_T (ss_k l) 6 n * ss_T (ss_k r) 6 n))) ?_ (nm_r (nI_1 n) (ih (n + 1) _ (by omega) (ss_A_congr (ss_A_u hy rfl) ?_)))⟩
    · rw [ss_ci (by omega), hy n (by omega), hr n (by omega)]
      dsimp only
      rw [if_neg (Nat.lt_irrefl n)]
      exact congrArg (upd y n) (ss_NV_rem (ss_NV_mul (ss_NV_e _) (ss_NV_e _)))
    · intro j _
      by_cases e : j = n
      · subst e
        rw [ss_us, if_pos (by omega)]
      · rw [ss_un e]
        by_cases g : j < n
        · rw [if_pos g, if_pos (by omega)]
        · rw [if_neg g, if_neg (by omega)]
theorem ss_E2_result {post : SX → Prop} {l r : Nat → ss_F} {c le ri re ot sl lp rp lW rW pt lL rL pL : Nat → Int32} (hl : ss_A le l 32) (hr : ss_A ri r 32) (h : ∀ x a b, ss_A x (ss_c l r) 32 → post (c, le, ri, x, ot, sl, lp, rp, a, b, pt, lL, rL, pL)) : wpX_multiplyByTransform__result post (c, le, ri, re, ot, sl, lp, rp, lW, rW, pt, lL, rL, pL) := by
  unfold wpX_multiplyByTransform__result
  exact ss_wd_left_leftWide hl (fun a ha => ss_wd_right_rightWide hr (fun b hb => ss_tr_leftWide ha (fun a' ha' => ss_tr_rightWide hb (fun b' hb' => ⟨65, ss_E2_result_lp hb' (fun x y hx => h x y b' hx) 64 0 a' rfl (ss_A_congr ha' (fun j _ => (if_neg (by omega)).symm))⟩))))
theorem ss_E2_otherResult_out {post : SX → Prop} {g B : Nat → ss_F} {c le ri re sl lp rp lW rW pt lL rL pL : Nat → Int32} (hy : ss_A lW B 64) (hB : ∀ n, n < 32 → B n * ss_n 12097 = g n) (h : ∀ x, ss_A x g 32 → post (c, le, ri, re, x, sl, lp, rp, lW, rW, pt, lL, rL, pL)) : ∀ d n x, n + d = 32 → ss_A x g n → wX_multiplyByTransform__otherResult_82 post (d + 1) (nI n) c le ri re x sl lp rp lW rW pt lL rL pL := by
  intro d
  induction d with
  | zero =>
    intro n x hn hx
    have : n = 32 := by omega
    subst this
    exact br_t (by decide) (h x hx)
  | succ d ih =>
    intro n x hn hx
    refine br_f (nI_ge (b := 32) (by omega) (by decide)) ⟨vp_in_nI (by omega) (by decide), ss_pI, vp_in_nI (by omega) (by decide), nm_r (e' := upd x n (ss_e (g n))) ?_ (nm_r (nI_1 n) (ih (n + 1) _ (by omega) (ss_A_s hx rfl)))⟩
    rw [ss_ci (by omega), hy n (by omega), ← hB n (by omega)]
    exact congrArg (upd x n) (ss_NV_rem (ss_NV_mul (ss_NV_e _) (ss_NV_n 12097)))
theorem ss_E2_otherResult_lp {post : SX → Prop} {l r : Nat → ss_F} {c le ri re ot sl lp rp rW pt lL rL pL : Nat → Int32} (hr : ss_A rW (ss_T (ss_k r) 6) 64) (h : ∀ x y, ss_A x (ss_c l r) 32 → post (c, le, ri, re, x, sl, lp, rp, y, rW, pt, lL, rL, pL)) : ∀ d n y, n + d = 64 → ss_A y (fun j => if j < n then ss_T (ss_k l) 6 j * ss_T (ss_k r) 6 j else ss_T (ss_k l) 6 j) 64 → wX_multiplyByTransform__otherResult_38 post (d + 1) (nI n) c le ri re ot sl lp rp y rW pt lL rL pL := by
  intro d
  induction d with
  | zero =>
    intro n y hn hy
    have : n = 64 := by omega
    subst this
    exact br_t (by decide) (ss_tb hy (fun y' hy' => ⟨33, ss_E2_otherResult_out hy' (fun n hn => ss_ntt l r _ (fun j hj => if_pos hj) hn) (fun x hx => h x y' hx) 32 0 _ rfl (ss_A_0 _ _)⟩))
  | succ d ih =>
    intro n y hn hy
    refine br_f (nI_ge (b := 64) (by omega) (by decide)) ⟨vp_in_nI (by omega) (by decide), vp_in_nI (by omega) (by decide), ss_pI, vp_in_nI (by omega) (by decide), nm_r (e' := upd y n (ss_e (ss_T (ss_k l) 6 n * ss_T (ss_k r) 6 n))) ?_ (nm_r (nI_1 n) (ih (n + 1) _ (by omega) (ss_A_congr (ss_A_u hy rfl) ?_)))⟩
    · rw [ss_ci (by omega), hy n (by omega), hr n (by omega)]
      dsimp only
      rw [if_neg (Nat.lt_irrefl n)]
      exact congrArg (upd y n) (ss_NV_rem (ss_NV_mul (ss_NV_e _) (ss_NV_e _)))
    · intro j _
      by_cases e : j = n
      · subst e
        rw [ss_us, if_pos (by omega)]
      · rw [ss_un e]
        by_cases g : j < n
        · rw [if_pos g, if_pos (by omega)]
        · rw [if_neg g, if_neg (by omega)]
theorem ss_E2_otherResult {post : SX → Prop} {l r : Nat → ss_F} {c le ri re ot sl lp rp lW rW pt lL rL pL : Nat → Int32} (hl : ss_A le l 32) (hr : ss_A ri r 32) (h : ∀ x a b, ss_A x (ss_c l r) 32 → post (c, le, ri, re, x, sl, lp, rp, a, b, pt, lL, rL, pL)) : wpX_multiplyByTransform__otherResult post (c, le, ri, re, ot, sl, lp, rp, lW, rW, pt, lL, rL, pL) := by
  unfold wpX_multiplyByTransform__otherResult
  exact ss_wd_left_leftWide hl (fun a ha => ss_wd_right_rightWide hr (fun b hb => ss_tr_leftWide ha (fun a' ha' => ss_tr_rightWide hb (fun b' hb' => ⟨65, ss_E2_otherResult_lp hb' (fun x y hx => h x y b' hx) 64 0 a' rfl (ss_A_congr ha' (fun j _ => (if_neg (by omega)).symm))⟩))))
end
section
/-! Karatsuba's pieces -/
theorem ss_t1 : ∀ n, n < 32 → ∀ k, k < 5 → (nI n &&& nI (2 ^ k) = 0 ↔ n / 2 ^ k % 2 = 0) := by decide +kernel
theorem ss_t2 : ∀ n, n < 32 → ss_pc 5 n < 243 := by decide +kernel
theorem ss_t3 : ∀ n, n < 32 → ∀ j, j < 32 → ss_pc 5 n = ss_pc 5 j → n = j := by decide +kernel
theorem ss_t4 : ∀ k, k < 5 → 2 ^ k ≤ 16 ∧ 3 ^ k ≤ 81 ∧ 0 < 3 ^ k := by decide
theorem ss_t5 : ∀ a, a < 243 → ∀ k, k < 5 → a / 3 ^ k % 3 = 2 → 2 * 3 ^ k ≤ a ∧ (a - 3 ^ k) / 3 ^ k % 3 ≠ 2 ∧ (a - 2 * 3 ^ k) / 3 ^ k % 3 ≠ 2 := by decide +kernel
theorem ss_Xpc_lp {post : Int32 → Prop} {n : Nat} (hn : n < 32) (p : post (nI (ss_pc 5 n))) : ∀ d k, k + d = 5 → wX_pieceOfPlace_6 post (nI n) (d + 1) (nI (ss_pc k n)) (nI (3 ^ k)) (nI (2 ^ k)) := by
  intro d
  induction d with
  | zero =>
    intro k hk
    have : k = 5 := by omega
    subst this
    exact br_t (by decide) p
  | succ d ih =>
    intro k hk
    obtain ⟨t1, t2, t3⟩ := ss_t4 k (by omega)
    have m3 : nI (3 ^ k) * 3 = nI (3 ^ (k + 1)) := pk_mul (3 ^ k) 3
    have m2 : nI (2 ^ k) * 2 = nI (2 ^ (k + 1)) := pk_mul (2 ^ k) 2
    have nx := ih (k + 1) (by omega)
    have e : ss_pc (k + 1) n = ss_pc k n + n / 2 ^ k % 2 * 3 ^ k := rfl
    refine br_f (nI_ge (b := 32) (by omega) (by decide)) ?_
    by_cases z : n / 2 ^ k % 2 = 0
    · rw [e, z, Nat.zero_mul, Nat.add_zero] at nx
      exact br_t ((ss_t1 n hn k (by omega)).mpr z) (nm_r m3 (nm_r m2 nx))
    · rw [e, show n / 2 ^ k % 2 = 1 from by generalize n / 2 ^ k = q at z ⊢; omega, Nat.one_mul] at nx
      exact br_f (fun y => z ((ss_t1 n hn k (by omega)).mp y)) (nm_r (nI_add _ _) (nm_r m3 (nm_r m2 nx)))
theorem ss_Xpc {post : Int32 → Prop} {n : Nat} (hn : n < 32) (p : post (nI (ss_pc 5 n))) : wpX_pieceOfPlace post (nI n) := ⟨6, ss_Xpc_lp hn p 5 0 rfl⟩
theorem ss_dgt {a k : Nat} (ha : a < 243) (hk : k < 5) : nI a / nI (3 ^ k) - nI a / nI (3 ^ k) / 3 * 3 = nI (a / 3 ^ k % 3) := by
  obtain ⟨t1, t2, t3⟩ := ss_t4 k hk
  have h : a / 3 ^ k ≤ a := Nat.div_le_self _ _
  rw [pk_div (by omega) t3 (by omega)]
  exact pk_rem (d := 3) (by omega) (by decide) (by decide)
theorem ss_3k {k : Nat} (hk : k < 5) : ¬ nI (3 ^ k) = 0 := by
  obtain ⟨t1, t2, t3⟩ := ss_t4 k hk
  exact nI_ne0 t3 (by omega)
theorem ss_30 : ¬ (3 : Int32) = 0 := by decide
theorem ss_Xpp_lp {post : Int32 → Prop} {a : Nat} (ha : a < 243) (p : post (nI (ss_pN 5 a))) : ∀ d k, k + d = 5 → wX_powerOfPiece_6 post (nI a) (d + 1) (nI (ss_pN k a)) (nI (2 ^ k)) (nI (3 ^ k)) := by
  intro d
  induction d with
  | zero =>
    intro k hk
    have : k = 5 := by omega
    subst this
    exact br_t (by decide) p
  | succ d ih =>
    intro k hk
    obtain ⟨t1, t2, t3⟩ := ss_t4 k (by omega)
    have m3 : nI (3 ^ k) * 3 = nI (3 ^ (k + 1)) := pk_mul (3 ^ k) 3
    have m2 : nI (2 ^ k) * 2 = nI (2 ^ (k + 1)) := pk_mul (2 ^ k) 2
    have nx := ih (k + 1) (by omega)
    have e : ss_pN (k + 1) a = ss_pN k a + ss_wt (a / 3 ^ k % 3) * 2 ^ k := rfl
    rw [e] at nx
    have lt : a / 3 ^ k % 3 < 3 := Nat.mod_lt _ (by decide)
    refine br_f (nI_ge (b := 243) (by omega) (by decide)) ⟨ss_3k (by omega), ss_30, nm_r (ss_dgt ha (by omega)) ?_⟩
    generalize a / 3 ^ k % 3 = g at nx lt
    have c : g = 0 ∨ g = 1 ∨ g = 2 := by omega
    rcases c with rfl | rfl | rfl
    · rw [show ss_wt 0 * 2 ^ k = 0 from Nat.zero_mul _, Nat.add_zero] at nx
      exact br_f (by decide) (br_f (by decide) (nm_r m2 (nm_r m3 nx)))
    · refine br_t (by decide) (nm_r (e' := nI (ss_pN k a + 2 * 2 ^ k)) ?_ (nm_r m2 (nm_r m3 nx)))
      rw [show (2 : Int32) = nI 2 from rfl, pk_mul, nI_add]
    · rw [show ss_wt 2 * 2 ^ k = 2 ^ k from Nat.one_mul _] at nx
      exact br_f (by decide) (br_t (by decide) (nm_r (nI_add _ _) (nm_r m2 (nm_r m3 nx))))
theorem ss_Xpp {post : Int32 → Prop} {a : Nat} (ha : a < 243) (p : post (nI (ss_pN 5 a))) : wpX_powerOfPiece post (nI a) := ⟨6, ss_Xpp_lp ha p 5 0 rfl⟩
theorem ss_sd_left_leftPieces_in {post : SX → Prop} {J : Int32 → (Nat → Int32) → (Nat → Int32) → (Nat → Int32) → (Nat → Int32) → (Nat → Int32) → (Nat → Int32) → (Nat → Int32) → (Nat → Int32) → (Nat → Int32) → (Nat → Int32) → (Nat → Int32) → (Nat → Int32) → (Nat → Int32) → (Nat → Int32) → Prop} {V : Nat → ss_F} {c le ri re ot sl rp lW rW pt lL rL pL : Nat → Int32} {k : Nat} (hk : k < 5) (P : ∀ G, (∀ j, j < 243 → G j = ss_sp k V j) → J (nI (3 ^ (k + 1))) c le ri re ot sl (ss_em G) rp lW rW pt lL rL pL) : ∀ d a G, a + d = 243 → (∀ j, j < 243 → G j = if j < a then ss_sp k V j else V j) → wX_spreadPieces__left_leftPieces_36 post J (nI (3 ^ k)) (d + 1) (nI a) c le ri re ot sl (ss_em G) rp lW rW pt lL rL pL := by
  obtain ⟨t1, t2, t3⟩ := ss_t4 k hk
  intro d
  induction d with
  | zero =>
    intro a G ha hG
    have : a = 243 := by omega
    subst this
    exact br_t (by decide) (nm_r (pk_mul (3 ^ k) 3) (P G (fun j hj => by rw [hG j hj, if_pos hj])))
  | succ d ih =>
    intro a G ha hG
    have lt : a / 3 ^ k % 3 < 3 := Nat.mod_lt _ (by decide)
    have dg := ss_dgt (a := a) (k := k) (by omega) hk
    refine br_f (nI_ge (b := 243) (by omega) (by decide)) ⟨ss_3k hk, ss_30, ?_⟩
    by_cases z : a / 3 ^ k % 3 = 2
    · obtain ⟨r1, r2, r3⟩ := ss_t5 a (by omega) k hk z
      have e1 : nI a - nI (3 ^ k) = nI (a - 3 ^ k) := pk_sub (by omega)
      have e2 : nI a - 2 * nI (3 ^ k) = nI (a - 2 * 3 ^ k) := by
        rw [show (2 : Int32) = nI 2 from rfl, pk_mul, pk_sub r1]
      have g1 : G (a - 3 ^ k) = V (a - 3 ^ k) := by rw [hG _ (by omega), if_pos (by omega), ss_sp_f r2]
      have g2 : G (a - 2 * 3 ^ k) = V (a - 2 * 3 ^ k) := by rw [hG _ (by omega), if_pos (by omega), ss_sp_f r3]
      refine br_t (dg.trans (by rw [z]; rfl)) ⟨by rw [e1]; exact vp_in_nI (by omega) (by decide), by rw [e2]; exact vp_in_nI (by omega) (by decide), ss_pI, vp_in_nI (by omega) (by decide), nm_r (e' := ss_em (ss_u G a (ss_sp k V a))) ?_ (nm_r (nI_1 a) (ih (a + 1) _ (by omega) ?_))⟩
      · rw [e1, e2, ss_ci (by omega), ss_ci (by omega), ss_ci (by omega), ← ss_em_u, ss_sp_t z, ← g1, ← g2]
        exact congrArg (upd (ss_em G) a) (ss_NV_rem (ss_NV_add (ss_NV_e _) (ss_NV_e _)))
      · intro j hj
        by_cases e : j = a
        · subst e
          rw [ss_us, if_pos (by omega)]
        · rw [ss_un e, hG j hj]
          by_cases c : j < a
          · rw [if_pos c, if_pos (by omega)]
          · rw [if_neg c, if_neg (by omega)]
    · refine br_f (fun y => z ((nI_eq (by omega) (by decide)).mp (dg.symm.trans (y.trans (show (2 : Int32) = nI 2 from rfl))))) (nm_r (nI_1 a) (ih (a + 1) G (by omega) ?_))
      intro j hj
      rw [hG j hj]
      by_cases e : j = a
      · subst e
        rw [if_neg (Nat.lt_irrefl j), if_pos (by omega), ss_sp_f z]
      · by_cases c : j < a
        · rw [if_pos c, if_pos (by omega)]
        · rw [if_neg c, if_neg (by omega)]
theorem ss_sp_congrlp {k : Nat} {V U : Nat → ss_F} (h : ∀ j, j < 243 → V j = U j) : ∀ j, j < 243 → ss_sp k V j = ss_sp k U j := by
  intro j hj
  by_cases z : j / 3 ^ k % 3 = 2
  · rw [ss_sp_t z, ss_sp_t z, h _ (Nat.lt_of_le_of_lt (Nat.sub_le _ _) hj), h _ (Nat.lt_of_le_of_lt (Nat.sub_le _ _) hj)]
  · rw [ss_sp_f z, ss_sp_f z, h j hj]
theorem ss_sd_left_leftPieces_lp {post : SX → Prop} {v : Nat → ss_F} {c le ri re ot sl rp lW rW pt lL rL pL : Nat → Int32} (P : ∀ G, (∀ j, j < 243 → G j = ss_spN 5 v j) → post (c, le, ri, re, ot, sl, ss_em G, rp, lW, rW, pt, lL, rL, pL)) : ∀ d k G, k + d = 5 → (∀ j, j < 243 → G j = ss_spN k v j) → wX_spreadPieces__left_leftPieces_27 post (d + 1) (nI (3 ^ k)) c le ri re ot sl (ss_em G) rp lW rW pt lL rL pL := by
  intro d
  induction d with
  | zero =>
    intro k G hk hG
    have : k = 5 := by omega
    subst this
    exact br_t (by decide) (P G hG)
  | succ d ih =>
    intro k G hk hG
    obtain ⟨t1, t2, t3⟩ := ss_t4 k (by omega)
    exact br_f (nI_ge (b := 243) (by omega) (by decide)) ⟨244, ss_sd_left_leftPieces_in (V := G) (by omega) (fun G' hG' => ih (k + 1) G' (by omega) (fun j hj => (hG' j hj).trans (ss_sp_congrlp hG j hj))) 243 0 G rfl (fun j hj => (if_neg (by omega)).symm)⟩
theorem ss_sd_left_leftPieces_pl {post : SX → Prop} {l : Nat → ss_F} {c le ri re ot sl rp lW rW pt lL rL pL : Nat → Int32} (hl : ss_A le l 32) (P : ∀ G v, ss_Pl 5 v l → (∀ j, j < 243 → G j = ss_spN 5 v j) → post (c, le, ri, re, ot, sl, ss_em G, rp, lW, rW, pt, lL, rL, pL)) : ∀ d n G, n + d = 32 → (∀ j, j < n → G (ss_pc 5 j) = l j) → wX_spreadPieces__left_leftPieces_2 post (d + 1) (nI n) c le ri re ot sl (ss_em G) rp lW rW pt lL rL pL := by
  intro d
  induction d with
  | zero =>
    intro n G hn hG
    have : n = 32 := by omega
    subst this
    exact br_t (by decide) ⟨6, ss_sd_left_leftPieces_lp (v := G) (fun G' hG' => P G' G hG hG') 5 0 G rfl (fun j _ => rfl)⟩
  | succ d ih =>
    intro n G hn hG
    have b := ss_t2 n (by omega)
    refine br_f (nI_ge (b := 32) (by omega) (by decide)) (ss_Xpc (by omega) ⟨vp_in_nI (by omega) (by decide), vp_in_nI b (by decide), nm_r (e' := ss_em (ss_u G (ss_pc 5 n) (l n))) ?_ (nm_r (nI_1 n) (ih (n + 1) _ (by omega) ?_))⟩)
    · rw [ss_ci (by omega), ss_ci (by omega), hl n (by omega), ss_em_u]
    · intro j hj
      by_cases e : j = n
      · subst e
        exact ss_us _ _ _
      · rw [ss_un (fun y => e (ss_t3 j (by omega) n (by omega) y))]
        exact hG j (by omega)
theorem ss_sd_left_leftPieces {post : SX → Prop} {l G : Nat → ss_F} {c le ri re ot sl rp lW rW pt lL rL pL : Nat → Int32} (hl : ss_A le l 32) (P : ∀ G v, ss_Pl 5 v l → (∀ j, j < 243 → G j = ss_spN 5 v j) → post (c, le, ri, re, ot, sl, ss_em G, rp, lW, rW, pt, lL, rL, pL)) : wpX_spreadPieces__left_leftPieces post (c, le, ri, re, ot, sl, ss_em G, rp, lW, rW, pt, lL, rL, pL) := ⟨33, ss_sd_left_leftPieces_pl hl P 32 0 G rfl (fun j hj => absurd hj (by omega))⟩
theorem ss_sd_right_rightPieces_in {post : SX → Prop} {J : Int32 → (Nat → Int32) → (Nat → Int32) → (Nat → Int32) → (Nat → Int32) → (Nat → Int32) → (Nat → Int32) → (Nat → Int32) → (Nat → Int32) → (Nat → Int32) → (Nat → Int32) → (Nat → Int32) → (Nat → Int32) → (Nat → Int32) → (Nat → Int32) → Prop} {V : Nat → ss_F} {c le ri re ot sl lp lW rW pt lL rL pL : Nat → Int32} {k : Nat} (hk : k < 5) (P : ∀ G, (∀ j, j < 243 → G j = ss_sp k V j) → J (nI (3 ^ (k + 1))) c le ri re ot sl lp (ss_em G) lW rW pt lL rL pL) : ∀ d a G, a + d = 243 → (∀ j, j < 243 → G j = if j < a then ss_sp k V j else V j) → wX_spreadPieces__right_rightPieces_36 post J (nI (3 ^ k)) (d + 1) (nI a) c le ri re ot sl lp (ss_em G) lW rW pt lL rL pL := by
  obtain ⟨t1, t2, t3⟩ := ss_t4 k hk
  intro d
  induction d with
  | zero =>
    intro a G ha hG
    have : a = 243 := by omega
    subst this
    exact br_t (by decide) (nm_r (pk_mul (3 ^ k) 3) (P G (fun j hj => by rw [hG j hj, if_pos hj])))
  | succ d ih =>
    intro a G ha hG
    have lt : a / 3 ^ k % 3 < 3 := Nat.mod_lt _ (by decide)
    have dg := ss_dgt (a := a) (k := k) (by omega) hk
    refine br_f (nI_ge (b := 243) (by omega) (by decide)) ⟨ss_3k hk, ss_30, ?_⟩
    by_cases z : a / 3 ^ k % 3 = 2
    · obtain ⟨r1, r2, r3⟩ := ss_t5 a (by omega) k hk z
      have e1 : nI a - nI (3 ^ k) = nI (a - 3 ^ k) := pk_sub (by omega)
      have e2 : nI a - 2 * nI (3 ^ k) = nI (a - 2 * 3 ^ k) := by
        rw [show (2 : Int32) = nI 2 from rfl, pk_mul, pk_sub r1]
      have g1 : G (a - 3 ^ k) = V (a - 3 ^ k) := by rw [hG _ (by omega), if_pos (by omega), ss_sp_f r2]
      have g2 : G (a - 2 * 3 ^ k) = V (a - 2 * 3 ^ k) := by rw [hG _ (by omega), if_pos (by omega), ss_sp_f r3]
      refine br_t (dg.trans (by rw [z]; rfl)) ⟨by rw [e1]; exact vp_in_nI (by omega) (by decide), by rw [e2]; exact vp_in_nI (by omega) (by decide), ss_pI, vp_in_nI (by omega) (by decide), nm_r (e' := ss_em (ss_u G a (ss_sp k V a))) ?_ (nm_r (nI_1 a) (ih (a + 1) _ (by omega) ?_))⟩
      · rw [e1, e2, ss_ci (by omega), ss_ci (by omega), ss_ci (by omega), ← ss_em_u, ss_sp_t z, ← g1, ← g2]
        exact congrArg (upd (ss_em G) a) (ss_NV_rem (ss_NV_add (ss_NV_e _) (ss_NV_e _)))
      · intro j hj
        by_cases e : j = a
        · subst e
          rw [ss_us, if_pos (by omega)]
        · rw [ss_un e, hG j hj]
          by_cases c : j < a
          · rw [if_pos c, if_pos (by omega)]
          · rw [if_neg c, if_neg (by omega)]
    · refine br_f (fun y => z ((nI_eq (by omega) (by decide)).mp (dg.symm.trans (y.trans (show (2 : Int32) = nI 2 from rfl))))) (nm_r (nI_1 a) (ih (a + 1) G (by omega) ?_))
      intro j hj
      rw [hG j hj]
      by_cases e : j = a
      · subst e
        rw [if_neg (Nat.lt_irrefl j), if_pos (by omega), ss_sp_f z]
      · by_cases c : j < a
        · rw [if_pos c, if_pos (by omega)]
        · rw [if_neg c, if_neg (by omega)]
theorem ss_sp_congrrp {k : Nat} {V U : Nat → ss_F} (h : ∀ j, j < 243 → V j = U j) : ∀ j, j < 243 → ss_sp k V j = ss_sp k U j := by
  intro j hj
  by_cases z : j / 3 ^ k % 3 = 2
  · rw [ss_sp_t z, ss_sp_t z, h _ (Nat.lt_of_le_of_lt (Nat.sub_le _ _) hj), h _ (Nat.lt_of_le_of_lt (Nat.sub_le _ _) hj)]
  · rw [ss_sp_f z, ss_sp_f z, h j hj]
theorem ss_sd_right_rightPieces_lp {post : SX → Prop} {v : Nat → ss_F} {c le ri re ot sl lp lW rW pt lL rL pL : Nat → Int32} (P : ∀ G, (∀ j, j < 243 → G j = ss_spN 5 v j) → post (c, le, ri, re, ot, sl, lp, ss_em G, lW, rW, pt, lL, rL, pL)) : ∀ d k G, k + d = 5 → (∀ j, j < 243 → G j = ss_spN k v j) → wX_spreadPieces__right_rightPieces_27 post (d + 1) (nI (3 ^ k)) c le ri re ot sl lp (ss_em G) lW rW pt lL rL pL := by
  intro d
  induction d with
  | zero =>
    intro k G hk hG
    have : k = 5 := by omega
    subst this
    exact br_t (by decide) (P G hG)
  | succ d ih =>
    intro k G hk hG
    obtain ⟨t1, t2, t3⟩ := ss_t4 k (by omega)
    exact br_f (nI_ge (b := 243) (by omega) (by decide)) ⟨244, ss_sd_right_rightPieces_in (V := G) (by omega) (fun G' hG' => ih (k + 1) G' (by omega) (fun j hj => (hG' j hj).trans (ss_sp_congrrp hG j hj))) 243 0 G rfl (fun j hj => (if_neg (by omega)).symm)⟩
theorem ss_sd_right_rightPieces_pl {post : SX → Prop} {l : Nat → ss_F} {c le ri re ot sl lp lW rW pt lL rL pL : Nat → Int32} (hl : ss_A ri l 32) (P : ∀ G v, ss_Pl 5 v l → (∀ j, j < 243 → G j = ss_spN 5 v j) → post (c, le, ri, re, ot, sl, lp, ss_em G, lW, rW, pt, lL, rL, pL)) : ∀ d n G, n + d = 32 → (∀ j, j < n → G (ss_pc 5 j) = l j) → wX_spreadPieces__right_rightPieces_2 post (d + 1) (nI n) c le ri re ot sl lp (ss_em G) lW rW pt lL rL pL := by
  intro d
  induction d with
  | zero =>
    intro n G hn hG
    have : n = 32 := by omega
    subst this
    exact br_t (by decide) ⟨6, ss_sd_right_rightPieces_lp (v := G) (fun G' hG' => P G' G hG hG') 5 0 G rfl (fun j _ => rfl)⟩
  | succ d ih =>
    intro n G hn hG
    have b := ss_t2 n (by omega)
    refine br_f (nI_ge (b := 32) (by omega) (by decide)) (ss_Xpc (by omega) ⟨vp_in_nI (by omega) (by decide), vp_in_nI b (by decide), nm_r (e' := ss_em (ss_u G (ss_pc 5 n) (l n))) ?_ (nm_r (nI_1 n) (ih (n + 1) _ (by omega) ?_))⟩)
    · rw [ss_ci (by omega), ss_ci (by omega), hl n (by omega), ss_em_u]
    · intro j hj
      by_cases e : j = n
      · subst e
        exact ss_us _ _ _
      · rw [ss_un (fun y => e (ss_t3 j (by omega) n (by omega) y))]
        exact hG j (by omega)
theorem ss_sd_right_rightPieces {post : SX → Prop} {l G : Nat → ss_F} {c le ri re ot sl lp lW rW pt lL rL pL : Nat → Int32} (hl : ss_A ri l 32) (P : ∀ G v, ss_Pl 5 v l → (∀ j, j < 243 → G j = ss_spN 5 v j) → post (c, le, ri, re, ot, sl, lp, ss_em G, lW, rW, pt, lL, rL, pL)) : wpX_spreadPieces__right_rightPieces post (c, le, ri, re, ot, sl, lp, ss_em G, lW, rW, pt, lL, rL, pL) := ⟨33, ss_sd_right_rightPieces_pl hl P 32 0 G rfl (fun j hj => absurd hj (by omega))⟩
/-! the middles -/
theorem ss_sm_in {post : SX → Prop} {J : Int32 → (Nat → Int32) → (Nat → Int32) → (Nat → Int32) → (Nat → Int32) → (Nat → Int32) → (Nat → Int32) → (Nat → Int32) → (Nat → Int32) → (Nat → Int32) → (Nat → Int32) → (Nat → Int32) → (Nat → Int32) → (Nat → Int32) → (Nat → Int32) → Prop} {V : Nat → ss_F} {c le ri re ot sl rp lW rW pt lL rL pL : Nat → Int32} {k : Nat} (hk : k < 5) (P : ∀ G, (∀ j, j < 243 → G j = ss_se k V j) → J (nI (3 ^ (k + 1))) c le ri re ot sl (ss_em G) rp lW rW pt lL rL pL) : ∀ d a G, a + d = 243 → (∀ j, j < 243 → G j = if j < a then ss_se k V j else V j) → wX_separateMiddles__leftPieces_11 post J (nI (3 ^ k)) (d + 1) (nI a) c le ri re ot sl (ss_em G) rp lW rW pt lL rL pL := by
  obtain ⟨t1, t2, t3⟩ := ss_t4 k hk
  intro d
  induction d with
  | zero =>
    intro a G ha hG
    have : a = 243 := by omega
    subst this
    exact br_t (by decide) (nm_r (pk_mul (3 ^ k) 3) (P G (fun j hj => by rw [hG j hj, if_pos hj])))
  | succ d ih =>
    intro a G ha hG
    have lt : a / 3 ^ k % 3 < 3 := Nat.mod_lt _ (by decide)
    have dg := ss_dgt (a := a) (k := k) (by omega) hk
    refine br_f (nI_ge (b := 243) (by omega) (by decide)) ⟨ss_3k hk, ss_30, ?_⟩
    by_cases z : a / 3 ^ k % 3 = 2
    · obtain ⟨r1, r2, r3⟩ := ss_t5 a (by omega) k hk z
      have e1 : nI a - nI (3 ^ k) = nI (a - 3 ^ k) := pk_sub (by omega)
      have e2 : nI a - 2 * nI (3 ^ k) = nI (a - 2 * 3 ^ k) := by
        rw [show (2 : Int32) = nI 2 from rfl, pk_mul, pk_sub r1]
      have g0 : G a = V a := by rw [hG _ (by omega), if_neg (by omega)]
      have g1 : G (a - 3 ^ k) = V (a - 3 ^ k) := by rw [hG _ (by omega), if_pos (by omega), ss_se_f r2]
      have g2 : G (a - 2 * 3 ^ k) = V (a - 2 * 3 ^ k) := by rw [hG _ (by omega), if_pos (by omega), ss_se_f r3]
      have LV : ss_LV (ss_em G (nI a).toNatClampNeg - ss_em G (nI a - nI (3 ^ k)).toNatClampNeg - ss_em G (nI a - 2 * nI (3 ^ k)).toNatClampNeg).toInt64 (ss_se k V a) (12288 + 12288 + 12288) := by
        rw [e1, e2, ss_ci (by omega), ss_ci (by omega), ss_ci (by omega), ss_se_t z, ← g0, ← g1, ← g2]
        exact ss_IV_L (ss_IV_sub (ss_IV_sub (ss_IV_e _) (ss_IV_e _)) (ss_IV_e _))
      refine br_t (dg.trans (by rw [z]; rfl)) ⟨vp_in_nI (by omega) (by decide), by rw [e1]; exact vp_in_nI (by omega) (by decide), by rw [e2]; exact vp_in_nI (by omega) (by decide), ss_Xr LV ⟨vp_in_nI (by omega) (by decide), nm_r (e' := ss_em (ss_u G a (ss_se k V a))) ?_ (nm_r (nI_1 a) (ih (a + 1) _ (by omega) ?_))⟩⟩
      · rw [ss_ci (by omega), ss_em_u]
      · intro j hj
        by_cases e : j = a
        · subst e
          rw [ss_us, if_pos (by omega)]
        · rw [ss_un e, hG j hj]
          by_cases c : j < a
          · rw [if_pos c, if_pos (by omega)]
          · rw [if_neg c, if_neg (by omega)]
    · refine br_f (fun y => z ((nI_eq (by omega) (by decide)).mp (dg.symm.trans (y.trans (show (2 : Int32) = nI 2 from rfl))))) (nm_r (nI_1 a) (ih (a + 1) G (by omega) ?_))
      intro j hj
      rw [hG j hj]
      by_cases e : j = a
      · subst e
        rw [if_neg (Nat.lt_irrefl j), if_pos (by omega), ss_se_f z]
      · by_cases c : j < a
        · rw [if_pos c, if_pos (by omega)]
        · rw [if_neg c, if_neg (by omega)]
theorem ss_se_congr {k : Nat} {V U : Nat → ss_F} (h : ∀ j, j < 243 → V j = U j) : ∀ j, j < 243 → ss_se k V j = ss_se k U j := by
  intro j hj
  by_cases z : j / 3 ^ k % 3 = 2
  · rw [ss_se_t z, ss_se_t z, h j hj, h _ (Nat.lt_of_le_of_lt (Nat.sub_le _ _) hj), h _ (Nat.lt_of_le_of_lt (Nat.sub_le _ _) hj)]
  · rw [ss_se_f z, ss_se_f z, h j hj]
theorem ss_sm_lp {post : SX → Prop} {v : Nat → ss_F} {c le ri re ot sl rp lW rW pt lL rL pL : Nat → Int32} (P : ∀ G, (∀ j, j < 243 → G j = ss_seN 5 v j) → post (c, le, ri, re, ot, sl, ss_em G, rp, lW, rW, pt, lL, rL, pL)) : ∀ d k G, k + d = 5 → (∀ j, j < 243 → G j = ss_seN k v j) → wX_separateMiddles__leftPieces_2 post (d + 1) (nI (3 ^ k)) c le ri re ot sl (ss_em G) rp lW rW pt lL rL pL := by
  intro d
  induction d with
  | zero =>
    intro k G hk hG
    have : k = 5 := by omega
    subst this
    exact br_t (by decide) (P G hG)
  | succ d ih =>
    intro k G hk hG
    obtain ⟨t1, t2, t3⟩ := ss_t4 k (by omega)
    exact br_f (nI_ge (b := 243) (by omega) (by decide)) ⟨244, ss_sm_in (V := G) (by omega) (fun G' hG' => ih (k + 1) G' (by omega) (fun j hj => (hG' j hj).trans (ss_se_congr hG j hj))) 243 0 G rfl (fun j hj => (if_neg (by omega)).symm)⟩
theorem ss_sm {post : SX → Prop} {v G : Nat → ss_F} {c le ri re ot sl rp lW rW pt lL rL pL : Nat → Int32} (hG : ∀ j, j < 243 → G j = v j) (P : ∀ G, (∀ j, j < 243 → G j = ss_seN 5 v j) → post (c, le, ri, re, ot, sl, ss_em G, rp, lW, rW, pt, lL, rL, pL)) : wpX_separateMiddles__leftPieces post (c, le, ri, re, ot, sl, ss_em G, rp, lW, rW, pt, lL, rL, pL) := ⟨6, ss_sm_lp P 5 0 G rfl hG⟩
/-- what has been collected out of the pieces below a -/
def ss_cl1 (w : Nat → ss_F) (a : Nat) : Nat → ss_F := fun n => ss_s (fun b => w b * (if ss_pN 5 b = n then 1 else 0)) a
theorem ss_cl1_ne (w : Nat → ss_F) {a n : Nat} (h : ss_pN 5 a ≠ n) : ss_cl1 w (a + 1) n = ss_cl1 w a n := by
  show ss_cl1 w a n + w a * (if ss_pN 5 a = n then 1 else 0) = _
  rw [if_neg h]
  grobner
theorem ss_cl1_eq (w : Nat → ss_F) (a : Nat) : ss_cl1 w (a + 1) (ss_pN 5 a) = ss_cl1 w a (ss_pN 5 a) + w a := by
  show ss_cl1 w a _ + w a * (if ss_pN 5 a = ss_pN 5 a then 1 else 0) = _
  rw [if_pos rfl]
  grobner
theorem ss_pN_le : ∀ a, a < 243 → ss_pN 5 a < 100 := by decide +kernel
theorem ss_E1_result_co {post : SX → Prop} {w : Nat → ss_F} {c le ri ot sl lp rp lW rW pt lL rL pL : Nat → Int32} (hw : ss_A lp w 243) (P : ∀ x, ss_A x (ss_cl1 w 243) 32 → post (c, le, ri, x, ot, sl, lp, rp, lW, rW, pt, lL, rL, pL)) : ∀ d a x, a + d = 243 → ss_A x (ss_cl1 w a) 32 → wX_multiplyByKaratsuba__result_87 post (d + 1) (nI a) c le ri x ot sl lp rp lW rW pt lL rL pL := by
  intro d
  induction d with
  | zero =>
    intro a x ha hx
    have : a = 243 := by omega
    subst this
    exact br_t (by decide) (P x hx)
  | succ d ih =>
    intro a x ha hx
    have b := ss_pN_le a (by omega)
    refine br_f (nI_ge (b := 243) (by omega) (by decide)) (ss_Xpp (by omega) ?_)
    by_cases c : ss_pN 5 a < 32
    · refine br_f (nI_ge (b := 32) c (by decide)) ⟨vp_in_nI c (by decide), vp_in_nI (by omega) (by decide), ss_pI, vp_in_nI c (by decide), nm_r (e' := upd x (ss_pN 5 a) (ss_e (ss_cl1 w (a + 1) (ss_pN 5 a)))) ?_ (nm_r (nI_1 a) (ih (a + 1) _ (by omega) (ss_A_congr (ss_A_u hx rfl) ?_)))⟩
      · rw [ss_ci (by omega), ss_ci (by omega), hx _ c, hw a (by omega), ss_cl1_eq]
        exact congrArg (upd x _) (ss_NV_rem (ss_NV_add (ss_NV_e _) (ss_NV_e _)))
      · intro n _
        by_cases e : n = ss_pN 5 a
        · subst e
          exact ss_us _ _ _
        · rw [ss_un e, ss_cl1_ne w (fun y => e y.symm)]
    · refine br_t (nI_le (a := 32) (by omega) (by omega)) (nm_r (nI_1 a) (ih (a + 1) x (by omega) (ss_A_congr hx ?_)))
      intro n hn
      rw [ss_cl1_ne w (by omega)]
theorem ss_E1_result_z {post : SX → Prop} {w : Nat → ss_F} {c le ri ot sl lp rp lW rW pt lL rL pL : Nat → Int32} (hw : ss_A lp w 243) (P : ∀ x, ss_A x (ss_cl1 w 243) 32 → post (c, le, ri, x, ot, sl, lp, rp, lW, rW, pt, lL, rL, pL)) : ∀ d i x, i + d = 32 → ss_A x (fun _ => 0) i → wX_multiplyByKaratsuba__result_69 post (d + 1) (nI i) c le ri x ot sl lp rp lW rW pt lL rL pL := by
  intro d
  induction d with
  | zero =>
    intro i x hi hx
    have : i = 32 := by omega
    subst this
    exact br_t (by decide) ⟨244, ss_E1_result_co hw P 243 0 x rfl (ss_A_congr hx (fun j _ => rfl))⟩
  | succ d ih =>
    intro i x hi hx
    exact br_f (nI_ge (b := 32) (by omega) (by decide)) ⟨vp_in_nI (by omega) (by decide), nm_r (e' := upd x i 0) (by rw [ss_ci (by omega)]) (nm_r (nI_1 i) (ih (i + 1) _ (by omega) (ss_A_s hx ss_e0.symm)))⟩
theorem ss_E1_result_lp {post : SX → Prop} {l r v u V U : Nat → ss_F} {c le ri re ot sl lW rW pt lL rL pL : Nat → Int32} (hv : ss_Pl 5 v l) (hu : ss_Pl 5 u r) (hV : ∀ j, j < 243 → V j = ss_spN 5 v j) (hU : ∀ j, j < 243 → U j = ss_spN 5 u j) (h : ∀ x G, ss_A x (ss_c l r) 32 → post (c, le, ri, x, ot, sl, ss_em G, ss_em U, lW, rW, pt, lL, rL, pL)) : ∀ d a G, a + d = 243 → (∀ j, j < 243 → G j = if j < a then ss_spN 5 v j * ss_spN 5 u j else ss_spN 5 v j) → wX_multiplyByKaratsuba__result_24 post (d + 1) (nI a) c le ri re ot sl (ss_em G) (ss_em U) lW rW pt lL rL pL := by
  intro d
  induction d with
  | zero =>
    intro a G ha hG
    have : a = 243 := by omega
    subst this
    refine br_t (by decide) (ss_sm (v := fun j => ss_spN 5 v j * ss_spN 5 u j) (fun j hj => by rw [hG j hj, if_pos hj]) (fun G' hG' => ⟨33, ss_E1_result_z (w := G') (ss_A_em G' 243) (fun x hx => h x G' (ss_A_congr hx ?_)) 32 0 _ rfl (ss_A_0 _ _)⟩))
    intro n hn
    have k := ss_kara 5 v u l r (fun t => if t = n then 1 else 0) hv hu
    rw [show 2 ^ 5 = 32 from rfl, ss_K_c l r hn] at k
    rw [← k]
    exact ss_s_congr (fun b hb => by rw [hG' b hb])
  | succ d ih =>
    intro a G ha hG
    refine br_f (nI_ge (b := 243) (by omega) (by decide)) ⟨vp_in_nI (by omega) (by decide), vp_in_nI (by omega) (by decide), ss_pI, vp_in_nI (by omega) (by decide), nm_r (e' := ss_em (ss_u G a (ss_spN 5 v a * ss_spN 5 u a))) ?_ (nm_r (nI_1 a) (ih (a + 1) _ (by omega) ?_))⟩
    · have g := hG a (by omega)
      rw [if_neg (Nat.lt_irrefl a)] at g
      rw [ss_ci (by omega), ← ss_em_u, ← g, ← hU a (by omega)]
      exact congrArg (upd (ss_em G) a) (ss_NV_rem (ss_NV_mul (ss_NV_e _) (ss_NV_e _)))
    · intro j hj
      by_cases e : j = a
      · subst e
        rw [ss_us, if_pos (by omega)]
      · rw [ss_un e, hG j hj]
        by_cases c : j < a
        · rw [if_pos c, if_pos (by omega)]
        · rw [if_neg c, if_neg (by omega)]
theorem ss_E1_result {post : SX → Prop} {l r V U : Nat → ss_F} {c le ri re ot sl lW rW pt lL rL pL : Nat → Int32} (hl : ss_A le l 32) (hr : ss_A ri r 32) (h : ∀ x G U, ss_A x (ss_c l r) 32 → post (c, le, ri, x, ot, sl, ss_em G, ss_em U, lW, rW, pt, lL, rL, pL)) : wpX_multiplyByKaratsuba__result post (c, le, ri, re, ot, sl, ss_em V, ss_em U, lW, rW, pt, lL, rL, pL) := by
  unfold wpX_multiplyByKaratsuba__result
  exact ss_sd_left_leftPieces hl (fun G v hv hG => ss_sd_right_rightPieces hr (fun U' u hu hU => ⟨244, ss_E1_result_lp hv hu hG hU (fun x G' hx => h x G' U' hx) 243 0 G rfl (fun j hj => by rw [hG j hj]; exact (if_neg (by omega)).symm)⟩))
theorem ss_E1_otherResult_co {post : SX → Prop} {w : Nat → ss_F} {c le ri re sl lp rp lW rW pt lL rL pL : Nat → Int32} (hw : ss_A lp w 243) (P : ∀ x, ss_A x (ss_cl1 w 243) 32 → post (c, le, ri, re, x, sl, lp, rp, lW, rW, pt, lL, rL, pL)) : ∀ d a x, a + d = 243 → ss_A x (ss_cl1 w a) 32 → wX_multiplyByKaratsuba__otherResult_87 post (d + 1) (nI a) c le ri re x sl lp rp lW rW pt lL rL pL := by
  intro d
  induction d with
  | zero =>
    intro a x ha hx
    have : a = 243 := by omega
    subst this
    exact br_t (by decide) (P x hx)
  | succ d ih =>
    intro a x ha hx
    have b := ss_pN_le a (by omega)
    refine br_f (nI_ge (b := 243) (by omega) (by decide)) (ss_Xpp (by omega) ?_)
    by_cases c : ss_pN 5 a < 32
    · refine br_f (nI_ge (b := 32) c (by decide)) ⟨vp_in_nI c (by decide), vp_in_nI (by omega) (by decide), ss_pI, vp_in_nI c (by decide), nm_r (e' := upd x (ss_pN 5 a) (ss_e (ss_cl1 w (a + 1) (ss_pN 5 a)))) ?_ (nm_r (nI_1 a) (ih (a + 1) _ (by omega) (ss_A_congr (ss_A_u hx rfl) ?_)))⟩
      · rw [ss_ci (by omega), ss_ci (by omega), hx _ c, hw a (by omega), ss_cl1_eq]
        exact congrArg (upd x _) (ss_NV_rem (ss_NV_add (ss_NV_e _) (ss_NV_e _)))
      · intro n _
        by_cases e : n = ss_pN 5 a
        · subst e
          exact ss_us _ _ _
        · rw [ss_un e, ss_cl1_ne w (fun y => e y.symm)]
    · refine br_t (nI_le (a := 32) (by omega) (by omega)) (nm_r (nI_1 a) (ih (a + 1) x (by omega) (ss_A_congr hx ?_)))
      intro n hn
      rw [ss_cl1_ne w (by omega)]
theorem ss_E1_otherResult_z {post : SX → Prop} {w : Nat → ss_F} {c le ri re sl lp rp lW rW pt lL rL pL : Nat → Int32} (hw : ss_A lp w 243) (P : ∀ x, ss_A x (ss_cl1 w 243) 32 → post (c, le, ri, re, x, sl, lp, rp, lW, rW, pt, lL, rL, pL)) : ∀ d i x, i + d = 32 → ss_A x (fun _ => 0) i → wX_multiplyByKaratsuba__otherResult_69 post (d + 1) (nI i) c le ri re x sl lp rp lW rW pt lL rL pL := by
  intro d
  induction d with
  | zero =>
    intro i x hi hx
    have : i = 32 := by omega
    subst this
    exact br_t (by decide) ⟨244, ss_E1_otherResult_co hw P 243 0 x rfl (ss_A_congr hx (fun j _ => rfl))⟩
  | succ d ih =>
    intro i x hi hx
    exact br_f (nI_ge (b := 32) (by omega) (by decide)) ⟨vp_in_nI (by omega) (by decide), nm_r (e' := upd x i 0) (by rw [ss_ci (by omega)]) (nm_r (nI_1 i) (ih (i + 1) _ (by omega) (ss_A_s hx ss_e0.symm)))⟩
theorem ss_E1_otherResult_lp {post : SX → Prop} {l r v u V U : Nat → ss_F} {c le ri re ot sl lW rW pt lL rL pL : Nat → Int32} (hv : ss_Pl 5 v l) (hu : ss_Pl 5 u r) (hV : ∀ j, j < 243 → V j = ss_spN 5 v j) (hU : ∀ j, j < 243 → U j = ss_spN 5 u j) (h : ∀ x G, ss_A x (ss_c l r) 32 → post (c, le, ri, re, x, sl, ss_em G, ss_em U, lW, rW, pt, lL, rL, pL)) : ∀ d a G, a + d = 243 → (∀ j, j < 243 → G j = if j < a then ss_spN 5 v j * ss_spN 5 u j else ss_spN 5 v j) → wX_multiplyByKaratsuba__otherResult_24 post (d + 1) (nI a) c le ri re ot sl (ss_em G) (ss_em U) lW rW pt lL rL pL := by
  intro d
  induction d with
  | zero =>
    intro a G ha hG
    have : a = 243 := by omega
    subst this
    refine br_t (by decide) (ss_sm (v := fun j => ss_spN 5 v j * ss_spN 5 u j) (fun j hj => by rw [hG j hj, if_pos hj]) (fun G' hG' => ⟨33, ss_E1_otherResult_z (w := G') (ss_A_em G' 243) (fun x hx => h x G' (ss_A_congr hx ?_)) 32 0 _ rfl (ss_A_0 _ _)⟩))
    intro n hn
    have k := ss_kara 5 v u l r (fun t => if t = n then 1 else 0) hv hu
    rw [show 2 ^ 5 = 32 from rfl, ss_K_c l r hn] at k
    rw [← k]
    exact ss_s_congr (fun b hb => by rw [hG' b hb])
  | succ d ih =>
    intro a G ha hG
    refine br_f (nI_ge (b := 243) (by omega) (by decide)) ⟨vp_in_nI (by omega) (by decide), vp_in_nI (by omega) (by decide), ss_pI, vp_in_nI (by omega) (by decide), nm_r (e' := ss_em (ss_u G a (ss_spN 5 v a * ss_spN 5 u a))) ?_ (nm_r (nI_1 a) (ih (a + 1) _ (by omega) ?_))⟩
    · have g := hG a (by omega)
      rw [if_neg (Nat.lt_irrefl a)] at g
      rw [ss_ci (by omega), ← ss_em_u, ← g, ← hU a (by omega)]
      exact congrArg (upd (ss_em G) a) (ss_NV_rem (ss_NV_mul (ss_NV_e _) (ss_NV_e _)))
    · intro j hj
      by_cases e : j = a
      · subst e
        rw [ss_us, if_pos (by omega)]
      · rw [ss_un e, hG j hj]
        by_cases c : j < a
        · rw [if_pos c, if_pos (by omega)]
        · rw [if_neg c, if_neg (by omega)]
theorem ss_E1_otherResult {post : SX → Prop} {l r V U : Nat → ss_F} {c le ri re ot sl lW rW pt lL rL pL : Nat → Int32} (hl : ss_A le l 32) (hr : ss_A ri r 32) (h : ∀ x G U, ss_A x (ss_c l r) 32 → post (c, le, ri, re, x, sl, ss_em G, ss_em U, lW, rW, pt, lL, rL, pL)) : wpX_multiplyByKaratsuba__otherResult post (c, le, ri, re, ot, sl, ss_em V, ss_em U, lW, rW, pt, lL, rL, pL) := by
  unfold wpX_multiplyByKaratsuba__otherResult
  exact ss_sd_left_leftPieces hl (fun G v hv hG => ss_sd_right_rightPieces hr (fun U' u hu hU => ⟨244, ss_E1_otherResult_lp hv hu hG hU (fun x G' hx => h x G' U' hx) 243 0 G rfl (fun j hj => by rw [hG j hj]; exact (if_neg (by omega)).symm)⟩))
end
section
/-! the product by any engine; multiply and agree -/
theorem ss_YeF {A B : Prop} {x : Int32} (h : x < 0 ∨ 5 ≤ x) (p : A) : (x < 0 → A) ∧ (¬ x < 0 → ((4 < x → A) ∧ (¬ 4 < x → B))) := br_c (fun _ => p) (fun h0 => br_t (ss_5 (h.resolve_left h0)) p)
theorem ss_YeT {A B : Prop} {s : Nat} (hs : s < 5) (p : B) : (nI s < 0 → A) ∧ (¬ nI s < 0 → ((4 < nI s → A) ∧ (¬ 4 < nI s → B))) := br_f (nI_pos (by omega)) (br_f (ss_n4 hs) p)
theorem ss_FP_result {post : SX → Prop} {l r : Nat → ss_F} {c le ri re ot sl lp rp lW rW pt lL rL pL : Nat → Int32} (hP : ss_P lp rp) (hl : ss_A le l 32) (hr : ss_A ri r 32) {e : Nat} (he : e < 5) (h : ∀ x a1 a2 a3 a4 a5 a6 a7 a8, ss_P a1 a2 → ss_A x (ss_c l r) 32 → post (c, le, ri, x, ot, sl, a1, a2, a3, a4, a5, a6, a7, a8)) : wpX_findProduct__result post (c, le, ri, re, ot, sl, lp, rp, lW, rW, pt, lL, rL, pL) (nI e) := by
  obtain ⟨⟨g1, rfl⟩, ⟨g2, rfl⟩⟩ := hP
  have hP : ss_P (ss_em g1) (ss_em g2) := ⟨⟨g1, rfl⟩, ⟨g2, rfl⟩⟩
  unfold wpX_findProduct__result
  refine br_f (nI_pos (by omega)) (br_f (ss_n4 he) ?_)
  have c : e = 0 ∨ e = 1 ∨ e = 2 ∨ e = 3 ∨ e = 4 := by omega
  rcases c with rfl | rfl | rfl | rfl | rfl
  · exact br_t (by decide) (ss_E0_result hl hr (fun x hx => h x _ _ _ _ _ _ _ _ hP hx))
  · exact br_f (by decide) (br_t (by decide) (ss_E1_result hl hr (fun x G U hx => h x _ _ _ _ _ _ _ _ ⟨⟨G, rfl⟩, ⟨U, rfl⟩⟩ hx)))
  · exact br_f (by decide) (br_f (by decide) (br_t (by decide) (ss_E2_result hl hr (fun x a b hx => h x _ _ _ _ _ _ _ _ hP hx))))
  · exact br_f (by decide) (br_f (by decide) (br_f (by decide) (br_t (by decide) (ss_E3_result hl hr (fun x y hx => h x _ _ _ _ _ _ _ _ hP hx)))))
  · exact br_f (by decide) (br_f (by decide) (br_f (by decide) (br_f (by decide) (br_t (by decide) (ss_E4_result hl hr (fun x a b w hx => h x _ _ _ _ _ _ _ _ hP hx))))))
theorem ss_FP_otherResult {post : SX → Prop} {l r : Nat → ss_F} {c le ri re ot sl lp rp lW rW pt lL rL pL : Nat → Int32} (hP : ss_P lp rp) (hl : ss_A le l 32) (hr : ss_A ri r 32) {e : Nat} (he : e < 5) (h : ∀ x a1 a2 a3 a4 a5 a6 a7 a8, ss_P a1 a2 → ss_A x (ss_c l r) 32 → post (c, le, ri, re, x, sl, a1, a2, a3, a4, a5, a6, a7, a8)) : wpX_findProduct__otherResult post (c, le, ri, re, ot, sl, lp, rp, lW, rW, pt, lL, rL, pL) (nI e) := by
  obtain ⟨⟨g1, rfl⟩, ⟨g2, rfl⟩⟩ := hP
  have hP : ss_P (ss_em g1) (ss_em g2) := ⟨⟨g1, rfl⟩, ⟨g2, rfl⟩⟩
  unfold wpX_findProduct__otherResult
  refine br_f (nI_pos (by omega)) (br_f (ss_n4 he) ?_)
  have c : e = 0 ∨ e = 1 ∨ e = 2 ∨ e = 3 ∨ e = 4 := by omega
  rcases c with rfl | rfl | rfl | rfl | rfl
  · exact br_t (by decide) (ss_E0_otherResult hl hr (fun x hx => h x _ _ _ _ _ _ _ _ hP hx))
  · exact br_f (by decide) (br_t (by decide) (ss_E1_otherResult hl hr (fun x G U hx => h x _ _ _ _ _ _ _ _ ⟨⟨G, rfl⟩, ⟨U, rfl⟩⟩ hx)))
  · exact br_f (by decide) (br_f (by decide) (br_t (by decide) (ss_E2_otherResult hl hr (fun x a b hx => h x _ _ _ _ _ _ _ _ hP hx))))
  · exact br_f (by decide) (br_f (by decide) (br_f (by decide) (br_t (by decide) (ss_E3_otherResult hl hr (fun x y hx => h x _ _ _ _ _ _ _ _ hP hx)))))
  · exact br_f (by decide) (br_f (by decide) (br_f (by decide) (br_f (by decide) (br_t (by decide) (ss_E4_otherResult hl hr (fun x a b w hx => h x _ _ _ _ _ _ _ _ hP hx))))))
theorem i_vc_multiply {k : Nat} {u : SX} {v : SY} (I : i_Rel k u v) (hk : k + 5 ≤ 2560) (v1 : Int32) (v2 : Int32) (v3 : Int32) : wpX_multiply (fun r u' => wpY_multiply (fun r' v' => r' = r ∧ i_Rel (k + 5) u' v') v v1 v2 v3) u v1 v2 v3 := by
  obtain ⟨f, le, ri, re, ot, sl, lp, rp, lW, rW, pt, lL, rL, pL, m, rfl, rfl, hP⟩ := I
  rcases ss_ser v1 with h | ⟨e, he, rfl⟩
  · unfold wpX_multiply wpY_multiply
    exact ss_XengF h (br_t rfl (ss_YeF h ⟨rfl, ss_R hP⟩))
  · rcases ss_ser v2 with h | ⟨s, hs, rfl⟩
    · unfold wpX_multiply wpY_multiply
      exact ss_XengT he (br_f ss_10 (ss_XserF h (br_t rfl (ss_YeT he (ss_YserF h (br_t rfl ⟨rfl, ss_R hP⟩))))))
    · rcases ss_ser v3 with h | ⟨t, ht, rfl⟩
      · unfold wpX_multiply wpY_multiply
        exact ss_XengT he (br_f ss_10 (ss_XserT hs (br_f ss_10 (ss_XserF h (br_t rfl (ss_YeT he (ss_YserT hs (br_f ss_10 (ss_YserF h (br_t rfl ⟨rfl, ss_R hP⟩)))))))))) 
      · unfold wpX_multiply
        refine ss_XengT he (br_f ss_10 (ss_XserT hs (br_f ss_10 (ss_XserT ht (br_f ss_10 (ss_ld_left hs (fun x hx => ss_ld_right ht (fun y hy => ss_FP_result hP hx hy he (fun z a1 a2 a3 a4 a5 a6 a7 a8 hQ hz => ss_st_result hs hz ?_))))))))) 
        unfold wpY_multiply
        exact ss_YeT he (ss_YserT hs (br_f ss_10 (ss_YserT ht (br_f ss_10 ⟨33, ss_Y_mu_lp hs ht (fun m => ⟨rfl, ss_R hQ⟩) 32 0 m rfl (ss_A_0 _ _)⟩))))
theorem ss_ag_lp {post : Int32 → SX → Prop} {g : Nat → ss_F} {c le ri re ot sl lp rp lW rW pt lL rL pL : Nat → Int32} (h1 : ss_A re g 32) (h2 : ss_A ot g 32) (p : post 1 (c, le, ri, re, ot, sl, lp, rp, lW, rW, pt, lL, rL, pL)) : ∀ d n, n + d = 32 → wX_agree_71 post c le ri re ot sl lp rp lW rW pt lL rL pL (d + 1) (nI n) := by
  intro d
  induction d with
  | zero =>
    intro n hn
    have : n = 32 := by omega
    subst this
    exact br_t (by decide) p
  | succ d ih =>
    intro n hn
    exact br_f (nI_ge (b := 32) (by omega) (by decide)) ⟨vp_in_nI (by omega) (by decide), vp_in_nI (by omega) (by decide), br_t (by rw [ss_ci (by omega), h1 n (by omega), h2 n (by omega)]) (nm_r (nI_1 n) (ih (n + 1) (by omega)))⟩
theorem i_vc_agree {k : Nat} {u : SX} {v : SY} (I : i_Rel k u v) (hk : k + 5 ≤ 2560) (v1 : Int32) (v2 : Int32) (v3 : Int32) (v4 : Int32) : wpX_agree (fun r u' => wpY_agree (fun r' => r' = r ∧ i_Rel (k + 5) u' v) v v1 v2 v3 v4) u v1 v2 v3 v4 := by
  obtain ⟨f, le, ri, re, ot, sl, lp, rp, lW, rW, pt, lL, rL, pL, m, rfl, rfl, hP⟩ := I
  rcases ss_ser v1 with h | ⟨e, he, rfl⟩
  · unfold wpX_agree wpY_agree
    exact ss_XengF h (br_t rfl (ss_YeF h ⟨rfl, ss_R hP⟩))
  · rcases ss_ser v2 with h | ⟨o, ho, rfl⟩
    · unfold wpX_agree wpY_agree
      exact ss_XengT he (br_f ss_10 (ss_XengF h (br_t rfl (ss_YeT he (ss_YeF h ⟨rfl, ss_R hP⟩)))))
    · rcases ss_ser v3 with h | ⟨s, hs, rfl⟩
      · unfold wpX_agree wpY_agree
        exact ss_XengT he (br_f ss_10 (ss_XengT ho (br_f ss_10 (ss_XserF h (br_t rfl (ss_YeT he (ss_YeT ho (ss_YserF h (br_t rfl ⟨rfl, ss_R hP⟩)))))))))
      · rcases ss_ser v4 with h | ⟨t, ht, rfl⟩
        · unfold wpX_agree wpY_agree
          exact ss_XengT he (br_f ss_10 (ss_XengT ho (br_f ss_10 (ss_XserT hs (br_f ss_10 (ss_XserF h (br_t rfl (ss_YeT he (ss_YeT ho (ss_YserT hs (br_f ss_10 (ss_YserF h (br_t rfl ⟨rfl, ss_R hP⟩)))))))))))))
        · unfold wpX_agree
          refine ss_XengT he (br_f ss_10 (ss_XengT ho (br_f ss_10 (ss_XserT hs (br_f ss_10 (ss_XserT ht (br_f ss_10 (ss_ld_left hs (fun x hx => ss_ld_right ht (fun y hy => ss_FP_result hP hx hy he (fun z a1 a2 a3 a4 a5 a6 a7 a8 hQ hz => ss_FP_otherResult hQ hx hy ho (fun w b1 b2 b3 b4 b5 b6 b7 b8 hQ' hw => ⟨33, ss_ag_lp hz hw ?_ 32 0 rfl⟩))))))))))))
          unfold wpY_agree
          exact ss_YeT he (ss_YeT ho (ss_YserT hs (br_f ss_10 (ss_YserT ht (br_f ss_10 ⟨rfl, ss_R hQ'⟩)))))
end
