/-! the transform of 64 places: one level, its values, and the way back -/
def ss_pt (h : Nat) (ρ : ss_F) (A : Nat → ss_F) : Nat → ss_F := fun j => if j % (2 * h) < h then A j + A (j + h) else (A (j - h) - A j) * ss_p ρ (j % (2 * h) - h)
def ss_jn (h : Nat) (σ : ss_F) (A : Nat → ss_F) : Nat → ss_F := fun j => if j % (2 * h) < h then A j + A (j + h) * ss_p σ (j % (2 * h)) else A (j - h) - A j * ss_p σ (j % (2 * h) - h)
def ss_H (h : Nat) : Prop := h = 32 ∨ h = 16 ∨ h = 8 ∨ h = 4 ∨ h = 2 ∨ h = 1
theorem ss_Hm {h : Nat} (hh : ss_H h) (j : Nat) : (j % (2 * h) < h → (j + h) % (2 * h) = j % (2 * h) + h) ∧ (h ≤ j % (2 * h) → (j - h) % (2 * h) = j % (2 * h) - h ∧ h ≤ j) ∧ j % (2 * h) < 2 * h := by
  rcases hh with rfl | rfl | rfl | rfl | rfl | rfl <;> omega
theorem ss_Hb {h : Nat} (hh : ss_H h) {j : Nat} (hj : j < 64) (hq : j % (2 * h) < h) : j + h < 64 := by
  rcases hh with rfl | rfl | rfl | rfl | rfl | rfl <;> omega
theorem ss_jn_pt {h : Nat} (hh : ss_H h) {ρ σ k : ss_F} (e : ρ * σ = 1) (A B : Nat → ss_F) (hB : ∀ j, j < 64 → B j = k * ss_pt h ρ A j) : ∀ j, j < 64 → ss_jn h σ B j = (k + k) * A j := by
  intro j hj
  have m := ss_Hm hh j
  have pq : ∀ n, ss_p ρ n * ss_p σ n = 1 := fun n => by rw [← ss_p_mulb, e, ss_p_one]
  unfold ss_jn
  by_cases q : j % (2 * h) < h
  · rw [if_pos q, hB j hj, hB (j + h) (ss_Hb hh hj q)]
    have e1 : ss_pt h ρ A j = A j + A (j + h) := if_pos q
    have e2 : ss_pt h ρ A (j + h) = (A j - A (j + h)) * ss_p ρ (j % (2 * h)) := by
      unfold ss_pt
      have m1 := m.1 q
      rw [if_neg (by omega), m1, Nat.add_sub_cancel, Nat.add_sub_cancel]
    rw [e1, e2]
    have := pq (j % (2 * h))
    grobner
  · have m2 := m.2.1 (by omega)
    rw [if_neg q, hB j hj, hB (j - h) (by omega)]
    have e1 : ss_pt h ρ A j = (A (j - h) - A j) * ss_p ρ (j % (2 * h) - h) := if_neg q
    have e2 : ss_pt h ρ A (j - h) = A (j - h) + A j := by
      unfold ss_pt
      rw [if_pos (by omega), Nat.sub_add_cancel m2.2]
    rw [e1, e2]
    have := pq (j % (2 * h) - h)
    grobner
/-- the point that belongs to a block of a level -/
def ss_th (ω : ss_F) : Nat → Nat → ss_F
  | 0, _ => 1
  | L + 1, b => if b % 2 = 0 then ss_th ω L (b / 2) else ss_th ω L (b / 2) * ss_p ω (2 ^ L)
/-- what a level keeps: each block has the values of c at its turned points -/
def ss_EV (ω : ss_F) (c : Nat → ss_F) (L s : Nat) (A : Nat → ss_F) : Prop := ∀ b, b < 2 ^ L → ∀ x, ss_p x s = 1 → ss_s (fun q => A (b * s + q) * ss_p x q) s = ss_v 64 c (x * ss_th ω L b)
theorem ss_EV0 (ω : ss_F) (c : Nat → ss_F) : ss_EV ω c 0 64 c := by
  intro b hb x _
  have : b = 0 := by omega
  subst this
  show ss_s (fun q => c (0 * 64 + q) * ss_p x q) 64 = ss_v 64 c (x * 1)
  have e : x * 1 = x := by grobner
  rw [e]
  apply ss_s_congr
  intro i _
  rw [show 0 * 64 + i = i from by omega]
theorem ss_EVs {ω : ss_F} {c : Nat → ss_F} {L h : Nat} (hh : ss_H h) {A : Nat → ss_F} (hA : ss_EV ω c L (2 * h) A) (hr : ss_p (ss_p ω (2 ^ L)) h = -1) : ss_EV ω c (L + 1) h (ss_pt h (ss_p ω (2 ^ L)) A) := by
  intro b hb x hx
  generalize hρ : ss_p ω (2 ^ L) = ρ at hr ⊢
  have hb2 : b / 2 < 2 ^ L := by rw [Nat.pow_succ] at hb; omega
  have dbl : ∀ y, ss_p y (2 * h) = ss_p y h * ss_p y h := fun y => by rw [Nat.two_mul, ss_p_add]
  by_cases p : b % 2 = 0
  · have e1 : ss_th ω (L + 1) b = ss_th ω L (b / 2) := if_pos p
    have hx2 : ss_p x (2 * h) = 1 := by rw [dbl, hx]; grobner
    rw [e1, ← hA (b / 2) hb2 x hx2, Nat.two_mul h, ss_s_split, ← ss_s_add]
    apply ss_s_congr
    intro q hq
    try dsimp only
    have e2 : b * h = b / 2 * (2 * h) := by
      have : b = b / 2 * 2 := by omega
      conv => lhs; rw [this]
      rw [Nat.mul_assoc]
    have e3 : ss_pt h ρ A (b * h + q) = A (b / 2 * (h + h) + q) + A (b / 2 * (h + h) + (h + q)) := by
      rw [e2]
      unfold ss_pt
      have m : (b / 2 * (2 * h) + q) % (2 * h) = q := Nat.mul_add_mod_of_lt (by omega)
      rw [if_pos (by omega), ← Nat.two_mul, show b / 2 * (2 * h) + q + h = b / 2 * (2 * h) + (h + q) from by omega]
    rw [e3, ss_p_add, hx]
    grobner
  · have e1 : ss_th ω (L + 1) b = ss_th ω L (b / 2) * ρ := by
      show (if b % 2 = 0 then _ else _) = _
      rw [if_neg p, hρ]
    have hx2 : ss_p (ρ * x) (2 * h) = 1 := by rw [dbl, ss_p_mulb, hx, hr]; grobner
    have e0 : x * (ss_th ω L (b / 2) * ρ) = (ρ * x) * ss_th ω L (b / 2) := by grobner
    rw [e1, e0, ← hA (b / 2) hb2 (ρ * x) hx2, Nat.two_mul h, ss_s_split, ← ss_s_add]
    apply ss_s_congr
    intro q hq
    try dsimp only
    have e2 : b * h = b / 2 * (2 * h) + h := by
      have : b = b / 2 * 2 + 1 := by omega
      conv => lhs; rw [this]
      rw [Nat.add_mul, Nat.mul_assoc, Nat.one_mul]
    have e3 : ss_pt h ρ A (b * h + q) = (A (b / 2 * (h + h) + q) - A (b / 2 * (h + h) + (h + q))) * ss_p ρ q := by
      rw [e2]
      unfold ss_pt
      have m : (b / 2 * (2 * h) + h + q) % (2 * h) = h + q := by rw [Nat.add_assoc]; exact Nat.mul_add_mod_of_lt (by omega)
      rw [m, if_neg (by omega), ← Nat.two_mul, show b / 2 * (2 * h) + h + q - h = b / 2 * (2 * h) + q from by omega, show b / 2 * (2 * h) + h + q = b / 2 * (2 * h) + (h + q) from by omega, Nat.add_sub_cancel_left]
    rw [e3, ss_p_add (ρ * x) h q, ss_p_mulb ρ x h, hx, hr, ss_p_mulb]
    grobner
/-- the root of the component, and its inverse -/
def ss_w : ss_F := 7311
def ss_wi : ss_F := 9650
theorem ss_w_i : ss_w * ss_wi = 1 := by decide +kernel
theorem ss_w32 : ss_p ss_w 32 = -1 := by decide +kernel
theorem ss_wL {L h : Nat} (e : 2 ^ L * h = 32) : ss_p (ss_p ss_w (2 ^ L)) h = -1 := by rw [← ss_p_mul, e, ss_w32]
def ss_T (A : Nat → ss_F) : Nat → Nat → ss_F
  | 0 => A
  | L + 1 => ss_pt (32 / 2 ^ L) (ss_p ss_w (2 ^ L)) (ss_T A L)
def ss_Bk (A : Nat → ss_F) : Nat → Nat → ss_F
  | 0 => A
  | L + 1 => ss_jn (2 ^ L) (ss_p ss_wi (2 ^ (5 - L))) (ss_Bk A L)
theorem ss_T_EV (A : Nat → ss_F) : ss_EV ss_w A 6 1 (ss_T A 6) := by
  have h0 := ss_EV0 ss_w A
  have h1 := ss_EVs (L := 0) (h := 32) (Or.inl rfl) h0 (ss_wL (by decide))
  have h2 := ss_EVs (L := 1) (h := 16) (Or.inr (Or.inl rfl)) h1 (ss_wL (by decide))
  have h3 := ss_EVs (L := 2) (h := 8) (Or.inr (Or.inr (Or.inl rfl))) h2 (ss_wL (by decide))
  have h4 := ss_EVs (L := 3) (h := 4) (Or.inr (Or.inr (Or.inr (Or.inl rfl)))) h3 (ss_wL (by decide))
  have h5 := ss_EVs (L := 4) (h := 2) (Or.inr (Or.inr (Or.inr (Or.inr (Or.inl rfl))))) h4 (ss_wL (by decide))
  exact ss_EVs (L := 5) (h := 1) (Or.inr (Or.inr (Or.inr (Or.inr (Or.inr rfl))))) h5 (ss_wL (by decide))
theorem ss_T_v (A : Nat → ss_F) {b : Nat} (hb : b < 64) : ss_T A 6 b = ss_v 64 A (ss_th ss_w 6 b) := by
  have e := ss_T_EV A b (by omega) 1 (ss_p_one 1)
  have e1 : (1 : ss_F) * ss_th ss_w 6 b = ss_th ss_w 6 b := by grobner
  rw [e1, ss_ss, ss_s0, ss_p0, show b * 1 + 0 = b from by omega] at e
  rw [← e]
  grobner
theorem ss_wiL (L : Nat) : ss_p ss_w L * ss_p ss_wi L = 1 := by rw [← ss_p_mulb, ss_w_i, ss_p_one]
theorem ss_B_T (A B : Nat → ss_F) (hB : ∀ j, j < 64 → B j = ss_T A 6 j) : ∀ j, j < 64 → ss_Bk B 6 j = ss_n 64 * A j := by
  have k0 : ∀ j, j < 64 → B j = 1 * ss_pt 1 (ss_p ss_w (2 ^ 5)) (ss_T A 5) j := fun j hj => by
    rw [hB j hj]
    have e : ∀ t : ss_F, 1 * t = t := fun t => by grobner
    rw [e]
    rfl
  have k1 := ss_jn_pt (h := 1) (Or.inr (Or.inr (Or.inr (Or.inr (Or.inr rfl))))) (ss_wiL (2 ^ 5)) _ _ k0
  have k2 := ss_jn_pt (h := 2) (A := ss_T A 4) (ρ := ss_p ss_w (2 ^ 4)) (Or.inr (Or.inr (Or.inr (Or.inr (Or.inl rfl))))) (ss_wiL (2 ^ 4)) _ k1
  have k3 := ss_jn_pt (h := 4) (A := ss_T A 3) (ρ := ss_p ss_w (2 ^ 3)) (Or.inr (Or.inr (Or.inr (Or.inl rfl)))) (ss_wiL (2 ^ 3)) _ k2
  have k4 := ss_jn_pt (h := 8) (A := ss_T A 2) (ρ := ss_p ss_w (2 ^ 2)) (Or.inr (Or.inr (Or.inl rfl))) (ss_wiL (2 ^ 2)) _ k3
  have k5 := ss_jn_pt (h := 16) (A := ss_T A 1) (ρ := ss_p ss_w (2 ^ 1)) (Or.inr (Or.inl rfl)) (ss_wiL (2 ^ 1)) _ k4
  have k6 := ss_jn_pt (h := 32) (A := ss_T A 0) (ρ := ss_p ss_w (2 ^ 0)) (Or.inl rfl) (ss_wiL (2 ^ 0)) _ k5
  intro j hj
  have e := k6 j hj
  have c : (((((1 + 1 + (1 + 1)) + (1 + 1 + (1 + 1))) + ((1 + 1 + (1 + 1)) + (1 + 1 + (1 + 1)))) + (((1 + 1 + (1 + 1)) + (1 + 1 + (1 + 1))) + ((1 + 1 + (1 + 1)) + (1 + 1 + (1 + 1))))) + ((((1 + 1 + (1 + 1)) + (1 + 1 + (1 + 1))) + ((1 + 1 + (1 + 1)) + (1 + 1 + (1 + 1)))) + (((1 + 1 + (1 + 1)) + (1 + 1 + (1 + 1))) + ((1 + 1 + (1 + 1)) + (1 + 1 + (1 + 1))))) : ss_F) = ss_n 64 := by decide
  rw [c] at e
  exact e
theorem ss_ntt (l r B : Nat → ss_F) (hB : ∀ j, j < 64 → B j = ss_T (ss_k l) 6 j * ss_T (ss_k r) 6 j) {n : Nat} (hn : n < 32) : ss_Bk B 6 n * ss_n 12097 = ss_c l r n := by
  have cut : ∀ (f : Nat → ss_F) x, ss_v 64 (ss_k f) x = ss_v 32 f x := by
    intro f x
    unfold ss_v
    rw [ss_s_cut (m := 32) (by omega) (fun j h1 _ => by rw [ss_k_ge h1]; grobner)]
    exact ss_s_congr (fun j hj => by rw [ss_k_lt hj])
  have h := ss_B_T (ss_c (ss_k l) (ss_k r)) B (fun j hj => by rw [hB j hj, ss_T_v _ hj, ss_T_v _ hj, ss_T_v _ hj, cut, cut, ss_v_c l r _ (by omega)]) n (by omega)
  rw [h, ss_c_k hn]
  have e : ss_n 64 * ss_n 12097 = 1 := by decide
  generalize ss_n 64 = x at e
  generalize ss_n 12097 = y at e
  grobner
