/-! the sequences behind invert, exp, root and log; division; degrees; the search for an inverse -/
/-- sums of products from first on, k of them -/
def ss_o (a b : Nat → ss_F) (n first k : Nat) : ss_F := ss_s (fun i => a (first + i) * b (n - (first + i))) k
theorem ss_o_congr {a b a' b' : Nat → ss_F} {n first k : Nat} (ha : ∀ i, i < k → a (first + i) = a' (first + i)) (hb : ∀ i, i < k → b (n - (first + i)) = b' (n - (first + i))) : ss_o a b n first k = ss_o a' b' n first k :=
  ss_s_congr (fun i hi => by rw [ha i hi, hb i hi])
def ss_stI (l : Nat → ss_F) (c : ss_F) (g : Nat → ss_F) (n : Nat) : ss_F := if n = 0 then c else (-ss_o l g n 1 n) * c
def ss_stE (l : Nat → ss_F) (g : Nat → ss_F) (n : Nat) : ss_F := if n = 0 then 1 else ss_o (fun i => ss_n i * l i) g n 1 n * ss_i (ss_n n)
def ss_stR (l : Nat → ss_F) (g : Nat → ss_F) (n : Nat) : ss_F := if n = 0 then 1 else (l n - ss_o g g n 1 (n - 1)) * ss_n 6145
def ss_stL (l : Nat → ss_F) (g : Nat → ss_F) (n : Nat) : ss_F := if n = 0 then 0 else ss_n n * l n - ss_o g l n 1 (n - 1)
def ss_gI (l : Nat → ss_F) (c : ss_F) : Nat → ss_F := ss_q (ss_stI l c) 32
def ss_gE (l : Nat → ss_F) : Nat → ss_F := ss_q (ss_stE l) 32
def ss_gR (l : Nat → ss_F) : Nat → ss_F := ss_q (ss_stR l) 32
def ss_gS (l : Nat → ss_F) : Nat → ss_F := ss_q (ss_stL l) 32
def ss_gL (l : Nat → ss_F) (n : Nat) : ss_F := ss_gS l n * ss_i (ss_n n)
theorem ss_gI_eq (l : Nat → ss_F) (c : ss_F) {n : Nat} (h : n < 32) : ss_gI l c n = ss_stI l c (ss_gI l c) n := by
  refine ss_q_eq _ 32 (fun f g n hj => ?_) n h
  unfold ss_stI
  by_cases z : n = 0
  · rw [if_pos z, if_pos z]
  · rw [if_neg z, if_neg z, ss_o_congr (fun i _ => rfl) (fun i hi => hj _ (by omega))]
theorem ss_gE_eq (l : Nat → ss_F) {n : Nat} (h : n < 32) : ss_gE l n = ss_stE l (ss_gE l) n := by
  refine ss_q_eq _ 32 (fun f g n hj => ?_) n h
  unfold ss_stE
  by_cases z : n = 0
  · rw [if_pos z, if_pos z]
  · rw [if_neg z, if_neg z, ss_o_congr (fun i _ => rfl) (fun i hi => hj _ (by omega))]
theorem ss_gR_eq (l : Nat → ss_F) {n : Nat} (h : n < 32) : ss_gR l n = ss_stR l (ss_gR l) n := by
  refine ss_q_eq _ 32 (fun f g n hj => ?_) n h
  unfold ss_stR
  by_cases z : n = 0
  · rw [if_pos z, if_pos z]
  · rw [if_neg z, if_neg z, ss_o_congr (fun i hi => hj _ (by omega)) (fun i hi => hj _ (by omega))]
theorem ss_gS_eq (l : Nat → ss_F) {n : Nat} (h : n < 32) : ss_gS l n = ss_stL l (ss_gS l) n := by
  refine ss_q_eq _ 32 (fun f g n hj => ?_) n h
  unfold ss_stL
  by_cases z : n = 0
  · rw [if_pos z, if_pos z]
  · rw [if_neg z, if_neg z, ss_o_congr (fun i hi => hj _ (by omega)) (fun i _ => rfl)]
theorem ss_gI_0 (l : Nat → ss_F) (c : ss_F) : ss_gI l c 0 = c := by rw [ss_gI_eq l c (by omega)]; exact if_pos rfl
theorem ss_gI_n (l : Nat → ss_F) (c : ss_F) {n : Nat} (h0 : 0 < n) (h : n < 32) : ss_gI l c n = (-ss_o l (ss_gI l c) n 1 n) * c := by rw [ss_gI_eq l c h]; exact if_neg (by omega)
theorem ss_gE_0 (l : Nat → ss_F) : ss_gE l 0 = 1 := by rw [ss_gE_eq l (by omega)]; exact if_pos rfl
theorem ss_gE_n (l : Nat → ss_F) {n : Nat} (h0 : 0 < n) (h : n < 32) : ss_gE l n = ss_o (fun i => ss_n i * l i) (ss_gE l) n 1 n * ss_i (ss_n n) := by rw [ss_gE_eq l h]; exact if_neg (by omega)
theorem ss_gR_0 (l : Nat → ss_F) : ss_gR l 0 = 1 := by rw [ss_gR_eq l (by omega)]; exact if_pos rfl
theorem ss_gR_n (l : Nat → ss_F) {n : Nat} (h0 : 0 < n) (h : n < 32) : ss_gR l n = (l n - ss_o (ss_gR l) (ss_gR l) n 1 (n - 1)) * ss_n 6145 := by rw [ss_gR_eq l h]; exact if_neg (by omega)
theorem ss_gS_n (l : Nat → ss_F) {n : Nat} (h0 : 0 < n) (h : n < 32) : ss_gS l n = ss_n n * l n - ss_o (ss_gS l) l n 1 (n - 1) := by rw [ss_gS_eq l h]; exact if_neg (by omega)
theorem ss_gL_0 (l : Nat → ss_F) : ss_gL l 0 = 0 := by
  unfold ss_gL
  rw [ss_gS_eq l (by omega)]
  show (if 0 = 0 then (0 : ss_F) else _) * _ = 0
  rw [if_pos rfl]
  grobner
theorem ss_gL_s (l : Nat → ss_F) {n : Nat} (h0 : 0 < n) (h : n < 32) : ss_n n * ss_gL l n = ss_gS l n := by
  unfold ss_gL
  have i := ss_i_mul (ss_n_ne (n := n) h0 (by omega))
  generalize ss_i (ss_n n) = v at i
  grobner
/-- the reference's sum for exp is the component's, backwards -/
theorem ss_o_rev (a b : Nat → ss_F) (n : Nat) : ss_s (fun i => b i * a (n - i + 1)) (n + 1) = ss_o a b (n + 1) 1 (n + 1) := by
  unfold ss_o
  rw [ss_s_rev (fun i => a (1 + i) * b (n + 1 - (1 + i)))]
  apply ss_s_congr
  intro i hi
  rw [show 1 + (n + 1 - 1 - i) = n - i + 1 from by omega, show n + 1 - (n - i + 1) = i from by omega]
  grobner
/-- one round of a division, of which i places are done; all rounds from low = k - 1 down -/
def ss_r1 (t : Nat → ss_F) (q : ss_F) (low i : Nat) (a : Nat → ss_F) : Nat → ss_F := fun j => if low ≤ j ∧ j < low + i then a j - q * t (j - low) else a j
theorem ss_r1_0 (t : Nat → ss_F) (q : ss_F) (low : Nat) (a : Nat → ss_F) : ss_r1 t q low 0 a = a := by
  funext j
  exact if_neg (by omega)
theorem ss_r1_at (t : Nat → ss_F) (q : ss_F) (low i : Nat) (a : Nat → ss_F) : ss_r1 t q low i a (low + i) = a (low + i) := if_neg (by omega)
theorem ss_r1_s (t : Nat → ss_F) (q : ss_F) (low i : Nat) (a : Nat → ss_F) : ss_u (ss_r1 t q low i a) (low + i) (a (low + i) - q * t i) = ss_r1 t q low (i + 1) a := by
  funext j
  by_cases h : j = low + i
  · subst h
    rw [ss_us]
    unfold ss_r1
    rw [if_pos (by omega), show low + i - low = i from by omega]
  · rw [ss_un h]
    unfold ss_r1
    by_cases h2 : low ≤ j ∧ j < low + i
    · rw [if_pos h2, if_pos (by omega)]
    · rw [if_neg h2, if_neg (by omega)]
def ss_rs (t : Nat → ss_F) (d : Nat) (lead : ss_F) : Nat → (Nat → ss_F) → Nat → ss_F
  | 0, a => a
  | k + 1, a => ss_rs t d lead k (ss_r1 t (a (k + d) * lead) k (d + 1) a)
/-- one more than the degree of the n lowest places, 0 for none -/
def ss_d (f : Nat → ss_F) : Nat → Nat
  | 0 => 0
  | n + 1 => if f n = 0 then ss_d f n else n + 1
theorem ss_d_le (f : Nat → ss_F) : ∀ n, ss_d f n ≤ n := by
  intro n
  induction n with
  | zero => exact Nat.le_refl 0
  | succ n ih =>
    show (if f n = 0 then ss_d f n else n + 1) ≤ n + 1
    split <;> omega
theorem ss_d_ne (f : Nat → ss_F) : ∀ n k, ss_d f n = k + 1 → f k ≠ 0 := by
  intro n
  induction n with
  | zero => intro k h; exact absurd h (by show ¬ 0 = k + 1; omega)
  | succ n ih =>
    intro k h
    have h' : (if f n = 0 then ss_d f n else n + 1) = k + 1 := h
    by_cases z : f n = 0
    · rw [if_pos z] at h'
      exact ih k h'
    · rw [if_neg z] at h'
      have : n = k := by omega
      subst this
      exact z
theorem ss_d_congr {f g : Nat → ss_F} {n : Nat} (h : ∀ j, j < n → f j = g j) : ss_d f n = ss_d g n := by
  induction n with
  | zero => rfl
  | succ n ih =>
    show (if f n = 0 then ss_d f n else n + 1) = (if g n = 0 then ss_d g n else n + 1)
    rw [h n (by omega), ih (fun j hj => h j (by omega))]
/-- the answer of degree, and a counter that goes down: k - 1 -/
def ss_m (k : Nat) : Int32 := nI k + (-1)
theorem ss_m_s (k : Nat) : ss_m (k + 1) = nI k := pk_m1 k
theorem ss_m_0 : ss_m 0 = -1 := by decide
theorem ss_m_neg : ¬ (0 : Int32) ≤ ss_m 0 := by decide
/-- the search: the first k for which a divides 1 + 12289 k gives the inverse -/
theorem ss_srch {a : ss_F} (ha : a ≠ 0) : ∃ K, K < 12289 ∧ (1 + 12289 * K) % a.val = 0 := by
  have e := ss_i_mul ha
  have e2 := congrArg Fin.val e
  rw [Fin.val_mul] at e2
  have e3 : (1 : ss_F).val = 1 := rfl
  rw [e3] at e2
  refine ⟨a.val * (ss_i a).val / 12289, ?_, ?_⟩
  · apply Nat.div_lt_of_lt_mul
    have h1 := a.isLt
    have h2 := (ss_i a).isLt
    have h3 : a.val * (ss_i a).val ≤ 12288 * 12288 := Nat.mul_le_mul (by omega) (by omega)
    omega
  · have e4 : 1 + 12289 * (a.val * (ss_i a).val / 12289) = a.val * (ss_i a).val := by
      generalize a.val * (ss_i a).val = p at e2
      omega
    rw [e4]
    exact Nat.mul_mod_right _ _
theorem ss_srch_i {a : ss_F} (ha : a ≠ 0) {K : Nat} (h : (1 + 12289 * K) % a.val = 0) (hm : ∀ j, j < K → (1 + 12289 * j) % a.val ≠ 0) : (1 + 12289 * K) / a.val = (ss_i a).val ∧ K < 12289 := by
  have h0 : 0 < a.val := by
    rcases Nat.eq_zero_or_pos a.val with z | z
    · exact absurd (Fin.ext z) ha
    · exact z
  obtain ⟨K', hK', hd⟩ := ss_srch ha
  have hle : K ≤ K' := by
    rcases Nat.lt_or_ge K' K with g | g
    · exact absurd hd (hm K' g)
    · exact g
  refine ⟨?_, by omega⟩
  have e : a.val * ((1 + 12289 * K) / a.val) = 1 + 12289 * K := by
    have := Nat.div_add_mod (1 + 12289 * K) a.val
    omega
  have e1 : a * ss_n ((1 + 12289 * K) / a.val) = 1 := by
    have := congrArg ss_n e
    rw [ss_n_mul, ss_n_of] at this
    rw [this, ss_n_add, ss_n_mul, show ss_n 12289 = 0 from by decide +kernel, ss_n1]
    grobner
  have e2 := ss_i_uniq e1
  rw [← e2]
  refine (Nat.mod_eq_of_lt ?_).symm
  -- the quotient is below 12289, since the true inverse is not smaller
  have hy : (1 + 12289 * K) / a.val ≤ (1 + 12289 * (a.val * (ss_i a).val / 12289)) / a.val := by
    apply Nat.div_le_div_right
    have e5 := congrArg Fin.val (ss_i_mul ha)
    rw [Fin.val_mul] at e5
    have e3 : (1 : ss_F).val = 1 := rfl
    rw [e3] at e5
    have e4 : 1 + 12289 * (a.val * (ss_i a).val / 12289) = a.val * (ss_i a).val := by
      generalize a.val * (ss_i a).val = p at e5
      omega
    have hle2 : K ≤ a.val * (ss_i a).val / 12289 := by
      rcases Nat.lt_or_ge (a.val * (ss_i a).val / 12289) K with g | g
      · exact absurd (by rw [e4]; exact Nat.mul_mod_right _ _) (hm _ g)
      · exact g
    omega
  have e5 := congrArg Fin.val (ss_i_mul ha)
  rw [Fin.val_mul] at e5
  have e3 : (1 : ss_F).val = 1 := rfl
  rw [e3] at e5
  have e4 : 1 + 12289 * (a.val * (ss_i a).val / 12289) = a.val * (ss_i a).val := by
    generalize a.val * (ss_i a).val = p at e5
    omega
  rw [e4, Nat.mul_div_cancel_left _ h0] at hy
  have := (ss_i a).isLt
  omega
