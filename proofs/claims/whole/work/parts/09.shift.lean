/-! a shifted series: by Horner's steps, and by dividing again and again -/
/-- q (y + x), the m places from i on, by Horner -/
def ss_hh (x : ss_F) (q : Nat → ss_F) : Nat → Nat → Nat → ss_F
  | 0, _, _ => 0
  | m + 1, i, 0 => q i + x * ss_hh x q m (i + 1) 0
  | m + 1, i, n + 1 => ss_hh x q m (i + 1) n + x * ss_hh x q m (i + 1) (n + 1)
theorem ss_hh_z (x : ss_F) (q : Nat → ss_F) (i n : Nat) : ss_hh x q 0 i n = 0 := rfl
theorem ss_hh_0 (x : ss_F) (q : Nat → ss_F) (m i : Nat) : ss_hh x q (m + 1) i 0 = q i + x * ss_hh x q m (i + 1) 0 := rfl
theorem ss_hh_s (x : ss_F) (q : Nat → ss_F) (m i n : Nat) : ss_hh x q (m + 1) i (n + 1) = ss_hh x q m (i + 1) n + x * ss_hh x q m (i + 1) (n + 1) := rfl
theorem ss_hh_congr {x : ss_F} {q p : Nat → ss_F} : ∀ m i, (∀ j, i ≤ j → j < i + m → q j = p j) → ∀ n, ss_hh x q m i n = ss_hh x p m i n := by
  intro m
  induction m with
  | zero => intro i _ n; rfl
  | succ m ih =>
    intro i h n
    have k := ih (i + 1) (fun j h1 h2 => h j (by omega) (by omega))
    cases n with
    | zero => rw [ss_hh_0, ss_hh_0, k 0, h i (by omega) (by omega)]
    | succ n => rw [ss_hh_s, ss_hh_s, k n, k (n + 1)]
/-- one division: d j = q j + x * d (j + 1) on the m places from i on, nothing above -/
theorem ss_hh_div (x : ss_F) (q d : Nat → ss_F) : ∀ m i, (∀ j, i ≤ j → j < i + m → d j = q j + x * d (j + 1)) → d (i + m) = q (i + m) → (ss_hh x q (m + 1) i 0 = d i) ∧ ∀ n, ss_hh x q (m + 1) i (n + 1) = ss_hh x d m (i + 1) n := by
  intro m
  induction m with
  | zero =>
    intro i _ h
    refine ⟨?_, fun n => ?_⟩
    · rw [ss_hh_0, ss_hh_z]
      rw [Nat.add_zero] at h
      rw [h]
      grobner
    · rw [ss_hh_s, ss_hh_z, ss_hh_z, ss_hh_z]
      grobner
  | succ m ih =>
    intro i h he
    have k := ih (i + 1) (fun j h1 h2 => h j (by omega) (by omega)) (by rw [show i + 1 + m = i + (m + 1) from by omega]; exact he)
    have h0 := h i (by omega) (by omega)
    refine ⟨?_, fun n => ?_⟩
    · rw [ss_hh_0, k.1, h0]
    · cases n with
      | zero => rw [ss_hh_s, k.1, k.2 0, ss_hh_0]
      | succ n => rw [ss_hh_s, k.2 n, k.2 (n + 1), ss_hh_s]
/-- the component's rounds: before round t the places from t on still stand for a series to be shifted, those below are done -/
def ss_Sh (x : ss_F) (q : Nat → ss_F) (t : Nat) (a : Nat → ss_F) : Prop := (∀ n, n < t → a n = ss_hh x q 32 0 n) ∧ ∀ n, ss_hh x q 32 0 (t + n) = ss_hh x a (32 - t) t n
theorem ss_Sh0 (x : ss_F) (q : Nat → ss_F) : ss_Sh x q 0 q := ⟨fun n h => absurd h (by omega), fun n => by rw [Nat.zero_add]⟩
theorem ss_Shs {x : ss_F} {q a d : Nat → ss_F} {t : Nat} (ht : t < 31) (h : ss_Sh x q t a) (hd : ∀ j, t ≤ j → j < 31 → d j = a j + x * d (j + 1)) (h31 : d 31 = a 31) (hl : ∀ j, j < t → d j = a j) : ss_Sh x q (t + 1) d := by
  have k := ss_hh_div x a d (31 - t) t (fun j h1 h2 => hd j h1 (by omega)) (by rw [show t + (31 - t) = 31 from by omega]; exact h31)
  rw [show 31 - t + 1 = 32 - t from by omega] at k
  refine ⟨fun n hn => ?_, fun n => ?_⟩
  · by_cases e : n = t
    · subst e
      have := h.2 0
      rw [Nat.add_zero] at this
      rw [this, k.1]
    · rw [hl n (by omega), h.1 n (by omega)]
  · have := h.2 (n + 1)
    rw [show t + 1 + n = t + (n + 1) from by omega, this, k.2 n, show 32 - (t + 1) = 31 - t from by omega]
theorem ss_She {x : ss_F} {q a : Nat → ss_F} (h : ss_Sh x q 31 a) : ∀ n, n < 32 → a n = ss_hh x q 32 0 n := by
  intro n hn
  by_cases e : n = 31
  · subst e
    have := h.2 0
    rw [show 31 + 0 = 31 from rfl] at this
    rw [this]
    show _ = a 31 + x * 0
    grobner
  · exact h.1 n (by omega)
