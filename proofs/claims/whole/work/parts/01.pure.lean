theorem pk_us {f : Nat → Int32} {k : Nat} {x : Int32} : upd f k x k = x := if_pos rfl
theorem pk_un {f : Nat → Int32} {k j : Nat} {x : Int32} (h : j ≠ k) : upd f k x j = f j := if_neg h
theorem pk_sub {a b : Nat} (h : b ≤ a) : nI a - nI b = nI (a - b) := by
  obtain ⟨c, rfl⟩ : ∃ c, a = c + b := ⟨a - b, by omega⟩
  rw [← nI_add, Int32.add_sub_cancel, Nat.add_sub_cancel]
theorem pk_m1 (n : Nat) : nI (n + 1) + (-1) = nI n := by
  rw [← nI_1, Int32.add_assoc, show (1 : Int32) + (-1) = 0 from rfl, Int32.add_zero]
theorem pk_mul (a b : Nat) : nI a * nI b = nI (a * b) := (Int32.ofNat_mul a b).symm
theorem pk_div {a d : Nat} (ha : a < 2 ^ 31) (h0 : 0 < d) (hd : d < 2 ^ 31) : nI a / nI d = nI (a / d) := by
  apply Int32.toInt_inj.mp
  rw [lg_idiv_nonneg (by rw [nI_toInt ha]; omega) (by rw [nI_toInt hd]; omega), nI_toInt ha, nI_toInt hd, nI_toInt (Nat.lt_of_le_of_lt (Nat.div_le_self a d) ha)]
  first | rfl | exact (Int.natCast_ediv _ _).symm
theorem pk_rem {a d : Nat} (ha : a < 2 ^ 31) (h0 : 0 < d) (hd : d < 2 ^ 31) : nI a - nI a / nI d * nI d = nI (a % d) := by
  rw [pk_div ha h0 hd, pk_mul, pk_sub (Nat.div_mul_le_self a d)]
  exact congrArg nI (by have := Nat.div_add_mod' a d; omega)
theorem pk_ix (x : Int32) {n : Nat} (hn : n < 2 ^ 31) : x < 0 ∨ nI n ≤ x ∨ ∃ j : Nat, j < n ∧ x = nI j := by
  by_cases h : x < 0
  · exact Or.inl h
  · obtain ⟨j, hj, rfl⟩ := nI_of h
    by_cases h2 : j < n
    · exact Or.inr (Or.inr ⟨j, h2, rfl⟩)
    · exact Or.inr (Or.inl (nI_le (by omega) hj))
theorem pk_le {x y : Int32} {A B : Prop} (a b : Nat) (f : a ≤ b → A) (g : b < a → B) (hx : x = nI a := by rfl) (hy : y = nI b := by rfl) (ha : a < 2 ^ 31 := by omega) (hb : b < 2 ^ 31 := by omega) : (x ≤ y → A) ∧ (¬ x ≤ y → B) := by
  subst hx hy
  rw [nI_leI ha hb]
  exact ⟨f, fun z => g (by omega)⟩
theorem pk_lt {x y : Int32} {A B : Prop} (a b : Nat) (f : a < b → A) (g : b ≤ a → B) (hx : x = nI a := by rfl) (hy : y = nI b := by rfl) (ha : a < 2 ^ 31 := by omega) (hb : b < 2 ^ 31 := by omega) : (x < y → A) ∧ (¬ x < y → B) := by
  subst hx hy
  rw [nI_ltI ha hb]
  exact ⟨f, fun z => g (by omega)⟩
theorem pk_eq {x y : Int32} {A B : Prop} (a b : Nat) (f : a = b → A) (g : a ≠ b → B) (hx : x = nI a := by rfl) (hy : y = nI b := by rfl) (ha : a < 2 ^ 31 := by omega) (hb : b < 2 ^ 31 := by omega) : (x = y → A) ∧ (¬ x = y → B) := by
  subst hx hy
  rw [nI_eq ha hb]
  exact ⟨f, g⟩
theorem pk_in {x : Int32} (n N : Nat) (h : n < N) (hx : x = nI n := by rfl) (hN : N < 2 ^ 31 := by omega) : vp_in x N := by
  subst hx
  exact vp_in_nI h hN
theorem pk_cl {x : Int32} (n : Nat) (hx : x = nI n := by rfl) (h : n < 2 ^ 31 := by omega) : x.toNatClampNeg = n := by
  subst hx
  exact nI_clamp h
/-- how many of the first n slots are taken -/
def ci_cnt (t : Nat → Int32) : Nat → Nat
  | 0 => 0
  | n + 1 => ci_cnt t n + (if t n = 0 then 0 else 1)
theorem ci_cnt_le (t : Nat → Int32) (n : Nat) : ci_cnt t n ≤ n := by
  induction n with
  | zero => exact Nat.le_refl 0
  | succ n ih =>
    show ci_cnt t n + (if t n = 0 then 0 else 1) ≤ n + 1
    split <;> omega
theorem ci_cnt_out (t : Nat → Int32) (k : Nat) (x : Int32) (n : Nat) (h : n ≤ k) : ci_cnt (upd t k x) n = ci_cnt t n := by
  induction n with
  | zero => rfl
  | succ n ih =>
    show ci_cnt (upd t k x) n + (if upd t k x n = 0 then 0 else 1) = ci_cnt t n + (if t n = 0 then 0 else 1)
    rw [ih (by omega), pk_un (by omega)]
theorem ci_cnt_set (t : Nat → Int32) (k : Nat) (x : Int32) (h0 : t k = 0) (hx : ¬ x = 0) (n : Nat) (h : k < n) : ci_cnt (upd t k x) n = ci_cnt t n + 1 := by
  induction n with
  | zero => omega
  | succ n ih =>
    show ci_cnt (upd t k x) n + (if upd t k x n = 0 then 0 else 1) = ci_cnt t n + (if t n = 0 then 0 else 1) + 1
    by_cases e : n = k
    · subst e
      rw [ci_cnt_out t n x n (Nat.le_refl n), pk_us, if_neg hx, if_pos h0]
    · rw [ih (by omega), pk_un e]
      omega
theorem ci_cnt_clr (t : Nat → Int32) (k : Nat) (h0 : ¬ t k = 0) (n : Nat) (h : k < n) : ci_cnt (upd t k 0) n + 1 = ci_cnt t n := by
  induction n with
  | zero => omega
  | succ n ih =>
    show ci_cnt (upd t k 0) n + (if upd t k 0 n = 0 then 0 else 1) + 1 = ci_cnt t n + (if t n = 0 then 0 else 1)
    by_cases e : n = k
    · subst e
      rw [ci_cnt_out t n 0 n (Nat.le_refl n), pk_us, if_pos rfl, if_neg h0]
    · have := ih (by omega)
      rw [pk_un e]
      omega
theorem ci_cnt_0 (n : Nat) : ci_cnt (fun _ => 0) n = 0 := by
  induction n with
  | zero => rfl
  | succ n ih =>
    show ci_cnt (fun _ => 0) n + (if (0 : Int32) = 0 then 0 else 1) = 0
    rw [ih, if_pos rfl]
/-- the squared distance of two places, as both sides reckon it -/
def ci_dist (p q : Int32) : Int32 := ((p - p / 64 * 64) - (q - q / 64 * 64)) * ((p - p / 64 * 64) - (q - q / 64 * 64)) + (p / 64 - q / 64) * (p / 64 - q / 64)
theorem ci_sq (a b : Nat) (ha : a < 64) (hb : b < 64) : ∃ c, c < 4096 ∧ (nI a - nI b) * (nI a - nI b) = nI c := by
  have e : (nI a - nI b) * (nI a - nI b) = (nI b - nI a) * (nI b - nI a) := by grind
  by_cases h : b ≤ a
  · refine ⟨(a - b) * (a - b), ?_, by rw [pk_sub h, pk_mul]⟩
    exact Nat.lt_of_lt_of_le (Nat.mul_lt_mul'' (show a - b < 64 by omega) (show a - b < 64 by omega)) (by decide)
  · refine ⟨(b - a) * (b - a), ?_, by rw [e, pk_sub (by omega), pk_mul]⟩
    exact Nat.lt_of_lt_of_le (Nat.mul_lt_mul'' (show b - a < 64 by omega) (show b - a < 64 by omega)) (by decide)
theorem ci_dist_nn (m n : Nat) (hm : m < 4096) (hn : n < 4096) : ∃ c, c < 8192 ∧ ci_dist (nI m) (nI n) = nI c := by
  have e64 : (64 : Int32) = nI 64 := by decide
  obtain ⟨c, hc, ec⟩ := ci_sq (m % 64) (n % 64) (by omega) (by omega)
  obtain ⟨d, hd, ed⟩ := ci_sq (m / 64) (n / 64) (by omega) (by omega)
  refine ⟨c + d, by omega, ?_⟩
  unfold ci_dist
  rw [e64, pk_rem (by omega) (by omega) (by omega), pk_rem (by omega) (by omega) (by omega), pk_div (by omega) (by omega) (by omega), pk_div (by omega) (by omega) (by omega), ec, ed, nI_add]
/-- the least distance so far, over the pairs 0 .. k - 1 (i = k / 40, j = k % 40) -/
def ci_st (t p : Nat → Int32) (i j : Nat) (w : Int32) : Int32 := if t i = 0 then w else if t j = 0 then w else if w = -3 then ci_dist (p i) (p j) else if ci_dist (p i) (p j) < w then ci_dist (p i) (p j) else w
def ci_F (t p : Nat → Int32) : Nat → Int32
  | 0 => -3
  | k + 1 => if k / 40 < k % 40 then ci_st t p (k / 40) (k % 40) (ci_F t p k) else ci_F t p k
def ci_ok (p : Nat → Int32) : Prop := ∀ j, j < 40 → ∃ m : Nat, m < 4096 ∧ p j = nI m
theorem ci_ok_0 : ci_ok (fun _ => 0) := fun _ _ => ⟨0, by omega, rfl⟩
theorem ci_ok_u {p : Nat → Int32} (h : ci_ok p) (k m : Nat) (hm : m < 4096) : ci_ok (upd p k (nI m)) := by
  intro j hj
  by_cases e : j = k
  · exact ⟨m, hm, by rw [e, pk_us]⟩
  · obtain ⟨q, hq, eq⟩ := h j hj
    exact ⟨q, hq, by rw [pk_un e, eq]⟩
theorem ci_ok_d {p : Nat → Int32} (h : ci_ok p) (i j : Nat) (hi : i < 40) (hj : j < 40) : ¬ ci_dist (p i) (p j) < 0 := by
  obtain ⟨m, hm, em⟩ := h i hi
  obtain ⟨n, hn, en⟩ := h j hj
  obtain ⟨c, hc, ec⟩ := ci_dist_nn m n hm hn
  rw [em, en, ec]
  exact nI_pos (by omega)
theorem ci_F_in {t p : Nat → Int32} (h : ci_ok p) (k : Nat) (hk : k ≤ 1600) : ci_F t p k = -3 ∨ ¬ ci_F t p k < 0 := by
  induction k with
  | zero => exact Or.inl rfl
  | succ k ih =>
    have hd := ci_ok_d h (k / 40) (k % 40) (by omega) (by omega)
    have ih := ih (by omega)
    show (if k / 40 < k % 40 then ci_st t p (k / 40) (k % 40) (ci_F t p k) else ci_F t p k) = -3 ∨ ¬ (if k / 40 < k % 40 then ci_st t p (k / 40) (k % 40) (ci_F t p k) else ci_F t p k) < 0
    split
    · unfold ci_st
      split
      · exact ih
      · split
        · exact ih
        · split
          · exact Or.inr hd
          · split
            · exact Or.inr hd
            · exact ih
    · exact ih
theorem ci_F_eq (t p : Nat → Int32) (i j : Nat) (hj : j < 40) : ci_F t p (40 * i + j + 1) = if i < j then ci_st t p i j (ci_F t p (40 * i + j)) else ci_F t p (40 * i + j) := by
  show (if (40 * i + j) / 40 < (40 * i + j) % 40 then ci_st t p ((40 * i + j) / 40) ((40 * i + j) % 40) (ci_F t p (40 * i + j)) else ci_F t p (40 * i + j)) = _
  rw [show (40 * i + j) / 40 = i by omega, show (40 * i + j) % 40 = j by omega]
theorem ci_F_skip (t p : Nat → Int32) (i j : Nat) (hi : i < 40) (hj : j ≤ i + 1) : ci_F t p (40 * i + j) = ci_F t p (40 * i) := by
  induction j with
  | zero => rfl
  | succ j ih =>
    show ci_F t p (40 * i + j + 1) = _
    rw [ci_F_eq t p i j (by omega), if_neg (by omega), ih (by omega)]
