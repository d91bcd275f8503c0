section
theorem pk_us {f : Nat → Int32} {k : Nat} {x : Int32} : upd f k x k = x := if_pos rfl
theorem pk_un {f : Nat → Int32} {k j : Nat} {x : Int32} (h : j ≠ k) : upd f k x j = f j := if_neg h
theorem pk_sub {a b : Nat} (h : b ≤ a) : nI a - nI b = nI (a - b) := by
  obtain ⟨c, rfl⟩ : ∃ c, a = c + b := ⟨a - b, by omega⟩
  rw [← nI_add, Int32.add_sub_cancel, Nat.add_sub_cancel]
theorem pk_m1 (n : Nat) : nI (n + 1) + (-1) = nI n := by
  rw [← nI_1, Int32.add_assoc, show (1 : Int32) + (-1) = 0 from rfl, Int32.add_zero]
theorem pk_mul (a b : Nat) : nI a * nI b = nI (a * b) := (Int32.ofNat_mul a b).symm
theorem pk_div {a d : Nat} (ha : a < 2 ^ 31) (h0 : 0 < d) (hd : d < 2 ^ 31) : nI a / nI d = nI (a / d) := by
  apply Int32.toInt_inj.mp
  rw [lg_idiv_nonneg (by rw [nI_toInt ha]; omega) (by rw [nI_toInt hd]; omega), nI_toInt ha, nI_toInt hd, nI_toInt (Nat.lt_of_le_of_lt (Nat.div_le_self a d) ha)]
  first | rfl | exact (Int.natCast_ediv _ _).symm
theorem pk_rem {a d : Nat} (ha : a < 2 ^ 31) (h0 : 0 < d) (hd : d < 2 ^ 31) : nI a - nI a / nI d * nI d = nI (a % d) := by
  rw [pk_div ha h0 hd, pk_mul, pk_sub (Nat.div_mul_le_self a d)]
  exact congrArg nI (by have := Nat.div_add_mod' a d; omega)
theorem pk_ix (x : Int32) {n : Nat} (hn : n < 2 ^ 31) : x < 0 ∨ nI n ≤ x ∨ ∃ j : Nat, j < n ∧ x = nI j := by
  by_cases h : x < 0
  · exact Or.inl h
  · obtain ⟨j, hj, rfl⟩ := nI_of h
    by_cases h2 : j < n
    · exact Or.inr (Or.inr ⟨j, h2, rfl⟩)
    · exact Or.inr (Or.inl (nI_le (by omega) hj))
theorem pk_le {x y : Int32} {A B : Prop} (a b : Nat) (f : a ≤ b → A) (g : b < a → B) (hx : x = nI a := by rfl) (hy : y = nI b := by rfl) (ha : a < 2 ^ 31 := by omega) (hb : b < 2 ^ 31 := by omega) : (x ≤ y → A) ∧ (¬ x ≤ y → B) := by
  subst hx hy
  rw [nI_leI ha hb]
  exact ⟨f, fun z => g (by omega)⟩
theorem pk_lt {x y : Int32} {A B : Prop} (a b : Nat) (f : a < b → A) (g : b ≤ a → B) (hx : x = nI a := by rfl) (hy : y = nI b := by rfl) (ha : a < 2 ^ 31 := by omega) (hb : b < 2 ^ 31 := by omega) : (x < y → A) ∧ (¬ x < y → B) := by
  subst hx hy
  rw [nI_ltI ha hb]
  exact ⟨f, fun z => g (by omega)⟩
theorem pk_eq {x y : Int32} {A B : Prop} (a b : Nat) (f : a = b → A) (g : a ≠ b → B) (hx : x = nI a := by rfl) (hy : y = nI b := by rfl) (ha : a < 2 ^ 31 := by omega) (hb : b < 2 ^ 31 := by omega) : (x = y → A) ∧ (¬ x = y → B) := by
  subst hx hy
  rw [nI_eq ha hb]
  exact ⟨f, g⟩
theorem pk_in {x : Int32} (n N : Nat) (h : n < N) (hx : x = nI n := by rfl) (hN : N < 2 ^ 31 := by omega) : vp_in x N := by
  subst hx
  exact vp_in_nI h hN
theorem pk_cl {x : Int32} (n : Nat) (hx : x = nI n := by rfl) (h : n < 2 ^ 31 := by omega) : x.toNatClampNeg = n := by
  subst hx
  exact nI_clamp h
/-- how many of the first n slots are taken -/
def ci_cnt (t : Nat → Int32) : Nat → Nat
  | 0 => 0
  | n + 1 => ci_cnt t n + (if t n = 0 then 0 else 1)
theorem ci_cnt_le (t : Nat → Int32) (n : Nat) : ci_cnt t n ≤ n := by
  induction n with
  | zero => exact Nat.le_refl 0
  | succ n ih =>
    show ci_cnt t n + (if t n = 0 then 0 else 1) ≤ n + 1
    split <;> omega
theorem ci_cnt_out (t : Nat → Int32) (k : Nat) (x : Int32) (n : Nat) (h : n ≤ k) : ci_cnt (upd t k x) n = ci_cnt t n := by
  induction n with
  | zero => rfl
  | succ n ih =>
    show ci_cnt (upd t k x) n + (if upd t k x n = 0 then 0 else 1) = ci_cnt t n + (if t n = 0 then 0 else 1)
    rw [ih (by omega), pk_un (by omega)]
theorem ci_cnt_set (t : Nat → Int32) (k : Nat) (x : Int32) (h0 : t k = 0) (hx : ¬ x = 0) (n : Nat) (h : k < n) : ci_cnt (upd t k x) n = ci_cnt t n + 1 := by
  induction n with
  | zero => omega
  | succ n ih =>
    show ci_cnt (upd t k x) n + (if upd t k x n = 0 then 0 else 1) = ci_cnt t n + (if t n = 0 then 0 else 1) + 1
    by_cases e : n = k
    · subst e
      rw [ci_cnt_out t n x n (Nat.le_refl n), pk_us, if_neg hx, if_pos h0]
    · rw [ih (by omega), pk_un e]
      omega
theorem ci_cnt_clr (t : Nat → Int32) (k : Nat) (h0 : ¬ t k = 0) (n : Nat) (h : k < n) : ci_cnt (upd t k 0) n + 1 = ci_cnt t n := by
  induction n with
  | zero => omega
  | succ n ih =>
    show ci_cnt (upd t k 0) n + (if upd t k 0 n = 0 then 0 else 1) + 1 = ci_cnt t n + (if t n = 0 then 0 else 1)
    by_cases e : n = k
    · subst e
      rw [ci_cnt_out t n 0 n (Nat.le_refl n), pk_us, if_pos rfl, if_neg h0]
    · have := ih (by omega)
      rw [pk_un e]
      omega
theorem ci_cnt_0 (n : Nat) : ci_cnt (fun _ => 0) n = 0 := by
  induction n with
  | zero => rfl
  | succ n ih =>
    show ci_cnt (fun _ => 0) n + (if (0 : Int32) = 0 then 0 else 1) = 0
    rw [ih, if_pos rfl]
/-- the squared distance of two places, as both sides reckon it -/
def ci_dist (p q : Int32) : Int32 := ((p - p / 64 * 64) - (q - q / 64 * 64)) * ((p - p / 64 * 64) - (q - q / 64 * 64)) + (p / 64 - q / 64) * (p / 64 - q / 64)
theorem ci_sq (a b : Nat) (ha : a < 64) (hb : b < 64) : ∃ c, c < 4096 ∧ (nI a - nI b) * (nI a - nI b) = nI c := by
  have e : (nI a - nI b) * (nI a - nI b) = (nI b - nI a) * (nI b - nI a) := by grind
  by_cases h : b ≤ a
  · refine ⟨(a - b) * (a - b), ?_, by rw [pk_sub h, pk_mul]⟩
    exact Nat.lt_of_lt_of_le (Nat.mul_lt_mul'' (show a - b < 64 by omega) (show a - b < 64 by omega)) (by decide)
  · refine ⟨(b - a) * (b - a), ?_, by rw [e, pk_sub (by omega), pk_mul]⟩
    exact Nat.lt_of_lt_of_le (Nat.mul_lt_mul'' (show b - a < 64 by omega) (show b - a < 64 by omega)) (by decide)
theorem ci_dist_nn (m n : Nat) (hm : m < 4096) (hn : n < 4096) : ∃ c, c < 8192 ∧ ci_dist (nI m) (nI n) = nI c := by
  have e64 : (64 : Int32) = nI 64 := by decide
  obtain ⟨c, hc, ec⟩ := ci_sq (m % 64) (n % 64) (by omega) (by omega)
  obtain ⟨d, hd, ed⟩ := ci_sq (m / 64) (n / 64) (by omega) (by omega)
  refine ⟨c + d, by omega, ?_⟩
  unfold ci_dist
  rw [e64, pk_rem (by omega) (by omega) (by omega), pk_rem (by omega) (by omega) (by omega), pk_div (by omega) (by omega) (by omega), pk_div (by omega) (by omega) (by omega), ec, ed, nI_add]
/-- the least distance so far, over the pairs 0 .. k - 1 (i = k / 40, j = k % 40) -/
def ci_st (t p : Nat → Int32) (i j : Nat) (w : Int32) : Int32 := if t i = 0 then w else if t j = 0 then w else if w = -3 then ci_dist (p i) (p j) else if ci_dist (p i) (p j) < w then ci_dist (p i) (p j) else w
def ci_F (t p : Nat → Int32) : Nat → Int32
  | 0 => -3
  | k + 1 => if k / 40 < k % 40 then ci_st t p (k / 40) (k % 40) (ci_F t p k) else ci_F t p k
def ci_ok (p : Nat → Int32) : Prop := ∀ j, j < 40 → ∃ m : Nat, m < 4096 ∧ p j = nI m
theorem ci_ok_0 : ci_ok (fun _ => 0) := fun _ _ => ⟨0, by omega, rfl⟩
theorem ci_ok_u {p : Nat → Int32} (h : ci_ok p) (k m : Nat) (hm : m < 4096) : ci_ok (upd p k (nI m)) := by
  intro j hj
  by_cases e : j = k
  · exact ⟨m, hm, by rw [e, pk_us]⟩
  · obtain ⟨q, hq, eq⟩ := h j hj
    exact ⟨q, hq, by rw [pk_un e, eq]⟩
theorem ci_ok_d {p : Nat → Int32} (h : ci_ok p) (i j : Nat) (hi : i < 40) (hj : j < 40) : ¬ ci_dist (p i) (p j) < 0 := by
  obtain ⟨m, hm, em⟩ := h i hi
  obtain ⟨n, hn, en⟩ := h j hj
  obtain ⟨c, hc, ec⟩ := ci_dist_nn m n hm hn
  rw [em, en, ec]
  exact nI_pos (by omega)
theorem ci_F_in {t p : Nat → Int32} (h : ci_ok p) (k : Nat) (hk : k ≤ 1600) : ci_F t p k = -3 ∨ ¬ ci_F t p k < 0 := by
  induction k with
  | zero => exact Or.inl rfl
  | succ k ih =>
    have hd := ci_ok_d h (k / 40) (k % 40) (by omega) (by omega)
    have ih := ih (by omega)
    show (if k / 40 < k % 40 then ci_st t p (k / 40) (k % 40) (ci_F t p k) else ci_F t p k) = -3 ∨ ¬ (if k / 40 < k % 40 then ci_st t p (k / 40) (k % 40) (ci_F t p k) else ci_F t p k) < 0
    split
    · unfold ci_st
      split
      · exact ih
      · split
        · exact ih
        · split
          · exact Or.inr hd
          · split
            · exact Or.inr hd
            · exact ih
    · exact ih
theorem ci_F_eq (t p : Nat → Int32) (i j : Nat) (hj : j < 40) : ci_F t p (40 * i + j + 1) = if i < j then ci_st t p i j (ci_F t p (40 * i + j)) else ci_F t p (40 * i + j) := by
  show (if (40 * i + j) / 40 < (40 * i + j) % 40 then ci_st t p ((40 * i + j) / 40) ((40 * i + j) % 40) (ci_F t p (40 * i + j)) else ci_F t p (40 * i + j)) = _
  rw [show (40 * i + j) / 40 = i by omega, show (40 * i + j) % 40 = j by omega]
theorem ci_F_skip (t p : Nat → Int32) (i j : Nat) (hi : i < 40) (hj : j ≤ i + 1) : ci_F t p (40 * i + j) = ci_F t p (40 * i) := by
  induction j with
  | zero => rfl
  | succ j ih =>
    show ci_F t p (40 * i + j + 1) = _
    rw [ci_F_eq t p i j (by omega), if_neg (by omega), ih (by omega)]
end
section
/-- an answer by cases, where the walk branches -/
theorem ci_br {α : Type} {post : α → Prop} {c : Prop} {dc : Decidable c} {a b : α} {A B : Prop} (h : post (@ite α c dc a b)) (f : post a → A) (g : post b → B) : (c → A) ∧ (¬ c → B) :=
  ⟨fun z => f (by rw [if_pos z] at h; exact h), fun z => g (by rw [if_neg z] at h; exact h)⟩
theorem ci_nb0 : vp_nar .boolean 0 = 0 := by first | rfl | decide
theorem ci_nb1 : vp_nar .boolean 1 = 1 := by first | rfl | decide
theorem ci_40 {i : Nat} (h : i < 40) : ¬ (40 : Int32) ≤ nI i := nI_ge (b := 40) h (by decide)
theorem ci_40e : (40 : Int32) ≤ nI 40 := by decide
theorem ci_i40 {i : Nat} (h : i < 40) : vp_in (nI i) 40 := vp_in_nI h (by decide)
theorem ci_cl {i : Nat} (h : i < 40) : (nI i).toNatClampNeg = i := nI_clamp (by omega)
theorem ci_95 (p : Int32) : (4096 : Int32) ≤ p ↔ 4095 < p := by
  rw [Int32.le_iff_toInt_le, Int32.lt_iff_toInt_lt, show (4096 : Int32).toInt = 4096 from by decide, show (4095 : Int32).toInt = 4095 from by decide]
  omega
/-- a place, or not: both sides say so -/
theorem ci_place (x : Int32) : ((∀ post : Int32 → Prop, post 0 → wpX_isPlace post x) ∧ (∀ (post : Int32 → Prop) (v : SY), post 0 → wpY_isPlace post v x)) ∨ (∃ m : Nat, m < 4096 ∧ x = nI m ∧ (∀ post : Int32 → Prop, post 1 → wpX_isPlace post x) ∧ (∀ (post : Int32 → Prop) (v : SY), post 1 → wpY_isPlace post v x)) := by
  by_cases a : x < 0
  · exact Or.inl ⟨fun _ h => br_t a h, fun _ _ h => br_t a h⟩
  · by_cases b : 4095 < x
    · exact Or.inl ⟨fun _ h => br_f a (br_t b h), fun _ _ h => br_f a (br_t ((ci_95 x).mpr b) h)⟩
    · obtain ⟨m, hm, rfl⟩ := nI_of a
      have hb : ¬ nI 4095 < nI m := b
      rw [nI_ltI (by decide) hm] at hb
      exact Or.inr ⟨m, by omega, rfl, fun _ h => br_f a (br_f b h), fun _ _ h => br_f a (br_f (fun z => b ((ci_95 _).mp z)) h)⟩
/-- a point, or not: both sides say so -/
theorem ci_point (t : Nat → Int32) (x : Int32) : ((∀ (post : Int32 → Prop) (s : Int32) (p l : Nat → Int32), post 0 → wpX_isPoint post (s, t, p, l) x) ∧ (∀ (post : Int32 → Prop) (p l : Nat → Int32), post 0 → wpY_isPoint post (t, p, l) x)) ∨ (∃ j : Nat, j < 40 ∧ x = nI j ∧ ¬ t j = 0 ∧ (∀ (post : Int32 → Prop) (s : Int32) (p l : Nat → Int32), post 1 → wpX_isPoint post (s, t, p, l) x) ∧ (∀ (post : Int32 → Prop) (p l : Nat → Int32), post 1 → wpY_isPoint post (t, p, l) x)) := by
  rcases pk_ix x (n := 40) (by decide) with a | a | ⟨j, hj, rfl⟩
  · exact Or.inl ⟨fun _ _ _ _ h => br_t a h, fun _ _ _ h => br_t a h⟩
  · have a' : (40 : Int32) ≤ x := a
    have b : ¬ x < 0 := Int32.not_lt.mpr (Int32.le_trans (by decide) a')
    exact Or.inl ⟨fun _ _ _ _ h => br_f b (br_t a' h), fun _ _ _ h => br_f b (br_t a' h)⟩
  · have b : ¬ nI j < 0 := nI_pos (by omega)
    have c := ci_40 hj
    have e := ci_cl hj
    by_cases z : t j = 0
    · have z' : t (nI j).toNatClampNeg = 0 := by rw [e]; exact z
      exact Or.inl ⟨fun _ _ _ _ h => br_f b (br_f c ⟨ci_i40 hj, br_t z' h⟩), fun _ _ _ h => br_f b (br_f c ⟨ci_i40 hj, br_t z' h⟩)⟩
    · have z' : ¬ t (nI j).toNatClampNeg = 0 := by rw [e]; exact z
      exact Or.inr ⟨j, hj, rfl, z, fun _ _ _ _ h => br_f b (br_f c ⟨ci_i40 hj, br_f z' h⟩), fun _ _ _ h => br_f b (br_f c ⟨ci_i40 hj, br_f z' h⟩)⟩
/-- between, the ends in either order -/
def ci_bt (v a b : Int32) : Int32 := if b < a then (if v < b then 0 else if a < v then 0 else 1) else (if v < a then 0 else if b < v then 0 else 1)
theorem ci_bt0 (v a b : Int32) (h : ¬ ((a.toInt ≤ v.toInt ∧ v.toInt ≤ b.toInt) ∨ (b.toInt ≤ v.toInt ∧ v.toInt ≤ a.toInt))) : ci_bt v a b = 0 := by
  unfold ci_bt
  simp only [Int32.lt_iff_toInt_lt]
  (repeat' split) <;> first | rfl | (exfalso; omega)
theorem ci_bt1 (v a b : Int32) (h : (a.toInt ≤ v.toInt ∧ v.toInt ≤ b.toInt) ∨ (b.toInt ≤ v.toInt ∧ v.toInt ≤ a.toInt)) : ci_bt v a b = 1 := by
  unfold ci_bt
  simp only [Int32.lt_iff_toInt_lt]
  (repeat' split) <;> first | rfl | (exfalso; omega)
theorem ci_xbt {post : Int32 → Prop} {v a b : Int32} (h : post (ci_bt v a b)) : wpX_isBetween post v a b := by
  unfold ci_bt at h
  exact ci_br h (fun h => ci_br h id (fun h => ci_br h id id)) (fun h => ci_br h id (fun h => ci_br h id id))
theorem ci_ybt {post : Int32 → Prop} {u : SY} {v a b : Int32} (h : post (ci_bt v a b)) : wpY_between post u v a b := by
  have k : (v < b → post 0) ∧ (¬ v < b → ((a < v → post 0) ∧ (¬ a < v → post 1))) ∨ (¬ v < a ∧ v ≤ b) := by
    by_cases g : ¬ v < a ∧ v ≤ b
    · exact Or.inr g
    · refine Or.inl ⟨fun h1 => ?_, fun h1 => ⟨fun h2 => ?_, fun h2 => ?_⟩⟩
      · rw [Int32.lt_iff_toInt_lt, Int32.le_iff_toInt_le] at g
        rw [Int32.lt_iff_toInt_lt] at h1
        rw [ci_bt0 v a b (by omega)] at h
        exact h
      · rw [Int32.lt_iff_toInt_lt, Int32.le_iff_toInt_le] at g
        rw [Int32.lt_iff_toInt_lt] at h1 h2
        rw [ci_bt0 v a b (by omega)] at h
        exact h
      · rw [Int32.lt_iff_toInt_lt, Int32.le_iff_toInt_le] at g
        rw [Int32.lt_iff_toInt_lt] at h1 h2
        rw [ci_bt1 v a b (by omega)] at h
        exact h
  by_cases h1 : v < a
  · rcases k with k | k
    · exact br_t h1 k
    · exact absurd h1 k.1
  · by_cases h2 : v ≤ b
    · refine br_f h1 (br_t h2 ?_)
      rw [Int32.lt_iff_toInt_lt] at h1
      rw [Int32.le_iff_toInt_le] at h2
      rw [ci_bt1 v a b (by omega)] at h
      exact h
    · rcases k with k | k
      · exact br_f h1 (br_f h2 k)
      · exact absurd k.2 h2
/-- a slot's point lies in the box (a, b) -/
def ci_ib (ti pi a b : Int32) : Int32 := if ti = 0 then 0 else if ci_bt (pi - pi / 64 * 64) (a - a / 64 * 64) (b - b / 64 * 64) = 0 then 0 else if ci_bt (pi / 64) (a / 64) (b / 64) = 0 then 0 else 1
theorem ci_ib_t {ti pi a b : Int32} (h : ¬ ci_ib ti pi a b = 0) : ¬ ti = 0 := by
  intro z
  unfold ci_ib at h
  rw [if_pos z] at h
  exact h rfl
theorem ci_64 : ¬ (64 : Int32) = 0 := by decide
theorem ci_xib {post : Int32 → Prop} {s : Int32} {t p l : Nat → Int32} {i : Nat} {a b : Int32} (hi : i < 40) (h : post (ci_ib (t i) (p i) a b)) : wpX_isPointInBox post (s, t, p, l) (nI i) a b := by
  unfold ci_ib at h
  unfold wpX_isPointInBox
  dsimp only
  rw [ci_cl hi]
  exact ⟨ci_i40 hi, ci_br h id (fun h => ⟨ci_i40 hi, nm_e ⟨ci_64, ci_64, ci_64, ci_xbt (ci_br h id (fun h => ⟨ci_64, ci_64, ci_64, ci_xbt (ci_br h id id)⟩))⟩⟩)⟩
theorem ci_yib {post : Int32 → Prop} {t p l : Nat → Int32} {i : Nat} {a b : Int32} (hi : i < 40) (h : post (ci_ib (t i) (p i) a b)) : wpY_inBox post (t, p, l) (nI i) a b := by
  unfold ci_ib at h
  unfold wpY_inBox
  dsimp only
  rw [ci_cl hi]
  exact ⟨ci_i40 hi, ci_br h id (fun h => ⟨ci_i40 hi, ci_64, ci_64, ci_64, ci_ybt (ci_br h id (fun h => ⟨ci_i40 hi, ci_64, ci_64, ci_64, ci_ybt (ci_br h id id)⟩))⟩)⟩
theorem ci_xd {post : Int32 → Prop} {p q : Int32} (h : post (ci_dist p q)) : wpX_distanceOf post p q := ⟨ci_64, ci_64, nm_e ⟨ci_64, ci_64, nm_e h⟩⟩
theorem ci_yd {post : Int32 → Prop} {u : SY} {p q : Int32} (h : post (ci_dist p q)) : wpY_distance post u p q := ⟨ci_64, ci_64, nm_e ⟨ci_64, ci_64, nm_e h⟩⟩
theorem ci_xta {post : SX → Prop} {s : Int32} {t p l : Nat → Int32} {i : Nat} (hi : i < 40) (h : post (s - 1, upd t i 0, p, l)) : wpX_takeAway post (s, t, p, l) (nI i) :=
  ⟨ci_i40 hi, nm_r (by rw [ci_cl hi, ci_nb0]) (nm_e h)⟩
end
section
/-- the first free slot, or none: both sides find the same -/
theorem ci_add (s : Int32) (t p l : Nat → Int32) (x y : Int32) : ∀ d i : Nat, i + d = 40 → ((∀ post : Int32 → SX → Prop, post (-2) (s, t, p, l) → wX_add_11 post x y s t p l (d + 1) (nI i)) ∧ (∀ post : Int32 → SY → Prop, post (-2) (t, p, l) → wY_add_12 post x y t p l (d + 1) (nI i))) ∨ (∃ j : Nat, j < 40 ∧ t j = 0 ∧ (∀ post : Int32 → SX → Prop, post (nI j) (s + 1, upd t j 1, upd p j x, upd l j y) → wX_add_11 post x y s t p l (d + 1) (nI i)) ∧ (∀ post : Int32 → SY → Prop, post (nI j) (upd t j 1, upd p j x, upd l j y) → wY_add_12 post x y t p l (d + 1) (nI i))) := by
  intro d
  induction d with
  | zero =>
    intro i hi
    cases (show i = 40 by omega)
    exact Or.inl ⟨fun _ h => br_t ci_40e h, fun _ h => br_t ci_40e h⟩
  | succ d ih =>
    intro i hi
    have hj : i < 40 := by omega
    have h4 := ci_40 hj
    have hin := ci_i40 hj
    have e := ci_cl hj
    by_cases z : t i = 0
    · have z' : t (nI i).toNatClampNeg = 0 := by rw [e]; exact z
      refine Or.inr ⟨i, hj, z, fun post h => br_f h4 ⟨hin, br_t z' ⟨hin, nm_r (by rw [e, ci_nb1]) ⟨hin, nm_r (by rw [e]) ⟨hin, nm_r (by rw [e]) (nm_e h)⟩⟩⟩⟩, fun post h => br_f h4 ⟨hin, br_t z' ⟨hin, nm_r (by rw [e, ci_nb1]) ⟨hin, nm_r (by rw [e]) ⟨hin, nm_r (by rw [e]) h⟩⟩⟩⟩⟩
    · have z' : ¬ t (nI i).toNatClampNeg = 0 := by rw [e]; exact z
      rcases ih (i + 1) (by omega) with ⟨hX, hY⟩ | ⟨j, hj', hz, hX, hY⟩
      · exact Or.inl ⟨fun post h => br_f h4 ⟨hin, br_f z' (nm_r (nI_1 i) (hX post h))⟩, fun post h => br_f h4 ⟨hin, br_f z' (nm_r (nI_1 i) (hY post h))⟩⟩
      · exact Or.inr ⟨j, hj', hz, fun post h => br_f h4 ⟨hin, br_f z' (nm_r (nI_1 i) (hX post h))⟩, fun post h => br_f h4 ⟨hin, br_f z' (nm_r (nI_1 i) (hY post h))⟩⟩
/-- the reference counts what the class keeps -/
theorem ci_cnt_s0 {t : Nat → Int32} {i : Nat} (z : t i = 0) : ci_cnt t (i + 1) = ci_cnt t i := by
  show ci_cnt t i + (if t i = 0 then 0 else 1) = _
  rw [if_pos z]
  rfl
theorem ci_cnt_s1 {t : Nat → Int32} {i : Nat} (z : ¬ t i = 0) : ci_cnt t (i + 1) = ci_cnt t i + 1 := by
  show ci_cnt t i + (if t i = 0 then 0 else 1) = _
  rw [if_neg z]
theorem ci_ycl {post : Int32 → Prop} {t p l : Nat → Int32} (h : post (nI (ci_cnt t 40))) : ∀ d i : Nat, i + d = 40 → wY_count_4 post t p l (d + 1) (nI (ci_cnt t i)) (nI i) := by
  intro d
  induction d with
  | zero =>
    intro i hi
    cases (show i = 40 by omega)
    exact br_t ci_40e h
  | succ d ih =>
    intro i hi
    have hj : i < 40 := by omega
    have hr := ih (i + 1) (by omega)
    by_cases z : t i = 0
    · rw [ci_cnt_s0 z] at hr
      exact br_f (ci_40 hj) ⟨ci_i40 hj, br_t (by rw [ci_cl hj]; exact z) (nm_r (nI_1 i) hr)⟩
    · rw [ci_cnt_s1 z] at hr
      exact br_f (ci_40 hj) ⟨ci_i40 hj, br_f (by rw [ci_cl hj]; exact z) (nm_r (nI_1 _) (nm_r (nI_1 i) hr))⟩
theorem ci_ycnt {post : Int32 → Prop} {t p l : Nat → Int32} (h : post (nI (ci_cnt t 40))) : wpY_count post (t, p, l) := ⟨41, ci_ycl h 40 0 rfl⟩
/-- how many of the first n slots hold a point in the box -/
def ci_cb (t p : Nat → Int32) (a b : Int32) : Nat → Nat
  | 0 => 0
  | n + 1 => ci_cb t p a b n + (if ci_ib (t n) (p n) a b = 0 then 0 else 1)
theorem ci_cb_0 {t p : Nat → Int32} {a b : Int32} {i : Nat} (z : ci_ib (t i) (p i) a b = 0) : ci_cb t p a b (i + 1) = ci_cb t p a b i := by
  show ci_cb t p a b i + (if ci_ib (t i) (p i) a b = 0 then 0 else 1) = _
  rw [if_pos z]
  rfl
theorem ci_cb_1 {t p : Nat → Int32} {a b : Int32} {i : Nat} (z : ¬ ci_ib (t i) (p i) a b = 0) : ci_cb t p a b (i + 1) = ci_cb t p a b i + 1 := by
  show ci_cb t p a b i + (if ci_ib (t i) (p i) a b = 0 then 0 else 1) = _
  rw [if_neg z]
theorem ci_cb_le (t p : Nat → Int32) (a b : Int32) (n : Nat) : ci_cb t p a b n ≤ n := by
  induction n with
  | zero => exact Nat.le_refl 0
  | succ n ih =>
    show ci_cb t p a b n + (if ci_ib (t n) (p n) a b = 0 then 0 else 1) ≤ n + 1
    split <;> omega
theorem ci_xcb {post : Int32 → Prop} {s : Int32} {t p l : Nat → Int32} {a b : Int32} (h : post (nI (ci_cb t p a b 40))) : ∀ d i : Nat, i + d = 40 → wX_countBox_15 post a b s t p l (d + 1) (nI (ci_cb t p a b i)) (nI i) := by
  intro d
  induction d with
  | zero =>
    intro i hi
    cases (show i = 40 by omega)
    exact br_t ci_40e h
  | succ d ih =>
    intro i hi
    have hj : i < 40 := by omega
    have hr := ih (i + 1) (by omega)
    by_cases z : ci_ib (t i) (p i) a b = 0
    · rw [ci_cb_0 z] at hr
      exact br_f (ci_40 hj) (ci_xib hj (br_t z (nm_r (nI_1 i) hr)))
    · rw [ci_cb_1 z] at hr
      exact br_f (ci_40 hj) (ci_xib hj (br_f z (nm_r (nI_1 _) (nm_r (nI_1 i) hr))))
theorem ci_ycb {post : Int32 → Prop} {t p l : Nat → Int32} {a b : Int32} (h : post (nI (ci_cb t p a b 40))) : ∀ d i : Nat, i + d = 40 → wY_countBox_23 post a b t p l (d + 1) (nI (ci_cb t p a b i)) (nI i) := by
  intro d
  induction d with
  | zero =>
    intro i hi
    cases (show i = 40 by omega)
    exact br_t ci_40e h
  | succ d ih =>
    intro i hi
    have hj : i < 40 := by omega
    have hr := ih (i + 1) (by omega)
    by_cases z : ci_ib (t i) (p i) a b = 0
    · rw [ci_cb_0 z] at hr
      exact br_f (ci_40 hj) (ci_yib hj (br_t z (nm_r (nI_1 i) hr)))
    · rw [ci_cb_1 z] at hr
      exact br_f (ci_40 hj) (ci_yib hj (br_f z (nm_r (nI_1 _) (nm_r (nI_1 i) hr))))
/-- the slots as a clearing leaves them, once it has passed the first n -/
def ci_T (t p : Nat → Int32) (a b : Int32) : Nat → Nat → Int32
  | 0 => t
  | n + 1 => if ci_ib (t n) (p n) a b = 0 then ci_T t p a b n else upd (ci_T t p a b n) n 0
theorem ci_T_0 {t p : Nat → Int32} {a b : Int32} {i : Nat} (z : ci_ib (t i) (p i) a b = 0) : ci_T t p a b (i + 1) = ci_T t p a b i := if_pos z
theorem ci_T_1 {t p : Nat → Int32} {a b : Int32} {i : Nat} (z : ¬ ci_ib (t i) (p i) a b = 0) : ci_T t p a b (i + 1) = upd (ci_T t p a b i) i 0 := if_neg z
theorem ci_T_ge (t p : Nat → Int32) (a b : Int32) (n j : Nat) (h : n ≤ j) : ci_T t p a b n j = t j := by
  induction n with
  | zero => rfl
  | succ n ih =>
    by_cases z : ci_ib (t n) (p n) a b = 0
    · rw [ci_T_0 z, ih (by omega)]
    · rw [ci_T_1 z, pk_un (by omega), ih (by omega)]
theorem ci_T_cnt (t p : Nat → Int32) (a b : Int32) (n : Nat) (h : n ≤ 40) : ci_cnt (ci_T t p a b n) 40 + ci_cb t p a b n = ci_cnt t 40 := by
  induction n with
  | zero => rfl
  | succ n ih =>
    have ih := ih (by omega)
    by_cases z : ci_ib (t n) (p n) a b = 0
    · rw [ci_T_0 z, ci_cb_0 z, ih]
    · have hz : ¬ ci_T t p a b n n = 0 := by rw [ci_T_ge t p a b n n (Nat.le_refl n)]; exact ci_ib_t z
      have hc := ci_cnt_clr (ci_T t p a b n) n hz 40 (by omega)
      rw [ci_T_1 z, ci_cb_1 z]
      omega
theorem ci_T_z (t p : Nat → Int32) (a b : Int32) (n : Nat) (h : ci_cb t p a b n = 0) : ci_T t p a b n = t := by
  induction n with
  | zero => rfl
  | succ n ih =>
    by_cases z : ci_ib (t n) (p n) a b = 0
    · rw [ci_cb_0 z] at h
      rw [ci_T_0 z, ih h]
    · rw [ci_cb_1 z] at h
      omega
theorem ci_xclr {post : Int32 → SX → Prop} {t p l : Nat → Int32} {a b : Int32} (h : post (nI (ci_cb t p a b 40)) (nI (ci_cnt (ci_T t p a b 40) 40), ci_T t p a b 40, p, l)) : ∀ d i : Nat, i + d = 40 → wX_clearBox_15 post a b (d + 1) (nI (ci_cb t p a b i)) (nI i) (nI (ci_cnt (ci_T t p a b i) 40)) (ci_T t p a b i) p l := by
  intro d
  induction d with
  | zero =>
    intro i hi
    cases (show i = 40 by omega)
    exact br_t ci_40e h
  | succ d ih =>
    intro i hi
    have hj : i < 40 := by omega
    have hr := ih (i + 1) (by omega)
    have eT := ci_T_ge t p a b i i (Nat.le_refl i)
    by_cases z : ci_ib (t i) (p i) a b = 0
    · rw [ci_cb_0 z, ci_T_0 z] at hr
      have z' : ci_ib (ci_T t p a b i i) (p i) a b = 0 := by rw [eT]; exact z
      exact br_f (ci_40 hj) (ci_xib hj (br_t z' (nm_r (nI_1 i) hr)))
    · have z' : ¬ ci_ib (ci_T t p a b i i) (p i) a b = 0 := by rw [eT]; exact z
      have hz : ¬ ci_T t p a b i i = 0 := ci_ib_t z'
      have hc := ci_cnt_clr (ci_T t p a b i) i hz 40 hj
      rw [ci_cb_1 z, ci_T_1 z] at hr
      rw [← hc]
      refine br_f (ci_40 hj) (ci_xib hj (br_f z' (ci_xta hj ?_)))
      dsimp only
      rw [nI_pred]
      exact nm_r (nI_1 _) (nm_r (nI_1 i) hr)
theorem ci_yclr {post : Int32 → SY → Prop} {t p l : Nat → Int32} {a b c : Int32} (hc : ¬ c ≤ 0) (h : post c (ci_T t p a b 40, p, l)) : ∀ d i : Nat, i + d = 40 → wY_clearBox_10 post a b c (d + 1) (nI i) (ci_T t p a b i) p l := by
  intro d
  induction d with
  | zero =>
    intro i hi
    cases (show i = 40 by omega)
    exact br_t ci_40e h
  | succ d ih =>
    intro i hi
    have hj : i < 40 := by omega
    have hr := ih (i + 1) (by omega)
    have eT := ci_T_ge t p a b i i (Nat.le_refl i)
    by_cases z : ci_ib (t i) (p i) a b = 0
    · rw [ci_T_0 z] at hr
      have z' : ci_ib (ci_T t p a b i i) (p i) a b = 0 := by rw [eT]; exact z
      exact br_f (ci_40 hj) (br_f hc (ci_yib hj (br_t z' (nm_r (nI_1 i) hr))))
    · have z' : ¬ ci_ib (ci_T t p a b i i) (p i) a b = 0 := by rw [eT]; exact z
      rw [ci_T_1 z] at hr
      exact br_f (ci_40 hj) (br_f hc (ci_yib hj (br_f z' ⟨ci_i40 hj, nm_r (by rw [ci_cl hj, ci_nb0]) (nm_r (nI_1 i) hr)⟩)))
end
section
/-- the sum of the labels in the box: both sides alike -/
theorem ci_sum (s : Int32) (t p l : Nat → Int32) (a b : Int32) : ∀ (d i : Nat) (w : Int32), i + d = 40 → ∃ r : Int32, (∀ post : Int32 → Prop, post r → wX_sumBox_15 post a b s t p l (d + 1) w (nI i)) ∧ (∀ post : Int32 → Prop, post r → wY_sumBox_23 post a b t p l (d + 1) w (nI i)) := by
  intro d
  induction d with
  | zero =>
    intro i w hi
    cases (show i = 40 by omega)
    exact ⟨w, fun _ h => br_t ci_40e h, fun _ h => br_t ci_40e h⟩
  | succ d ih =>
    intro i w hi
    have hj : i < 40 := by omega
    have h4 := ci_40 hj
    by_cases z : ci_ib (t i) (p i) a b = 0
    · obtain ⟨r, hX, hY⟩ := ih (i + 1) w (by omega)
      exact ⟨r, fun post h => br_f h4 (ci_xib hj (br_t z (nm_r (nI_1 i) (hX post h)))), fun post h => br_f h4 (ci_yib hj (br_t z (nm_r (nI_1 i) (hY post h))))⟩
    · obtain ⟨r, hX, hY⟩ := ih (i + 1) (w + l (nI i).toNatClampNeg) (by omega)
      exact ⟨r, fun post h => br_f h4 (ci_xib hj (br_f z ⟨ci_i40 hj, nm_e (nm_r (nI_1 i) (hX post h))⟩)), fun post h => br_f h4 (ci_yib hj (br_f z ⟨ci_i40 hj, nm_e (nm_r (nI_1 i) (hY post h))⟩))⟩
/-- the first point in the box: both sides alike -/
theorem ci_first (s : Int32) (t p l : Nat → Int32) (a b : Int32) : ∀ d i : Nat, i + d = 40 → ∃ r : Int32, (∀ post : Int32 → Prop, post r → wX_firstIn_12 post a b s t p l (d + 1) (nI i)) ∧ (∀ post : Int32 → Prop, post r → wY_firstIn_20 post a b t p l (d + 1) (nI i)) := by
  intro d
  induction d with
  | zero =>
    intro i hi
    cases (show i = 40 by omega)
    exact ⟨-3, fun _ h => br_t ci_40e h, fun _ h => br_t ci_40e h⟩
  | succ d ih =>
    intro i hi
    have hj : i < 40 := by omega
    have h4 := ci_40 hj
    by_cases z : ci_ib (t i) (p i) a b = 0
    · obtain ⟨r, hX, hY⟩ := ih (i + 1) (by omega)
      exact ⟨r, fun post h => br_f h4 (ci_xib hj (br_t z (nm_r (nI_1 i) (hX post h)))), fun post h => br_f h4 (ci_yib hj (br_t z (nm_r (nI_1 i) (hY post h))))⟩
    · exact ⟨nI i, fun post h => br_f h4 (ci_xib hj (br_f z h)), fun post h => br_f h4 (ci_yib hj (br_f z h))⟩
/-- the points within a distance: both sides alike -/
theorem ci_near (s : Int32) (t p l : Nat → Int32) (a b : Int32) : ∀ (d i : Nat) (w : Int32), i + d = 40 → ∃ r : Int32, (∀ post : Int32 → Prop, post r → wX_countNear_14 post a b s t p l (d + 1) w (nI i)) ∧ (∀ post : Int32 → Prop, post r → wY_countNear_15 post a b t p l (d + 1) w (nI i)) := by
  intro d
  induction d with
  | zero =>
    intro i w hi
    cases (show i = 40 by omega)
    exact ⟨w, fun _ h => br_t ci_40e h, fun _ h => br_t ci_40e h⟩
  | succ d ih =>
    intro i w hi
    have hj : i < 40 := by omega
    have h4 := ci_40 hj
    have hin := ci_i40 hj
    by_cases z : t (nI i).toNatClampNeg = 0
    · obtain ⟨r, hX, hY⟩ := ih (i + 1) w (by omega)
      exact ⟨r, fun post h => br_f h4 ⟨hin, br_t z (nm_r (nI_1 i) (hX post h))⟩, fun post h => br_f h4 ⟨hin, br_t z (nm_r (nI_1 i) (hY post h))⟩⟩
    · by_cases y : b < ci_dist (p (nI i).toNatClampNeg) a
      · obtain ⟨r, hX, hY⟩ := ih (i + 1) w (by omega)
        exact ⟨r, fun post h => br_f h4 ⟨hin, br_f z ⟨hin, ci_xd (br_t y (nm_r (nI_1 i) (hX post h)))⟩⟩, fun post h => br_f h4 ⟨hin, br_f z ⟨hin, ci_yd (br_t y (nm_r (nI_1 i) (hY post h)))⟩⟩⟩
      · obtain ⟨r, hX, hY⟩ := ih (i + 1) (w + 1) (by omega)
        exact ⟨r, fun post h => br_f h4 ⟨hin, br_f z ⟨hin, ci_xd (br_f y (nm_e (nm_r (nI_1 i) (hX post h))))⟩⟩, fun post h => br_f h4 ⟨hin, br_f z ⟨hin, ci_yd (br_f y (nm_e (nm_r (nI_1 i) (hY post h))))⟩⟩⟩
/-- the points ahead of a point: both sides alike -/
theorem ci_ahl (s : Int32) (t p l : Nat → Int32) (g a c : Int32) : ∀ (d i : Nat) (w : Int32), i + d = 40 → ∃ r : Int32, (∀ post : Int32 → Prop, post r → wX_countAhead_17 post g a c s t p l (d + 1) w (nI i)) ∧ (∀ post : Int32 → Prop, post r → wY_before_18 post g a c t p l (d + 1) w (nI i)) := by
  intro d
  induction d with
  | zero =>
    intro i w hi
    cases (show i = 40 by omega)
    exact ⟨w, fun _ h => br_t ci_40e h, fun _ h => br_t ci_40e h⟩
  | succ d ih =>
    intro i w hi
    have hj : i < 40 := by omega
    have h4 := ci_40 hj
    have hin := ci_i40 hj
    by_cases z : t (nI i).toNatClampNeg = 0
    · obtain ⟨r, hX, hY⟩ := ih (i + 1) w (by omega)
      exact ⟨r, fun post h => br_f h4 ⟨hin, br_t z (nm_r (nI_1 i) (hX post h))⟩, fun post h => br_f h4 ⟨hin, ci_yd ⟨hin, br_t z (nm_r (nI_1 i) (hY post h))⟩⟩⟩
    · by_cases y : ci_dist (p (nI i).toNatClampNeg) a < c
      · obtain ⟨r, hX, hY⟩ := ih (i + 1) (w + 1) (by omega)
        exact ⟨r, fun post h => br_f h4 ⟨hin, br_f z ⟨hin, ci_xd (br_t y (nm_e (nm_r (nI_1 i) (hX post h))))⟩⟩, fun post h => br_f h4 ⟨hin, ci_yd ⟨hin, br_f z (br_t y (nm_e (nm_r (nI_1 i) (hY post h))))⟩⟩⟩
      · by_cases x : ci_dist (p (nI i).toNatClampNeg) a = c
        · by_cases o : g ≤ nI i
          · obtain ⟨r, hX, hY⟩ := ih (i + 1) w (by omega)
            exact ⟨r, fun post h => br_f h4 ⟨hin, br_f z ⟨hin, ci_xd (br_f y (br_t x (br_t o (nm_r (nI_1 i) (hX post h)))))⟩⟩, fun post h => br_f h4 ⟨hin, ci_yd ⟨hin, br_f z (br_f y (br_t x (br_t o (nm_r (nI_1 i) (hY post h)))))⟩⟩⟩
          · obtain ⟨r, hX, hY⟩ := ih (i + 1) (w + 1) (by omega)
            exact ⟨r, fun post h => br_f h4 ⟨hin, br_f z ⟨hin, ci_xd (br_f y (br_t x (br_f o (nm_e (nm_r (nI_1 i) (hX post h))))))⟩⟩, fun post h => br_f h4 ⟨hin, ci_yd ⟨hin, br_f z (br_f y (br_t x (br_f o (nm_e (nm_r (nI_1 i) (hY post h))))))⟩⟩⟩
        · obtain ⟨r, hX, hY⟩ := ih (i + 1) w (by omega)
          exact ⟨r, fun post h => br_f h4 ⟨hin, br_f z ⟨hin, ci_xd (br_f y (br_f x (nm_r (nI_1 i) (hX post h))))⟩⟩, fun post h => br_f h4 ⟨hin, ci_yd ⟨hin, br_f z (br_f y (br_f x (nm_r (nI_1 i) (hY post h))))⟩⟩⟩
theorem ci_ahead (s : Int32) (t p l : Nat → Int32) (a : Int32) (i : Nat) (hi : i < 40) : ∃ r : Int32, (∀ post : Int32 → Prop, post r → wpX_countAhead post (s, t, p, l) (nI i) a) ∧ (∀ post : Int32 → Prop, post r → wpY_before post (t, p, l) (nI i) a) := by
  obtain ⟨r, hX, hY⟩ := ci_ahl s t p l (nI i) a (ci_dist (p (nI i).toNatClampNeg) a) 40 0 0 rfl
  exact ⟨r, fun post h => ⟨ci_i40 hi, ci_xd ⟨41, hX post h⟩⟩, fun post h => ⟨ci_i40 hi, ci_yd ⟨41, hY post h⟩⟩⟩
/-- the point of a rank: both sides alike -/
theorem ci_nearest (s : Int32) (t p l : Nat → Int32) (a b : Int32) : ∀ d i : Nat, i + d = 40 → ∃ r : Int32, (∀ post : Int32 → Prop, post r → wX_nearest_18 post a b s t p l (d + 1) (nI i)) ∧ (∀ post : Int32 → Prop, post r → wY_nearest_19 post a b t p l (d + 1) (nI i)) := by
  intro d
  induction d with
  | zero =>
    intro i hi
    cases (show i = 40 by omega)
    exact ⟨-3, fun _ h => br_t ci_40e h, fun _ h => br_t ci_40e h⟩
  | succ d ih =>
    intro i hi
    have hj : i < 40 := by omega
    have h4 := ci_40 hj
    have hin := ci_i40 hj
    by_cases z : t (nI i).toNatClampNeg = 0
    · obtain ⟨r, hX, hY⟩ := ih (i + 1) (by omega)
      exact ⟨r, fun post h => br_f h4 ⟨hin, br_t z (nm_r (nI_1 i) (hX post h))⟩, fun post h => br_f h4 ⟨hin, br_t z (nm_r (nI_1 i) (hY post h))⟩⟩
    · obtain ⟨q, aX, aY⟩ := ci_ahead s t p l a i hj
      by_cases y : q = b
      · exact ⟨nI i, fun post h => br_f h4 ⟨hin, br_f z (aX _ (br_t y h))⟩, fun post h => br_f h4 ⟨hin, br_f z (aY _ (br_t y h))⟩⟩
      · obtain ⟨r, hX, hY⟩ := ih (i + 1) (by omega)
        exact ⟨r, fun post h => br_f h4 ⟨hin, br_f z (aX _ (br_f y (nm_r (nI_1 i) (hX post h))))⟩, fun post h => br_f h4 ⟨hin, br_f z (aY _ (br_f y (nm_r (nI_1 i) (hY post h))))⟩⟩
end
section
/-- the class's inner loop: from the pair (i, j) to the row's end -/
theorem ci_xin {post : Int32 → Prop} {J : Int32 → Int32 → Prop} {s : Int32} {t p l : Nat → Int32} {i : Nat} (hi : i < 40) (h : J (ci_F t p (40 * i + 40)) (nI (i + 1))) : ∀ d j : Nat, j + d = 40 → i < j → wX_closest_15 post J (nI i) s t p l (d + 1) (ci_F t p (40 * i + j)) (nI j) := by
  intro d
  induction d with
  | zero =>
    intro j hj _
    cases (show j = 40 by omega)
    exact br_t ci_40e (nm_r (nI_1 i) h)
  | succ d ih =>
    intro j hj hij
    have hj4 : j < 40 := by omega
    have hr := ih (j + 1) (by omega) (by omega)
    have eF : ci_F t p (40 * i + (j + 1)) = ci_st t p i j (ci_F t p (40 * i + j)) := by
      show ci_F t p (40 * i + j + 1) = _
      rw [ci_F_eq t p i j hj4, if_pos hij]
    rw [eF] at hr
    have ei := ci_cl hi
    have ej := ci_cl hj4
    generalize ci_F t p (40 * i + j) = w at hr ⊢
    unfold ci_st at hr
    refine br_f (ci_40 hj4) ⟨ci_i40 hi, ?_⟩
    by_cases zi : t i = 0
    · rw [if_pos zi] at hr
      exact br_t (by rw [ei]; exact zi) (nm_r (nI_1 j) hr)
    · rw [if_neg zi] at hr
      refine br_f (by rw [ei]; exact zi) ⟨ci_i40 hj4, ?_⟩
      by_cases zj : t j = 0
      · rw [if_pos zj] at hr
        exact br_t (by rw [ej]; exact zj) (nm_r (nI_1 j) hr)
      · rw [if_neg zj] at hr
        refine br_f (by rw [ej]; exact zj) ⟨ci_i40 hi, ci_i40 hj4, ci_xd ?_⟩
        rw [ei, ej]
        by_cases y : w = -3
        · rw [if_pos y] at hr
          exact br_t y (nm_r (nI_1 j) hr)
        · rw [if_neg y] at hr
          refine br_f y ?_
          by_cases o : w ≤ ci_dist (p i) (p j)
          · rw [if_neg (Int32.not_lt.mpr o)] at hr
            exact br_t o (nm_r (nI_1 j) hr)
          · rw [if_pos (Int32.not_le.mp o)] at hr
            exact br_f o (nm_r (nI_1 j) hr)
theorem ci_xout {post : Int32 → Prop} {s : Int32} {t p l : Nat → Int32} (h : post (ci_F t p 1600)) : ∀ d i : Nat, i + d = 40 → wX_closest_5 post s t p l (d + 1) (ci_F t p (40 * i)) (nI i) := by
  intro d
  induction d with
  | zero =>
    intro i hi
    cases (show i = 40 by omega)
    exact br_t ci_40e h
  | succ d ih =>
    intro i hi
    have hj : i < 40 := by omega
    have hr := ih (i + 1) (by omega)
    rw [← ci_F_skip t p i (i + 1) hj (Nat.le_refl _)]
    exact br_f (ci_40 hj) (nm_r (nI_1 i) ⟨39 - i + 1, ci_xin hj hr (39 - i) (i + 1) (by omega) (by omega)⟩)
theorem ci_nI40 : (40 : Int32) = nI 40 := by decide
theorem ci_n40 : ¬ (40 : Int32) = 0 := by decide
theorem ci_ydone {post : Int32 → Prop} {J : Int32 → Int32 → Prop} {t p l : Nat → Int32} {i j k : Nat} (hi : i < 40) (hj : j < 40) (h : J (ci_dist (p i) (p j)) (nI (k + 1))) : wY_closest_85 post J (nI k) (nI i) (nI j) t p l := by
  refine ⟨ci_i40 hi, ci_i40 hj, ci_yd ?_⟩
  rw [ci_cl hi, ci_cl hj]
  exact nm_r (nI_1 k) h
theorem ci_yskip {post : Int32 → Prop} {J : Int32 → Int32 → Prop} {t p l : Nat → Int32} {w x y : Int32} {k : Nat} (h : J w (nI (k + 1))) : wY_closest_52 post J w (nI k) x y t p l := br_t rfl (nm_r (nI_1 k) h)
theorem ci_yst {post : Int32 → Prop} {J : Int32 → Int32 → Prop} {t p l : Nat → Int32} {w : Int32} {i j k : Nat} (hi : i < 40) (hj : j < 40) (hw : w = -3 ∨ ¬ w < 0) (zi : ¬ t i = 0) (zj : ¬ t j = 0) (h : J (ci_st t p i j w) (nI (k + 1))) : wY_closest_53 post J w (nI k) (nI i) (nI j) 1 t p l := by
  unfold ci_st at h
  rw [if_neg zi, if_neg zj] at h
  refine br_f (by decide) ?_
  by_cases y : w = -3
  · rw [if_pos y] at h
    exact br_t (by rw [y]; decide) (ci_ydone hi hj h)
  · rw [if_neg y] at h
    have hw' : ¬ w < 0 := hw.resolve_left y
    refine br_f hw' ⟨ci_i40 hi, ci_i40 hj, ci_yd ?_⟩
    rw [ci_cl hi, ci_cl hj]
    by_cases o : w ≤ ci_dist (p i) (p j)
    · rw [if_neg (Int32.not_lt.mpr o)] at h
      exact br_t o (nm_r (nI_1 k) h)
    · rw [if_pos (Int32.not_le.mp o)] at h
      exact br_f o (ci_ydone hi hj h)
theorem ci_yall {post : Int32 → Prop} {t p l : Nat → Int32} (hp : ci_ok p) (h : post (ci_F t p 1600)) : ∀ d k : Nat, k + d = 1600 → wY_closest_5 post t p l (d + 1) (ci_F t p k) (nI k) := by
  intro d
  induction d with
  | zero =>
    intro k hk
    cases (show k = 1600 by omega)
    exact br_t (show (1600 : Int32) ≤ nI 1600 by decide) h
  | succ d ih =>
    intro k hk
    have hr := ih (k + 1) (by omega)
    have hw := ci_F_in (t := t) hp k (by omega)
    have hi : k / 40 < 40 := by omega
    have hj : k % 40 < 40 := by omega
    have ei := ci_cl hi
    have ej := ci_cl hj
    have eF : ci_F t p (k + 1) = if k / 40 < k % 40 then ci_st t p (k / 40) (k % 40) (ci_F t p k) else ci_F t p k := rfl
    rw [eF] at hr
    refine br_f (nI_ge (b := 1600) (by omega) (by decide)) ⟨ci_n40, nm_r (e' := nI (k / 40)) (by rw [ci_nI40, pk_div (by omega) (by omega) (by omega)]) ⟨ci_n40, nm_r (e' := nI (k % 40)) (by rw [ci_nI40, pk_rem (by omega) (by omega) (by omega)]) ?_⟩⟩
    by_cases c : k / 40 < k % 40
    · rw [if_pos c] at hr
      refine br_f (nI_ge c (by omega)) ⟨ci_i40 hi, ?_⟩
      by_cases zi : t (k / 40) = 0
      · unfold ci_st at hr
        rw [if_pos zi] at hr
        exact br_t (by rw [ei]; exact zi) (ci_yskip hr)
      · refine br_f (by rw [ei]; exact zi) ⟨ci_i40 hj, ?_⟩
        by_cases zj : t (k % 40) = 0
        · unfold ci_st at hr
          rw [if_neg zi, if_pos zj] at hr
          exact br_t (by rw [ej]; exact zj) (ci_yskip hr)
        · exact br_f (by rw [ej]; exact zj) (ci_yst hi hj hw zi zj hr)
    · rw [if_neg c] at hr
      exact br_t (nI_le (by omega) (by omega)) (ci_yskip hr)
end
section
/-- the same slots, places and labels; the class's size is the number of slots taken; every place lies on the square -/
def i_Rel (_ : Nat) (u : SX) (v : SY) : Prop := ∃ t p l : Nat → Int32, u = (nI (ci_cnt t 40), t, p, l) ∧ v = (t, p, l) ∧ ci_ok p
theorem i_up {k : Nat} {u : SX} {v : SY} (h : i_Rel k u v) : i_Rel (k + 3) u v := h
theorem i_vc0 : wpX_init (fun u => wpY_init (fun v => i_Rel 0 u v)) := ⟨fun _ => 0, fun _ => 0, fun _ => 0, by rw [ci_cnt_0]; rfl, rfl, ci_ok_0⟩
theorem i_vc_add {k : Nat} {u : SX} {v : SY} (I : i_Rel k u v) (hk : k + 3 ≤ 1536) (v1 : Int32) (v2 : Int32) : wpX_add (fun r u' => wpY_add (fun r' v' => r' = r ∧ i_Rel (k + 3) u' v') v v1 v2) u v1 v2 := by
  obtain ⟨t, p, l, rfl, rfl, hp⟩ := I
  unfold wpX_add wpY_add
  dsimp only
  rcases ci_place v1 with ⟨gX, gY⟩ | ⟨m, hm, rfl, gX, gY⟩
  · exact gX _ (br_t rfl (gY _ _ (br_t rfl ⟨rfl, t, p, l, rfl, rfl, hp⟩)))
  · refine gX _ (br_f (by decide) ?_)
    rcases ci_add (nI (ci_cnt t 40)) t p l (nI m) v2 40 0 rfl with ⟨hX, hY⟩ | ⟨j, hj, hz, hX, hY⟩
    · exact ⟨41, hX _ (gY _ _ (br_f (by decide) ⟨41, hY _ ⟨rfl, t, p, l, rfl, rfl, hp⟩⟩))⟩
    · exact ⟨41, hX _ (gY _ _ (br_f (by decide) ⟨41, hY _ ⟨rfl, upd t j 1, upd p j (nI m), upd l j v2, by rw [nI_1, ci_cnt_set t j 1 hz (by decide) 40 hj], rfl, ci_ok_u hp j m hm⟩⟩))⟩
theorem i_vc_remove {k : Nat} {u : SX} {v : SY} (I : i_Rel k u v) (hk : k + 3 ≤ 1536) (v1 : Int32) : wpX_remove (fun r u' => wpY_remove (fun r' v' => r' = r ∧ i_Rel (k + 3) u' v') v v1) u v1 := by
  obtain ⟨t, p, l, rfl, rfl, hp⟩ := I
  unfold wpX_remove wpY_remove
  dsimp only
  rcases ci_point t v1 with ⟨gX, gY⟩ | ⟨j, hj, rfl, hz, gX, gY⟩
  · exact gX _ _ _ _ (br_t rfl (gY _ _ _ (br_t rfl ⟨rfl, t, p, l, rfl, rfl, hp⟩)))
  · have hc := ci_cnt_clr t j hz 40 hj
    refine gX _ _ _ _ (br_f (by decide) (ci_xta hj ?_))
    dsimp only
    refine gY _ _ _ (br_f (by decide) ⟨ci_i40 hj, nm_r (e' := upd t j 0) (by rw [ci_cl hj, ci_nb0]) (ci_ycnt ?_)⟩)
    rw [← hc, nI_pred]
    exact ⟨rfl, upd t j 0, p, l, rfl, rfl, hp⟩
theorem i_vc_move {k : Nat} {u : SX} {v : SY} (I : i_Rel k u v) (hk : k + 3 ≤ 1536) (v1 : Int32) (v2 : Int32) : wpX_move (fun r u' => wpY_move (fun r' v' => r' = r ∧ i_Rel (k + 3) u' v') v v1 v2) u v1 v2 := by
  obtain ⟨t, p, l, rfl, rfl, hp⟩ := I
  unfold wpX_move wpY_move
  dsimp only
  rcases ci_point t v1 with ⟨gX, gY⟩ | ⟨j, hj, rfl, hz, gX, gY⟩
  · exact gX _ _ _ _ (br_t rfl (gY _ _ _ (br_t rfl ⟨rfl, t, p, l, rfl, rfl, hp⟩)))
  · refine gX _ _ _ _ (br_f (by decide) ?_)
    rcases ci_place v2 with ⟨fX, fY⟩ | ⟨m, hm, rfl, fX, fY⟩
    · exact fX _ (br_t rfl (gY _ _ _ (br_f (by decide) (fY _ _ (br_t rfl ⟨rfl, t, p, l, rfl, rfl, hp⟩)))))
    · exact fX _ (br_f (by decide) ⟨ci_i40 hj, nm_e ⟨ci_i40 hj, nm_r (e' := upd p j (nI m)) (by rw [ci_cl hj]) (gY _ _ _ (br_f (by decide) (fY _ _ (br_f (by decide) ⟨ci_i40 hj, nm_e ⟨ci_i40 hj, nm_r (e' := upd p j (nI m)) (by rw [ci_cl hj]) ⟨rfl, t, upd p j (nI m), l, rfl, rfl, ci_ok_u hp j m hm⟩⟩⟩))))⟩⟩)
theorem i_vc_clearBox {k : Nat} {u : SX} {v : SY} (I : i_Rel k u v) (hk : k + 3 ≤ 1536) (v1 : Int32) (v2 : Int32) : wpX_clearBox (fun r u' => wpY_clearBox (fun r' v' => r' = r ∧ i_Rel (k + 3) u' v') v v1 v2) u v1 v2 := by
  obtain ⟨t, p, l, rfl, rfl, hp⟩ := I
  unfold wpX_clearBox wpY_clearBox wpY_countBox
  dsimp only
  rcases ci_place v1 with ⟨gX, gY⟩ | ⟨m, hm, rfl, gX, gY⟩
  · exact gX _ (br_t rfl (br_t rfl (gY _ _ (br_t rfl ⟨1, br_f (by decide) (br_t (by decide) ⟨rfl, t, p, l, rfl, rfl, hp⟩)⟩))))
  · rcases ci_place v2 with ⟨fX, fY⟩ | ⟨n, hn, rfl, fX, fY⟩
    · exact gX _ (br_f (by decide) (fX _ (br_t rfl (br_t rfl (gY _ _ (br_f (by decide) (fY _ _ (br_t rfl ⟨1, br_f (by decide) (br_t (by decide) ⟨rfl, t, p, l, rfl, rfl, hp⟩)⟩))))))))
    · refine gX _ (br_f (by decide) (fX _ (br_f (by decide) (br_f (by decide) ⟨41, ci_xclr ?_ 40 0 rfl⟩))))
      refine gY _ _ (br_f (by decide) (fY _ _ (br_f (by decide) ⟨41, ci_ycb ?_ 40 0 rfl⟩)))
      by_cases z : ci_cb t p (nI m) (nI n) 40 = 0
      · rw [z, ci_T_z t p (nI m) (nI n) 40 z]
        exact ⟨1, br_f (by decide) (br_t (by decide) ⟨rfl, t, p, l, rfl, rfl, hp⟩)⟩
      · have hle := ci_cb_le t p (nI m) (nI n) 40
        exact ⟨41, ci_yclr (nI_nle (by omega) (by omega)) ⟨rfl, ci_T t p (nI m) (nI n) 40, p, l, rfl, rfl, hp⟩ 40 0 rfl⟩
theorem i_vc_countBox {k : Nat} {u : SX} {v : SY} (I : i_Rel k u v) (hk : k + 3 ≤ 1536) (v1 : Int32) (v2 : Int32) : wpX_countBox (fun r => wpY_countBox (fun r' => r' = r ∧ i_Rel (k + 3) u v) v v1 v2) u v1 v2 := by
  obtain ⟨t, p, l, rfl, rfl, hp⟩ := I
  unfold wpX_countBox wpY_countBox
  dsimp only
  rcases ci_place v1 with ⟨gX, gY⟩ | ⟨m, hm, rfl, gX, gY⟩
  · exact gX _ (br_t rfl (br_t rfl (gY _ _ (br_t rfl ⟨rfl, t, p, l, rfl, rfl, hp⟩))))
  · rcases ci_place v2 with ⟨fX, fY⟩ | ⟨n, hn, rfl, fX, fY⟩
    · exact gX _ (br_f (by decide) (fX _ (br_t rfl (br_t rfl (gY _ _ (br_f (by decide) (fY _ _ (br_t rfl ⟨rfl, t, p, l, rfl, rfl, hp⟩))))))))
    · exact gX _ (br_f (by decide) (fX _ (br_f (by decide) (br_f (by decide) ⟨41, ci_xcb (gY _ _ (br_f (by decide) (fY _ _ (br_f (by decide) ⟨41, ci_ycb ⟨rfl, t, p, l, rfl, rfl, hp⟩ 40 0 rfl⟩)))) 40 0 rfl⟩))))
theorem i_vc_sumBox {k : Nat} {u : SX} {v : SY} (I : i_Rel k u v) (hk : k + 3 ≤ 1536) (v1 : Int32) (v2 : Int32) : wpX_sumBox (fun r => wpY_sumBox (fun r' => r' = r ∧ i_Rel (k + 3) u v) v v1 v2) u v1 v2 := by
  obtain ⟨t, p, l, rfl, rfl, hp⟩ := I
  unfold wpX_sumBox wpY_sumBox
  dsimp only
  rcases ci_place v1 with ⟨gX, gY⟩ | ⟨m, hm, rfl, gX, gY⟩
  · exact gX _ (br_t rfl (br_t rfl (gY _ _ (br_t rfl ⟨rfl, t, p, l, rfl, rfl, hp⟩))))
  · rcases ci_place v2 with ⟨fX, fY⟩ | ⟨n, hn, rfl, fX, fY⟩
    · exact gX _ (br_f (by decide) (fX _ (br_t rfl (br_t rfl (gY _ _ (br_f (by decide) (fY _ _ (br_t rfl ⟨rfl, t, p, l, rfl, rfl, hp⟩))))))))
    · obtain ⟨r, hX, hY⟩ := ci_sum (nI (ci_cnt t 40)) t p l (nI m) (nI n) 40 0 0 rfl
      exact gX _ (br_f (by decide) (fX _ (br_f (by decide) (br_f (by decide) ⟨41, hX _ (gY _ _ (br_f (by decide) (fY _ _ (br_f (by decide) ⟨41, hY _ ⟨rfl, t, p, l, rfl, rfl, hp⟩⟩))))⟩))))
theorem i_vc_countNear {k : Nat} {u : SX} {v : SY} (I : i_Rel k u v) (hk : k + 3 ≤ 1536) (v1 : Int32) (v2 : Int32) : wpX_countNear (fun r => wpY_countNear (fun r' => r' = r ∧ i_Rel (k + 3) u v) v v1 v2) u v1 v2 := by
  obtain ⟨t, p, l, rfl, rfl, hp⟩ := I
  unfold wpX_countNear wpY_countNear
  dsimp only
  rcases ci_place v1 with ⟨gX, gY⟩ | ⟨m, hm, rfl, gX, gY⟩
  · exact gX _ (br_t rfl (gY _ _ (br_t rfl ⟨rfl, t, p, l, rfl, rfl, hp⟩)))
  · obtain ⟨r, hX, hY⟩ := ci_near (nI (ci_cnt t 40)) t p l (nI m) v2 40 0 0 rfl
    exact gX _ (br_f (by decide) ⟨41, hX _ (gY _ _ (br_f (by decide) ⟨41, hY _ ⟨rfl, t, p, l, rfl, rfl, hp⟩⟩))⟩)
theorem i_vc_nearest {k : Nat} {u : SX} {v : SY} (I : i_Rel k u v) (hk : k + 3 ≤ 1536) (v1 : Int32) (v2 : Int32) : wpX_nearest (fun r => wpY_nearest (fun r' => r' = r ∧ i_Rel (k + 3) u v) v v1 v2) u v1 v2 := by
  obtain ⟨t, p, l, rfl, rfl, hp⟩ := I
  unfold wpX_nearest wpY_nearest
  dsimp only
  rcases ci_place v1 with ⟨gX, gY⟩ | ⟨m, hm, rfl, gX, gY⟩
  · exact gX _ (br_t rfl (gY _ _ (br_t rfl ⟨rfl, t, p, l, rfl, rfl, hp⟩)))
  · refine gX _ (br_f (by decide) ?_)
    by_cases h0 : 0 ≤ v2
    · obtain ⟨r, hX, hY⟩ := ci_nearest (nI (ci_cnt t 40)) t p l (nI m) v2 40 0 rfl
      exact br_t h0 ⟨41, hX _ (gY _ _ (br_f (by decide) (br_t h0 ⟨41, hY _ ⟨rfl, t, p, l, rfl, rfl, hp⟩⟩)))⟩
    · exact br_f h0 (gY _ _ (br_f (by decide) (br_f h0 ⟨rfl, t, p, l, rfl, rfl, hp⟩)))
theorem i_vc_firstIn {k : Nat} {u : SX} {v : SY} (I : i_Rel k u v) (hk : k + 3 ≤ 1536) (v1 : Int32) (v2 : Int32) : wpX_firstIn (fun r => wpY_firstIn (fun r' => r' = r ∧ i_Rel (k + 3) u v) v v1 v2) u v1 v2 := by
  obtain ⟨t, p, l, rfl, rfl, hp⟩ := I
  unfold wpX_firstIn wpY_firstIn
  dsimp only
  rcases ci_place v1 with ⟨gX, gY⟩ | ⟨m, hm, rfl, gX, gY⟩
  · exact gX _ (br_t rfl (br_t rfl (gY _ _ (br_t rfl ⟨rfl, t, p, l, rfl, rfl, hp⟩))))
  · rcases ci_place v2 with ⟨fX, fY⟩ | ⟨n, hn, rfl, fX, fY⟩
    · exact gX _ (br_f (by decide) (fX _ (br_t rfl (br_t rfl (gY _ _ (br_f (by decide) (fY _ _ (br_t rfl ⟨rfl, t, p, l, rfl, rfl, hp⟩))))))))
    · obtain ⟨r, hX, hY⟩ := ci_first (nI (ci_cnt t 40)) t p l (nI m) (nI n) 40 0 rfl
      exact gX _ (br_f (by decide) (fX _ (br_f (by decide) (br_f (by decide) ⟨41, hX _ (gY _ _ (br_f (by decide) (fY _ _ (br_f (by decide) ⟨41, hY _ ⟨rfl, t, p, l, rfl, rfl, hp⟩⟩))))⟩))))
theorem i_vc_placeOf {k : Nat} {u : SX} {v : SY} (I : i_Rel k u v) (hk : k + 3 ≤ 1536) (v1 : Int32) : wpX_placeOf (fun r => wpY_placeOf (fun r' => r' = r ∧ i_Rel (k + 3) u v) v v1) u v1 := by
  obtain ⟨t, p, l, rfl, rfl, hp⟩ := I
  unfold wpX_placeOf wpY_placeOf
  dsimp only
  rcases ci_point t v1 with ⟨gX, gY⟩ | ⟨j, hj, rfl, hz, gX, gY⟩
  · exact gX _ _ _ _ (br_t rfl (gY _ _ _ (br_t rfl ⟨rfl, t, p, l, rfl, rfl, hp⟩)))
  · exact gX _ _ _ _ (br_f (by decide) ⟨ci_i40 hj, gY _ _ _ (br_f (by decide) ⟨ci_i40 hj, rfl, t, p, l, rfl, rfl, hp⟩)⟩)
theorem i_vc_labelOf {k : Nat} {u : SX} {v : SY} (I : i_Rel k u v) (hk : k + 3 ≤ 1536) (v1 : Int32) : wpX_labelOf (fun r => wpY_labelOf (fun r' => r' = r ∧ i_Rel (k + 3) u v) v v1) u v1 := by
  obtain ⟨t, p, l, rfl, rfl, hp⟩ := I
  unfold wpX_labelOf wpY_labelOf
  dsimp only
  rcases ci_point t v1 with ⟨gX, gY⟩ | ⟨j, hj, rfl, hz, gX, gY⟩
  · exact gX _ _ _ _ (br_t rfl (gY _ _ _ (br_t rfl ⟨rfl, t, p, l, rfl, rfl, hp⟩)))
  · exact gX _ _ _ _ (br_f (by decide) ⟨ci_i40 hj, gY _ _ _ (br_f (by decide) ⟨ci_i40 hj, rfl, t, p, l, rfl, rfl, hp⟩)⟩)
theorem i_vc_closest {k : Nat} {u : SX} {v : SY} (I : i_Rel k u v) (hk : k + 3 ≤ 1536) : wpX_closest (fun r => wpY_closest (fun r' => r' = r ∧ i_Rel (k + 3) u v) v) u := by
  obtain ⟨t, p, l, rfl, rfl, hp⟩ := I
  unfold wpX_closest wpY_closest
  dsimp only
  exact ⟨41, ci_xout ⟨1601, ci_yall hp ⟨rfl, t, p, l, rfl, rfl, hp⟩ 1600 0 rfl⟩ 40 0 rfl⟩
theorem i_vc_count {k : Nat} {u : SX} {v : SY} (I : i_Rel k u v) (hk : k + 3 ≤ 1536) : wpX_count (fun r => wpY_count (fun r' => r' = r ∧ i_Rel (k + 3) u v) v) u := by
  obtain ⟨t, p, l, rfl, rfl, hp⟩ := I
  exact ci_ycnt ⟨rfl, t, p, l, rfl, rfl, hp⟩
end
