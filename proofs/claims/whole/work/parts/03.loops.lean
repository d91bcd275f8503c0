/-- the first free slot, or none: both sides find the same -/
theorem ci_add (s : Int32) (t p l : Nat → Int32) (x y : Int32) : ∀ d i : Nat, i + d = 40 → ((∀ post : Int32 → SX → Prop, post (-2) (s, t, p, l) → wX_add_11 post x y s t p l (d + 1) (nI i)) ∧ (∀ post : Int32 → SY → Prop, post (-2) (t, p, l) → wY_add_12 post x y t p l (d + 1) (nI i))) ∨ (∃ j : Nat, j < 40 ∧ t j = 0 ∧ (∀ post : Int32 → SX → Prop, post (nI j) (s + 1, upd t j 1, upd p j x, upd l j y) → wX_add_11 post x y s t p l (d + 1) (nI i)) ∧ (∀ post : Int32 → SY → Prop, post (nI j) (upd t j 1, upd p j x, upd l j y) → wY_add_12 post x y t p l (d + 1) (nI i))) := by
  intro d
  induction d with
  | zero =>
    intro i hi
    cases (show i = 40 by omega)
    exact Or.inl ⟨fun _ h => br_t ci_40e h, fun _ h => br_t ci_40e h⟩
  | succ d ih =>
    intro i hi
    have hj : i < 40 := by omega
    have h4 := ci_40 hj
    have hin := ci_i40 hj
    have e := ci_cl hj
    by_cases z : t i = 0
    · have z' : t (nI i).toNatClampNeg = 0 := by rw [e]; exact z
      refine Or.inr ⟨i, hj, z, fun post h => br_f h4 ⟨hin, br_t z' ⟨hin, nm_r (by rw [e, ci_nb1]) ⟨hin, nm_r (by rw [e]) ⟨hin, nm_r (by rw [e]) (nm_e h)⟩⟩⟩⟩, fun post h => br_f h4 ⟨hin, br_t z' ⟨hin, nm_r (by rw [e, ci_nb1]) ⟨hin, nm_r (by rw [e]) ⟨hin, nm_r (by rw [e]) h⟩⟩⟩⟩⟩
    · have z' : ¬ t (nI i).toNatClampNeg = 0 := by rw [e]; exact z
      rcases ih (i + 1) (by omega) with ⟨hX, hY⟩ | ⟨j, hj', hz, hX, hY⟩
      · exact Or.inl ⟨fun post h => br_f h4 ⟨hin, br_f z' (nm_r (nI_1 i) (hX post h))⟩, fun post h => br_f h4 ⟨hin, br_f z' (nm_r (nI_1 i) (hY post h))⟩⟩
      · exact Or.inr ⟨j, hj', hz, fun post h => br_f h4 ⟨hin, br_f z' (nm_r (nI_1 i) (hX post h))⟩, fun post h => br_f h4 ⟨hin, br_f z' (nm_r (nI_1 i) (hY post h))⟩⟩
/-- the reference counts what the class keeps -/
theorem ci_cnt_s0 {t : Nat → Int32} {i : Nat} (z : t i = 0) : ci_cnt t (i + 1) = ci_cnt t i := by
  show ci_cnt t i + (if t i = 0 then 0 else 1) = _
  rw [if_pos z]
  rfl
theorem ci_cnt_s1 {t : Nat → Int32} {i : Nat} (z : ¬ t i = 0) : ci_cnt t (i + 1) = ci_cnt t i + 1 := by
  show ci_cnt t i + (if t i = 0 then 0 else 1) = _
  rw [if_neg z]
theorem ci_ycl {post : Int32 → Prop} {t p l : Nat → Int32} (h : post (nI (ci_cnt t 40))) : ∀ d i : Nat, i + d = 40 → wY_count_4 post t p l (d + 1) (nI (ci_cnt t i)) (nI i) := by
  intro d
  induction d with
  | zero =>
    intro i hi
    cases (show i = 40 by omega)
    exact br_t ci_40e h
  | succ d ih =>
    intro i hi
    have hj : i < 40 := by omega
    have hr := ih (i + 1) (by omega)
    by_cases z : t i = 0
    · rw [ci_cnt_s0 z] at hr
      exact br_f (ci_40 hj) ⟨ci_i40 hj, br_t (by rw [ci_cl hj]; exact z) (nm_r (nI_1 i) hr)⟩
    · rw [ci_cnt_s1 z] at hr
      exact br_f (ci_40 hj) ⟨ci_i40 hj, br_f (by rw [ci_cl hj]; exact z) (nm_r (nI_1 _) (nm_r (nI_1 i) hr))⟩
theorem ci_ycnt {post : Int32 → Prop} {t p l : Nat → Int32} (h : post (nI (ci_cnt t 40))) : wpY_count post (t, p, l) := ⟨41, ci_ycl h 40 0 rfl⟩
/-- how many of the first n slots hold a point in the box -/
def ci_cb (t p : Nat → Int32) (a b : Int32) : Nat → Nat
  | 0 => 0
  | n + 1 => ci_cb t p a b n + (if ci_ib (t n) (p n) a b = 0 then 0 else 1)
theorem ci_cb_0 {t p : Nat → Int32} {a b : Int32} {i : Nat} (z : ci_ib (t i) (p i) a b = 0) : ci_cb t p a b (i + 1) = ci_cb t p a b i := by
  show ci_cb t p a b i + (if ci_ib (t i) (p i) a b = 0 then 0 else 1) = _
  rw [if_pos z]
  rfl
theorem ci_cb_1 {t p : Nat → Int32} {a b : Int32} {i : Nat} (z : ¬ ci_ib (t i) (p i) a b = 0) : ci_cb t p a b (i + 1) = ci_cb t p a b i + 1 := by
  show ci_cb t p a b i + (if ci_ib (t i) (p i) a b = 0 then 0 else 1) = _
  rw [if_neg z]
theorem ci_cb_le (t p : Nat → Int32) (a b : Int32) (n : Nat) : ci_cb t p a b n ≤ n := by
  induction n with
  | zero => exact Nat.le_refl 0
  | succ n ih =>
    show ci_cb t p a b n + (if ci_ib (t n) (p n) a b = 0 then 0 else 1) ≤ n + 1
    split <;> omega
theorem ci_xcb {post : Int32 → Prop} {s : Int32} {t p l : Nat → Int32} {a b : Int32} (h : post (nI (ci_cb t p a b 40))) : ∀ d i : Nat, i + d = 40 → wX_countBox_15 post a b s t p l (d + 1) (nI (ci_cb t p a b i)) (nI i) := by
  intro d
  induction d with
  | zero =>
    intro i hi
    cases (show i = 40 by omega)
    exact br_t ci_40e h
  | succ d ih =>
    intro i hi
    have hj : i < 40 := by omega
    have hr := ih (i + 1) (by omega)
    by_cases z : ci_ib (t i) (p i) a b = 0
    · rw [ci_cb_0 z] at hr
      exact br_f (ci_40 hj) (ci_xib hj (br_t z (nm_r (nI_1 i) hr)))
    · rw [ci_cb_1 z] at hr
      exact br_f (ci_40 hj) (ci_xib hj (br_f z (nm_r (nI_1 _) (nm_r (nI_1 i) hr))))
theorem ci_ycb {post : Int32 → Prop} {t p l : Nat → Int32} {a b : Int32} (h : post (nI (ci_cb t p a b 40))) : ∀ d i : Nat, i + d = 40 → wY_countBox_23 post a b t p l (d + 1) (nI (ci_cb t p a b i)) (nI i) := by
  intro d
  induction d with
  | zero =>
    intro i hi
    cases (show i = 40 by omega)
    exact br_t ci_40e h
  | succ d ih =>
    intro i hi
    have hj : i < 40 := by omega
    have hr := ih (i + 1) (by omega)
    by_cases z : ci_ib (t i) (p i) a b = 0
    · rw [ci_cb_0 z] at hr
      exact br_f (ci_40 hj) (ci_yib hj (br_t z (nm_r (nI_1 i) hr)))
    · rw [ci_cb_1 z] at hr
      exact br_f (ci_40 hj) (ci_yib hj (br_f z (nm_r (nI_1 _) (nm_r (nI_1 i) hr))))
/-- the slots as a clearing leaves them, once it has passed the first n -/
def ci_T (t p : Nat → Int32) (a b : Int32) : Nat → Nat → Int32
  | 0 => t
  | n + 1 => if ci_ib (t n) (p n) a b = 0 then ci_T t p a b n else upd (ci_T t p a b n) n 0
theorem ci_T_0 {t p : Nat → Int32} {a b : Int32} {i : Nat} (z : ci_ib (t i) (p i) a b = 0) : ci_T t p a b (i + 1) = ci_T t p a b i := if_pos z
theorem ci_T_1 {t p : Nat → Int32} {a b : Int32} {i : Nat} (z : ¬ ci_ib (t i) (p i) a b = 0) : ci_T t p a b (i + 1) = upd (ci_T t p a b i) i 0 := if_neg z
theorem ci_T_ge (t p : Nat → Int32) (a b : Int32) (n j : Nat) (h : n ≤ j) : ci_T t p a b n j = t j := by
  induction n with
  | zero => rfl
  | succ n ih =>
    by_cases z : ci_ib (t n) (p n) a b = 0
    · rw [ci_T_0 z, ih (by omega)]
    · rw [ci_T_1 z, pk_un (by omega), ih (by omega)]
theorem ci_T_cnt (t p : Nat → Int32) (a b : Int32) (n : Nat) (h : n ≤ 40) : ci_cnt (ci_T t p a b n) 40 + ci_cb t p a b n = ci_cnt t 40 := by
  induction n with
  | zero => rfl
  | succ n ih =>
    have ih := ih (by omega)
    by_cases z : ci_ib (t n) (p n) a b = 0
    · rw [ci_T_0 z, ci_cb_0 z, ih]
    · have hz : ¬ ci_T t p a b n n = 0 := by rw [ci_T_ge t p a b n n (Nat.le_refl n)]; exact ci_ib_t z
      have hc := ci_cnt_clr (ci_T t p a b n) n hz 40 (by omega)
      rw [ci_T_1 z, ci_cb_1 z]
      omega
theorem ci_T_z (t p : Nat → Int32) (a b : Int32) (n : Nat) (h : ci_cb t p a b n = 0) : ci_T t p a b n = t := by
  induction n with
  | zero => rfl
  | succ n ih =>
    by_cases z : ci_ib (t n) (p n) a b = 0
    · rw [ci_cb_0 z] at h
      rw [ci_T_0 z, ih h]
    · rw [ci_cb_1 z] at h
      omega
theorem ci_xclr {post : Int32 → SX → Prop} {t p l : Nat → Int32} {a b : Int32} (h : post (nI (ci_cb t p a b 40)) (nI (ci_cnt (ci_T t p a b 40) 40), ci_T t p a b 40, p, l)) : ∀ d i : Nat, i + d = 40 → wX_clearBox_15 post a b (d + 1) (nI (ci_cb t p a b i)) (nI i) (nI (ci_cnt (ci_T t p a b i) 40)) (ci_T t p a b i) p l := by
  intro d
  induction d with
  | zero =>
    intro i hi
    cases (show i = 40 by omega)
    exact br_t ci_40e h
  | succ d ih =>
    intro i hi
    have hj : i < 40 := by omega
    have hr := ih (i + 1) (by omega)
    have eT := ci_T_ge t p a b i i (Nat.le_refl i)
    by_cases z : ci_ib (t i) (p i) a b = 0
    · rw [ci_cb_0 z, ci_T_0 z] at hr
      have z' : ci_ib (ci_T t p a b i i) (p i) a b = 0 := by rw [eT]; exact z
      exact br_f (ci_40 hj) (ci_xib hj (br_t z' (nm_r (nI_1 i) hr)))
    · have z' : ¬ ci_ib (ci_T t p a b i i) (p i) a b = 0 := by rw [eT]; exact z
      have hz : ¬ ci_T t p a b i i = 0 := ci_ib_t z'
      have hc := ci_cnt_clr (ci_T t p a b i) i hz 40 hj
      rw [ci_cb_1 z, ci_T_1 z] at hr
      rw [← hc]
      refine br_f (ci_40 hj) (ci_xib hj (br_f z' (ci_xta hj ?_)))
      dsimp only
      rw [nI_pred]
      exact nm_r (nI_1 _) (nm_r (nI_1 i) hr)
theorem ci_yclr {post : Int32 → SY → Prop} {t p l : Nat → Int32} {a b c : Int32} (hc : ¬ c ≤ 0) (h : post c (ci_T t p a b 40, p, l)) : ∀ d i : Nat, i + d = 40 → wY_clearBox_10 post a b c (d + 1) (nI i) (ci_T t p a b i) p l := by
  intro d
  induction d with
  | zero =>
    intro i hi
    cases (show i = 40 by omega)
    exact br_t ci_40e h
  | succ d ih =>
    intro i hi
    have hj : i < 40 := by omega
    have hr := ih (i + 1) (by omega)
    have eT := ci_T_ge t p a b i i (Nat.le_refl i)
    by_cases z : ci_ib (t i) (p i) a b = 0
    · rw [ci_T_0 z] at hr
      have z' : ci_ib (ci_T t p a b i i) (p i) a b = 0 := by rw [eT]; exact z
      exact br_f (ci_40 hj) (br_f hc (ci_yib hj (br_t z' (nm_r (nI_1 i) hr))))
    · have z' : ¬ ci_ib (ci_T t p a b i i) (p i) a b = 0 := by rw [eT]; exact z
      rw [ci_T_1 z] at hr
      exact br_f (ci_40 hj) (br_f hc (ci_yib hj (br_f z' ⟨ci_i40 hj, nm_r (by rw [ci_cl hj, ci_nb0]) (nm_r (nI_1 i) hr)⟩)))
