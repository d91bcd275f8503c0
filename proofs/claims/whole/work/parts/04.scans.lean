/-- the sum of the labels in the box: both sides alike -/
theorem ci_sum (s : Int32) (t p l : Nat → Int32) (a b : Int32) : ∀ (d i : Nat) (w : Int32), i + d = 40 → ∃ r : Int32, (∀ post : Int32 → Prop, post r → wX_sumBox_15 post a b s t p l (d + 1) w (nI i)) ∧ (∀ post : Int32 → Prop, post r → wY_sumBox_23 post a b t p l (d + 1) w (nI i)) := by
  intro d
  induction d with
  | zero =>
    intro i w hi
    cases (show i = 40 by omega)
    exact ⟨w, fun _ h => br_t ci_40e h, fun _ h => br_t ci_40e h⟩
  | succ d ih =>
    intro i w hi
    have hj : i < 40 := by omega
    have h4 := ci_40 hj
    by_cases z : ci_ib (t i) (p i) a b = 0
    · obtain ⟨r, hX, hY⟩ := ih (i + 1) w (by omega)
      exact ⟨r, fun post h => br_f h4 (ci_xib hj (br_t z (nm_r (nI_1 i) (hX post h)))), fun post h => br_f h4 (ci_yib hj (br_t z (nm_r (nI_1 i) (hY post h))))⟩
    · obtain ⟨r, hX, hY⟩ := ih (i + 1) (w + l (nI i).toNatClampNeg) (by omega)
      exact ⟨r, fun post h => br_f h4 (ci_xib hj (br_f z ⟨ci_i40 hj, nm_e (nm_r (nI_1 i) (hX post h))⟩)), fun post h => br_f h4 (ci_yib hj (br_f z ⟨ci_i40 hj, nm_e (nm_r (nI_1 i) (hY post h))⟩))⟩
/-- the first point in the box: both sides alike -/
theorem ci_first (s : Int32) (t p l : Nat → Int32) (a b : Int32) : ∀ d i : Nat, i + d = 40 → ∃ r : Int32, (∀ post : Int32 → Prop, post r → wX_firstIn_12 post a b s t p l (d + 1) (nI i)) ∧ (∀ post : Int32 → Prop, post r → wY_firstIn_20 post a b t p l (d + 1) (nI i)) := by
  intro d
  induction d with
  | zero =>
    intro i hi
    cases (show i = 40 by omega)
    exact ⟨-3, fun _ h => br_t ci_40e h, fun _ h => br_t ci_40e h⟩
  | succ d ih =>
    intro i hi
    have hj : i < 40 := by omega
    have h4 := ci_40 hj
    by_cases z : ci_ib (t i) (p i) a b = 0
    · obtain ⟨r, hX, hY⟩ := ih (i + 1) (by omega)
      exact ⟨r, fun post h => br_f h4 (ci_xib hj (br_t z (nm_r (nI_1 i) (hX post h)))), fun post h => br_f h4 (ci_yib hj (br_t z (nm_r (nI_1 i) (hY post h))))⟩
    · exact ⟨nI i, fun post h => br_f h4 (ci_xib hj (br_f z h)), fun post h => br_f h4 (ci_yib hj (br_f z h))⟩
/-- the points within a distance: both sides alike -/
theorem ci_near (s : Int32) (t p l : Nat → Int32) (a b : Int32) : ∀ (d i : Nat) (w : Int32), i + d = 40 → ∃ r : Int32, (∀ post : Int32 → Prop, post r → wX_countNear_14 post a b s t p l (d + 1) w (nI i)) ∧ (∀ post : Int32 → Prop, post r → wY_countNear_15 post a b t p l (d + 1) w (nI i)) := by
  intro d
  induction d with
  | zero =>
    intro i w hi
    cases (show i = 40 by omega)
    exact ⟨w, fun _ h => br_t ci_40e h, fun _ h => br_t ci_40e h⟩
  | succ d ih =>
    intro i w hi
    have hj : i < 40 := by omega
    have h4 := ci_40 hj
    have hin := ci_i40 hj
    by_cases z : t (nI i).toNatClampNeg = 0
    · obtain ⟨r, hX, hY⟩ := ih (i + 1) w (by omega)
      exact ⟨r, fun post h => br_f h4 ⟨hin, br_t z (nm_r (nI_1 i) (hX post h))⟩, fun post h => br_f h4 ⟨hin, br_t z (nm_r (nI_1 i) (hY post h))⟩⟩
    · by_cases y : b < ci_dist (p (nI i).toNatClampNeg) a
      · obtain ⟨r, hX, hY⟩ := ih (i + 1) w (by omega)
        exact ⟨r, fun post h => br_f h4 ⟨hin, br_f z ⟨hin, ci_xd (br_t y (nm_r (nI_1 i) (hX post h)))⟩⟩, fun post h => br_f h4 ⟨hin, br_f z ⟨hin, ci_yd (br_t y (nm_r (nI_1 i) (hY post h)))⟩⟩⟩
      · obtain ⟨r, hX, hY⟩ := ih (i + 1) (w + 1) (by omega)
        exact ⟨r, fun post h => br_f h4 ⟨hin, br_f z ⟨hin, ci_xd (br_f y (nm_e (nm_r (nI_1 i) (hX post h))))⟩⟩, fun post h => br_f h4 ⟨hin, br_f z ⟨hin, ci_yd (br_f y (nm_e (nm_r (nI_1 i) (hY post h))))⟩⟩⟩
/-- the points ahead of a point: both sides alike -/
theorem ci_ahl (s : Int32) (t p l : Nat → Int32) (g a c : Int32) : ∀ (d i : Nat) (w : Int32), i + d = 40 → ∃ r : Int32, (∀ post : Int32 → Prop, post r → wX_countAhead_17 post g a c s t p l (d + 1) w (nI i)) ∧ (∀ post : Int32 → Prop, post r → wY_before_18 post g a c t p l (d + 1) w (nI i)) := by
  intro d
  induction d with
  | zero =>
    intro i w hi
    cases (show i = 40 by omega)
    exact ⟨w, fun _ h => br_t ci_40e h, fun _ h => br_t ci_40e h⟩
  | succ d ih =>
    intro i w hi
    have hj : i < 40 := by omega
    have h4 := ci_40 hj
    have hin := ci_i40 hj
    by_cases z : t (nI i).toNatClampNeg = 0
    · obtain ⟨r, hX, hY⟩ := ih (i + 1) w (by omega)
      exact ⟨r, fun post h => br_f h4 ⟨hin, br_t z (nm_r (nI_1 i) (hX post h))⟩, fun post h => br_f h4 ⟨hin, ci_yd ⟨hin, br_t z (nm_r (nI_1 i) (hY post h))⟩⟩⟩
    · by_cases y : ci_dist (p (nI i).toNatClampNeg) a < c
      · obtain ⟨r, hX, hY⟩ := ih (i + 1) (w + 1) (by omega)
        exact ⟨r, fun post h => br_f h4 ⟨hin, br_f z ⟨hin, ci_xd (br_t y (nm_e (nm_r (nI_1 i) (hX post h))))⟩⟩, fun post h => br_f h4 ⟨hin, ci_yd ⟨hin, br_f z (br_t y (nm_e (nm_r (nI_1 i) (hY post h))))⟩⟩⟩
      · by_cases x : ci_dist (p (nI i).toNatClampNeg) a = c
        · by_cases o : g ≤ nI i
          · obtain ⟨r, hX, hY⟩ := ih (i + 1) w (by omega)
            exact ⟨r, fun post h => br_f h4 ⟨hin, br_f z ⟨hin, ci_xd (br_f y (br_t x (br_t o (nm_r (nI_1 i) (hX post h)))))⟩⟩, fun post h => br_f h4 ⟨hin, ci_yd ⟨hin, br_f z (br_f y (br_t x (br_t o (nm_r (nI_1 i) (hY post h)))))⟩⟩⟩
          · obtain ⟨r, hX, hY⟩ := ih (i + 1) (w + 1) (by omega)
            exact ⟨r, fun post h => br_f h4 ⟨hin, br_f z ⟨hin, ci_xd (br_f y (br_t x (br_f o (nm_e (nm_r (nI_1 i) (hX post h))))))⟩⟩, fun post h => br_f h4 ⟨hin, ci_yd ⟨hin, br_f z (br_f y (br_t x (br_f o (nm_e (nm_r (nI_1 i) (hY post h))))))⟩⟩⟩
        · obtain ⟨r, hX, hY⟩ := ih (i + 1) w (by omega)
          exact ⟨r, fun post h => br_f h4 ⟨hin, br_f z ⟨hin, ci_xd (br_f y (br_f x (nm_r (nI_1 i) (hX post h))))⟩⟩, fun post h => br_f h4 ⟨hin, ci_yd ⟨hin, br_f z (br_f y (br_f x (nm_r (nI_1 i) (hY post h))))⟩⟩⟩
theorem ci_ahead (s : Int32) (t p l : Nat → Int32) (a : Int32) (i : Nat) (hi : i < 40) : ∃ r : Int32, (∀ post : Int32 → Prop, post r → wpX_countAhead post (s, t, p, l) (nI i) a) ∧ (∀ post : Int32 → Prop, post r → wpY_before post (t, p, l) (nI i) a) := by
  obtain ⟨r, hX, hY⟩ := ci_ahl s t p l (nI i) a (ci_dist (p (nI i).toNatClampNeg) a) 40 0 0 rfl
  exact ⟨r, fun post h => ⟨ci_i40 hi, ci_xd ⟨41, hX post h⟩⟩, fun post h => ⟨ci_i40 hi, ci_yd ⟨41, hY post h⟩⟩⟩
/-- the point of a rank: both sides alike -/
theorem ci_nearest (s : Int32) (t p l : Nat → Int32) (a b : Int32) : ∀ d i : Nat, i + d = 40 → ∃ r : Int32, (∀ post : Int32 → Prop, post r → wX_nearest_18 post a b s t p l (d + 1) (nI i)) ∧ (∀ post : Int32 → Prop, post r → wY_nearest_19 post a b t p l (d + 1) (nI i)) := by
  intro d
  induction d with
  | zero =>
    intro i hi
    cases (show i = 40 by omega)
    exact ⟨-3, fun _ h => br_t ci_40e h, fun _ h => br_t ci_40e h⟩
  | succ d ih =>
    intro i hi
    have hj : i < 40 := by omega
    have h4 := ci_40 hj
    have hin := ci_i40 hj
    by_cases z : t (nI i).toNatClampNeg = 0
    · obtain ⟨r, hX, hY⟩ := ih (i + 1) (by omega)
      exact ⟨r, fun post h => br_f h4 ⟨hin, br_t z (nm_r (nI_1 i) (hX post h))⟩, fun post h => br_f h4 ⟨hin, br_t z (nm_r (nI_1 i) (hY post h))⟩⟩
    · obtain ⟨q, aX, aY⟩ := ci_ahead s t p l a i hj
      by_cases y : q = b
      · exact ⟨nI i, fun post h => br_f h4 ⟨hin, br_f z (aX _ (br_t y h))⟩, fun post h => br_f h4 ⟨hin, br_f z (aY _ (br_t y h))⟩⟩
      · obtain ⟨r, hX, hY⟩ := ih (i + 1) (by omega)
        exact ⟨r, fun post h => br_f h4 ⟨hin, br_f z (aX _ (br_f y (nm_r (nI_1 i) (hX post h))))⟩, fun post h => br_f h4 ⟨hin, br_f z (aY _ (br_f y (nm_r (nI_1 i) (hY post h))))⟩⟩
