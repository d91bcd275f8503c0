/-- the class's inner loop: from the pair (i, j) to the row's end -/
theorem ci_xin {post : Int32 → Prop} {J : Int32 → Int32 → Prop} {s : Int32} {t p l : Nat → Int32} {i : Nat} (hi : i < 40) (h : J (ci_F t p (40 * i + 40)) (nI (i + 1))) : ∀ d j : Nat, j + d = 40 → i < j → wX_closest_15 post J (nI i) s t p l (d + 1) (ci_F t p (40 * i + j)) (nI j) := by
  intro d
  induction d with
  | zero =>
    intro j hj _
    cases (show j = 40 by omega)
    exact br_t ci_40e (nm_r (nI_1 i) h)
  | succ d ih =>
    intro j hj hij
    have hj4 : j < 40 := by omega
    have hr := ih (j + 1) (by omega) (by omega)
    have eF : ci_F t p (40 * i + (j + 1)) = ci_st t p i j (ci_F t p (40 * i + j)) := by
      show ci_F t p (40 * i + j + 1) = _
      rw [ci_F_eq t p i j hj4, if_pos hij]
    rw [eF] at hr
    have ei := ci_cl hi
    have ej := ci_cl hj4
    generalize ci_F t p (40 * i + j) = w at hr ⊢
    unfold ci_st at hr
    refine br_f (ci_40 hj4) ⟨ci_i40 hi, ?_⟩
    by_cases zi : t i = 0
    · rw [if_pos zi] at hr
      exact br_t (by rw [ei]; exact zi) (nm_r (nI_1 j) hr)
    · rw [if_neg zi] at hr
      refine br_f (by rw [ei]; exact zi) ⟨ci_i40 hj4, ?_⟩
      by_cases zj : t j = 0
      · rw [if_pos zj] at hr
        exact br_t (by rw [ej]; exact zj) (nm_r (nI_1 j) hr)
      · rw [if_neg zj] at hr
        refine br_f (by rw [ej]; exact zj) ⟨ci_i40 hi, ci_i40 hj4, ci_xd ?_⟩
        rw [ei, ej]
        by_cases y : w = -3
        · rw [if_pos y] at hr
          exact br_t y (nm_r (nI_1 j) hr)
        · rw [if_neg y] at hr
          refine br_f y ?_
          by_cases o : w ≤ ci_dist (p i) (p j)
          · rw [if_neg (Int32.not_lt.mpr o)] at hr
            exact br_t o (nm_r (nI_1 j) hr)
          · rw [if_pos (Int32.not_le.mp o)] at hr
            exact br_f o (nm_r (nI_1 j) hr)
theorem ci_xout {post : Int32 → Prop} {s : Int32} {t p l : Nat → Int32} (h : post (ci_F t p 1600)) : ∀ d i : Nat, i + d = 40 → wX_closest_5 post s t p l (d + 1) (ci_F t p (40 * i)) (nI i) := by
  intro d
  induction d with
  | zero =>
    intro i hi
    cases (show i = 40 by omega)
    exact br_t ci_40e h
  | succ d ih =>
    intro i hi
    have hj : i < 40 := by omega
    have hr := ih (i + 1) (by omega)
    rw [← ci_F_skip t p i (i + 1) hj (Nat.le_refl _)]
    exact br_f (ci_40 hj) (nm_r (nI_1 i) ⟨39 - i + 1, ci_xin hj hr (39 - i) (i + 1) (by omega) (by omega)⟩)
theorem ci_nI40 : (40 : Int32) = nI 40 := by decide
theorem ci_n40 : ¬ (40 : Int32) = 0 := by decide
theorem ci_ydone {post : Int32 → Prop} {J : Int32 → Int32 → Prop} {t p l : Nat → Int32} {i j k : Nat} (hi : i < 40) (hj : j < 40) (h : J (ci_dist (p i) (p j)) (nI (k + 1))) : wY_closest_85 post J (nI k) (nI i) (nI j) t p l := by
  refine ⟨ci_i40 hi, ci_i40 hj, ci_yd ?_⟩
  rw [ci_cl hi, ci_cl hj]
  exact nm_r (nI_1 k) h
theorem ci_yskip {post : Int32 → Prop} {J : Int32 → Int32 → Prop} {t p l : Nat → Int32} {w x y : Int32} {k : Nat} (h : J w (nI (k + 1))) : wY_closest_52 post J w (nI k) x y t p l := br_t rfl (nm_r (nI_1 k) h)
theorem ci_yst {post : Int32 → Prop} {J : Int32 → Int32 → Prop} {t p l : Nat → Int32} {w : Int32} {i j k : Nat} (hi : i < 40) (hj : j < 40) (hw : w = -3 ∨ ¬ w < 0) (zi : ¬ t i = 0) (zj : ¬ t j = 0) (h : J (ci_st t p i j w) (nI (k + 1))) : wY_closest_53 post J w (nI k) (nI i) (nI j) 1 t p l := by
  unfold ci_st at h
  rw [if_neg zi, if_neg zj] at h
  refine br_f (by decide) ?_
  by_cases y : w = -3
  · rw [if_pos y] at h
    exact br_t (by rw [y]; decide) (ci_ydone hi hj h)
  · rw [if_neg y] at h
    have hw' : ¬ w < 0 := hw.resolve_left y
    refine br_f hw' ⟨ci_i40 hi, ci_i40 hj, ci_yd ?_⟩
    rw [ci_cl hi, ci_cl hj]
    by_cases o : w ≤ ci_dist (p i) (p j)
    · rw [if_neg (Int32.not_lt.mpr o)] at h
      exact br_t o (nm_r (nI_1 k) h)
    · rw [if_pos (Int32.not_le.mp o)] at h
      exact br_f o (ci_ydone hi hj h)
theorem ci_yall {post : Int32 → Prop} {t p l : Nat → Int32} (hp : ci_ok p) (h : post (ci_F t p 1600)) : ∀ d k : Nat, k + d = 1600 → wY_closest_5 post t p l (d + 1) (ci_F t p k) (nI k) := by
  intro d
  induction d with
  | zero =>
    intro k hk
    cases (show k = 1600 by omega)
    exact br_t (show (1600 : Int32) ≤ nI 1600 by decide) h
  | succ d ih =>
    intro k hk
    have hr := ih (k + 1) (by omega)
    have hw := ci_F_in (t := t) hp k (by omega)
    have hi : k / 40 < 40 := by omega
    have hj : k % 40 < 40 := by omega
    have ei := ci_cl hi
    have ej := ci_cl hj
    have eF : ci_F t p (k + 1) = if k / 40 < k % 40 then ci_st t p (k / 40) (k % 40) (ci_F t p k) else ci_F t p k := rfl
    rw [eF] at hr
    refine br_f (nI_ge (b := 1600) (by omega) (by decide)) ⟨ci_n40, nm_r (e' := nI (k / 40)) (by rw [ci_nI40, pk_div (by omega) (by omega) (by omega)]) ⟨ci_n40, nm_r (e' := nI (k % 40)) (by rw [ci_nI40, pk_rem (by omega) (by omega) (by omega)]) ?_⟩⟩
    by_cases c : k / 40 < k % 40
    · rw [if_pos c] at hr
      refine br_f (nI_ge c (by omega)) ⟨ci_i40 hi, ?_⟩
      by_cases zi : t (k / 40) = 0
      · unfold ci_st at hr
        rw [if_pos zi] at hr
        exact br_t (by rw [ei]; exact zi) (ci_yskip hr)
      · refine br_f (by rw [ei]; exact zi) ⟨ci_i40 hj, ?_⟩
        by_cases zj : t (k % 40) = 0
        · unfold ci_st at hr
          rw [if_neg zi, if_pos zj] at hr
          exact br_t (by rw [ej]; exact zj) (ci_yskip hr)
        · exact br_f (by rw [ej]; exact zj) (ci_yst hi hj hw zi zj hr)
    · rw [if_neg c] at hr
      exact br_t (nI_le (by omega) (by omega)) (ci_yskip hr)
