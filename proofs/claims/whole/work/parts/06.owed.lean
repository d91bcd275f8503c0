/-- the same slots, places and labels; the class's size is the number of slots taken; every place lies on the square -/
def i_Rel (_ : Nat) (u : SX) (v : SY) : Prop := ∃ t p l : Nat → Int32, u = (nI (ci_cnt t 40), t, p, l) ∧ v = (t, p, l) ∧ ci_ok p
theorem i_up {k : Nat} {u : SX} {v : SY} (h : i_Rel k u v) : i_Rel (k + 3) u v := h
theorem i_vc0 : wpX_init (fun u => wpY_init (fun v => i_Rel 0 u v)) := ⟨fun _ => 0, fun _ => 0, fun _ => 0, by rw [ci_cnt_0]; rfl, rfl, ci_ok_0⟩
theorem i_vc_add {k : Nat} {u : SX} {v : SY} (I : i_Rel k u v) (hk : k + 3 ≤ 1536) (v1 : Int32) (v2 : Int32) : wpX_add (fun r u' => wpY_add (fun r' v' => r' = r ∧ i_Rel (k + 3) u' v') v v1 v2) u v1 v2 := by
  obtain ⟨t, p, l, rfl, rfl, hp⟩ := I
  unfold wpX_add wpY_add
  dsimp only
  rcases ci_place v1 with ⟨gX, gY⟩ | ⟨m, hm, rfl, gX, gY⟩
  · exact gX _ (br_t rfl (gY _ _ (br_t rfl ⟨rfl, t, p, l, rfl, rfl, hp⟩)))
  · refine gX _ (br_f (by decide) ?_)
    rcases ci_add (nI (ci_cnt t 40)) t p l (nI m) v2 40 0 rfl with ⟨hX, hY⟩ | ⟨j, hj, hz, hX, hY⟩
    · exact ⟨41, hX _ (gY _ _ (br_f (by decide) ⟨41, hY _ ⟨rfl, t, p, l, rfl, rfl, hp⟩⟩))⟩
    · exact ⟨41, hX _ (gY _ _ (br_f (by decide) ⟨41, hY _ ⟨rfl, upd t j 1, upd p j (nI m), upd l j v2, by rw [nI_1, ci_cnt_set t j 1 hz (by decide) 40 hj], rfl, ci_ok_u hp j m hm⟩⟩))⟩
theorem i_vc_remove {k : Nat} {u : SX} {v : SY} (I : i_Rel k u v) (hk : k + 3 ≤ 1536) (v1 : Int32) : wpX_remove (fun r u' => wpY_remove (fun r' v' => r' = r ∧ i_Rel (k + 3) u' v') v v1) u v1 := by
  obtain ⟨t, p, l, rfl, rfl, hp⟩ := I
  unfold wpX_remove wpY_remove
  dsimp only
  rcases ci_point t v1 with ⟨gX, gY⟩ | ⟨j, hj, rfl, hz, gX, gY⟩
  · exact gX _ _ _ _ (br_t rfl (gY _ _ _ (br_t rfl ⟨rfl, t, p, l, rfl, rfl, hp⟩)))
  · have hc := ci_cnt_clr t j hz 40 hj
    refine gX _ _ _ _ (br_f (by decide) (ci_xta hj ?_))
    dsimp only
    refine gY _ _ _ (br_f (by decide) ⟨ci_i40 hj, nm_r (e' := upd t j 0) (by rw [ci_cl hj, ci_nb0]) (ci_ycnt ?_)⟩)
    rw [← hc, nI_pred]
    exact ⟨rfl, upd t j 0, p, l, rfl, rfl, hp⟩
theorem i_vc_move {k : Nat} {u : SX} {v : SY} (I : i_Rel k u v) (hk : k + 3 ≤ 1536) (v1 : Int32) (v2 : Int32) : wpX_move (fun r u' => wpY_move (fun r' v' => r' = r ∧ i_Rel (k + 3) u' v') v v1 v2) u v1 v2 := by
  obtain ⟨t, p, l, rfl, rfl, hp⟩ := I
  unfold wpX_move wpY_move
  dsimp only
  rcases ci_point t v1 with ⟨gX, gY⟩ | ⟨j, hj, rfl, hz, gX, gY⟩
  · exact gX _ _ _ _ (br_t rfl (gY _ _ _ (br_t rfl ⟨rfl, t, p, l, rfl, rfl, hp⟩)))
  · refine gX _ _ _ _ (br_f (by decide) ?_)
    rcases ci_place v2 with ⟨fX, fY⟩ | ⟨m, hm, rfl, fX, fY⟩
    · exact fX _ (br_t rfl (gY _ _ _ (br_f (by decide) (fY _ _ (br_t rfl ⟨rfl, t, p, l, rfl, rfl, hp⟩)))))
    · exact fX _ (br_f (by decide) ⟨ci_i40 hj, nm_e ⟨ci_i40 hj, nm_r (e' := upd p j (nI m)) (by rw [ci_cl hj]) (gY _ _ _ (br_f (by decide) (fY _ _ (br_f (by decide) ⟨ci_i40 hj, nm_e ⟨ci_i40 hj, nm_r (e' := upd p j (nI m)) (by rw [ci_cl hj]) ⟨rfl, t, upd p j (nI m), l, rfl, rfl, ci_ok_u hp j m hm⟩⟩⟩))))⟩⟩)
theorem i_vc_clearBox {k : Nat} {u : SX} {v : SY} (I : i_Rel k u v) (hk : k + 3 ≤ 1536) (v1 : Int32) (v2 : Int32) : wpX_clearBox (fun r u' => wpY_clearBox (fun r' v' => r' = r ∧ i_Rel (k + 3) u' v') v v1 v2) u v1 v2 := by
  obtain ⟨t, p, l, rfl, rfl, hp⟩ := I
  unfold wpX_clearBox wpY_clearBox wpY_countBox
  dsimp only
  rcases ci_place v1 with ⟨gX, gY⟩ | ⟨m, hm, rfl, gX, gY⟩
  · exact gX _ (br_t rfl (br_t rfl (gY _ _ (br_t rfl ⟨1, br_f (by decide) (br_t (by decide) ⟨rfl, t, p, l, rfl, rfl, hp⟩)⟩))))
  · rcases ci_place v2 with ⟨fX, fY⟩ | ⟨n, hn, rfl, fX, fY⟩
    · exact gX _ (br_f (by decide) (fX _ (br_t rfl (br_t rfl (gY _ _ (br_f (by decide) (fY _ _ (br_t rfl ⟨1, br_f (by decide) (br_t (by decide) ⟨rfl, t, p, l, rfl, rfl, hp⟩)⟩))))))))
    · refine gX _ (br_f (by decide) (fX _ (br_f (by decide) (br_f (by decide) ⟨41, ci_xclr ?_ 40 0 rfl⟩))))
      refine gY _ _ (br_f (by decide) (fY _ _ (br_f (by decide) ⟨41, ci_ycb ?_ 40 0 rfl⟩)))
      by_cases z : ci_cb t p (nI m) (nI n) 40 = 0
      · rw [z, ci_T_z t p (nI m) (nI n) 40 z]
        exact ⟨1, br_f (by decide) (br_t (by decide) ⟨rfl, t, p, l, rfl, rfl, hp⟩)⟩
      · have hle := ci_cb_le t p (nI m) (nI n) 40
        exact ⟨41, ci_yclr (nI_nle (by omega) (by omega)) ⟨rfl, ci_T t p (nI m) (nI n) 40, p, l, rfl, rfl, hp⟩ 40 0 rfl⟩
theorem i_vc_countBox {k : Nat} {u : SX} {v : SY} (I : i_Rel k u v) (hk : k + 3 ≤ 1536) (v1 : Int32) (v2 : Int32) : wpX_countBox (fun r => wpY_countBox (fun r' => r' = r ∧ i_Rel (k + 3) u v) v v1 v2) u v1 v2 := by
  obtain ⟨t, p, l, rfl, rfl, hp⟩ := I
  unfold wpX_countBox wpY_countBox
  dsimp only
  rcases ci_place v1 with ⟨gX, gY⟩ | ⟨m, hm, rfl, gX, gY⟩
  · exact gX _ (br_t rfl (br_t rfl (gY _ _ (br_t rfl ⟨rfl, t, p, l, rfl, rfl, hp⟩))))
  · rcases ci_place v2 with ⟨fX, fY⟩ | ⟨n, hn, rfl, fX, fY⟩
    · exact gX _ (br_f (by decide) (fX _ (br_t rfl (br_t rfl (gY _ _ (br_f (by decide) (fY _ _ (br_t rfl ⟨rfl, t, p, l, rfl, rfl, hp⟩))))))))
    · exact gX _ (br_f (by decide) (fX _ (br_f (by decide) (br_f (by decide) ⟨41, ci_xcb (gY _ _ (br_f (by decide) (fY _ _ (br_f (by decide) ⟨41, ci_ycb ⟨rfl, t, p, l, rfl, rfl, hp⟩ 40 0 rfl⟩)))) 40 0 rfl⟩))))
theorem i_vc_sumBox {k : Nat} {u : SX} {v : SY} (I : i_Rel k u v) (hk : k + 3 ≤ 1536) (v1 : Int32) (v2 : Int32) : wpX_sumBox (fun r => wpY_sumBox (fun r' => r' = r ∧ i_Rel (k + 3) u v) v v1 v2) u v1 v2 := by
  obtain ⟨t, p, l, rfl, rfl, hp⟩ := I
  unfold wpX_sumBox wpY_sumBox
  dsimp only
  rcases ci_place v1 with ⟨gX, gY⟩ | ⟨m, hm, rfl, gX, gY⟩
  · exact gX _ (br_t rfl (br_t rfl (gY _ _ (br_t rfl ⟨rfl, t, p, l, rfl, rfl, hp⟩))))
  · rcases ci_place v2 with ⟨fX, fY⟩ | ⟨n, hn, rfl, fX, fY⟩
    · exact gX _ (br_f (by decide) (fX _ (br_t rfl (br_t rfl (gY _ _ (br_f (by decide) (fY _ _ (br_t rfl ⟨rfl, t, p, l, rfl, rfl, hp⟩))))))))
    · obtain ⟨r, hX, hY⟩ := ci_sum (nI (ci_cnt t 40)) t p l (nI m) (nI n) 40 0 0 rfl
      exact gX _ (br_f (by decide) (fX _ (br_f (by decide) (br_f (by decide) ⟨41, hX _ (gY _ _ (br_f (by decide) (fY _ _ (br_f (by decide) ⟨41, hY _ ⟨rfl, t, p, l, rfl, rfl, hp⟩⟩))))⟩))))
theorem i_vc_countNear {k : Nat} {u : SX} {v : SY} (I : i_Rel k u v) (hk : k + 3 ≤ 1536) (v1 : Int32) (v2 : Int32) : wpX_countNear (fun r => wpY_countNear (fun r' => r' = r ∧ i_Rel (k + 3) u v) v v1 v2) u v1 v2 := by
  obtain ⟨t, p, l, rfl, rfl, hp⟩ := I
  unfold wpX_countNear wpY_countNear
  dsimp only
  rcases ci_place v1 with ⟨gX, gY⟩ | ⟨m, hm, rfl, gX, gY⟩
  · exact gX _ (br_t rfl (gY _ _ (br_t rfl ⟨rfl, t, p, l, rfl, rfl, hp⟩)))
  · obtain ⟨r, hX, hY⟩ := ci_near (nI (ci_cnt t 40)) t p l (nI m) v2 40 0 0 rfl
    exact gX _ (br_f (by decide) ⟨41, hX _ (gY _ _ (br_f (by decide) ⟨41, hY _ ⟨rfl, t, p, l, rfl, rfl, hp⟩⟩))⟩)
theorem i_vc_nearest {k : Nat} {u : SX} {v : SY} (I : i_Rel k u v) (hk : k + 3 ≤ 1536) (v1 : Int32) (v2 : Int32) : wpX_nearest (fun r => wpY_nearest (fun r' => r' = r ∧ i_Rel (k + 3) u v) v v1 v2) u v1 v2 := by
  obtain ⟨t, p, l, rfl, rfl, hp⟩ := I
  unfold wpX_nearest wpY_nearest
  dsimp only
  rcases ci_place v1 with ⟨gX, gY⟩ | ⟨m, hm, rfl, gX, gY⟩
  · exact gX _ (br_t rfl (gY _ _ (br_t rfl ⟨rfl, t, p, l, rfl, rfl, hp⟩)))
  · refine gX _ (br_f (by decide) ?_)
    by_cases h0 : 0 ≤ v2
    · obtain ⟨r, hX, hY⟩ := ci_nearest (nI (ci_cnt t 40)) t p l (nI m) v2 40 0 rfl
      exact br_t h0 ⟨41, hX _ (gY _ _ (br_f (by decide) (br_t h0 ⟨41, hY _ ⟨rfl, t, p, l, rfl, rfl, hp⟩⟩)))⟩
    · exact br_f h0 (gY _ _ (br_f (by decide) (br_f h0 ⟨rfl, t, p, l, rfl, rfl, hp⟩)))
theorem i_vc_firstIn {k : Nat} {u : SX} {v : SY} (I : i_Rel k u v) (hk : k + 3 ≤ 1536) (v1 : Int32) (v2 : Int32) : wpX_firstIn (fun r => wpY_firstIn (fun r' => r' = r ∧ i_Rel (k + 3) u v) v v1 v2) u v1 v2 := by
  obtain ⟨t, p, l, rfl, rfl, hp⟩ := I
  unfold wpX_firstIn wpY_firstIn
  dsimp only
  rcases ci_place v1 with ⟨gX, gY⟩ | ⟨m, hm, rfl, gX, gY⟩
  · exact gX _ (br_t rfl (br_t rfl (gY _ _ (br_t rfl ⟨rfl, t, p, l, rfl, rfl, hp⟩))))
  · rcases ci_place v2 with ⟨fX, fY⟩ | ⟨n, hn, rfl, fX, fY⟩
    · exact gX _ (br_f (by decide) (fX _ (br_t rfl (br_t rfl (gY _ _ (br_f (by decide) (fY _ _ (br_t rfl ⟨rfl, t, p, l, rfl, rfl, hp⟩))))))))
    · obtain ⟨r, hX, hY⟩ := ci_first (nI (ci_cnt t 40)) t p l (nI m) (nI n) 40 0 rfl
      exact gX _ (br_f (by decide) (fX _ (br_f (by decide) (br_f (by decide) ⟨41, hX _ (gY _ _ (br_f (by decide) (fY _ _ (br_f (by decide) ⟨41, hY _ ⟨rfl, t, p, l, rfl, rfl, hp⟩⟩))))⟩))))
theorem i_vc_placeOf {k : Nat} {u : SX} {v : SY} (I : i_Rel k u v) (hk : k + 3 ≤ 1536) (v1 : Int32) : wpX_placeOf (fun r => wpY_placeOf (fun r' => r' = r ∧ i_Rel (k + 3) u v) v v1) u v1 := by
  obtain ⟨t, p, l, rfl, rfl, hp⟩ := I
  unfold wpX_placeOf wpY_placeOf
  dsimp only
  rcases ci_point t v1 with ⟨gX, gY⟩ | ⟨j, hj, rfl, hz, gX, gY⟩
  · exact gX _ _ _ _ (br_t rfl (gY _ _ _ (br_t rfl ⟨rfl, t, p, l, rfl, rfl, hp⟩)))
  · exact gX _ _ _ _ (br_f (by decide) ⟨ci_i40 hj, gY _ _ _ (br_f (by decide) ⟨ci_i40 hj, rfl, t, p, l, rfl, rfl, hp⟩)⟩)
theorem i_vc_labelOf {k : Nat} {u : SX} {v : SY} (I : i_Rel k u v) (hk : k + 3 ≤ 1536) (v1 : Int32) : wpX_labelOf (fun r => wpY_labelOf (fun r' => r' = r ∧ i_Rel (k + 3) u v) v v1) u v1 := by
  obtain ⟨t, p, l, rfl, rfl, hp⟩ := I
  unfold wpX_labelOf wpY_labelOf
  dsimp only
  rcases ci_point t v1 with ⟨gX, gY⟩ | ⟨j, hj, rfl, hz, gX, gY⟩
  · exact gX _ _ _ _ (br_t rfl (gY _ _ _ (br_t rfl ⟨rfl, t, p, l, rfl, rfl, hp⟩)))
  · exact gX _ _ _ _ (br_f (by decide) ⟨ci_i40 hj, gY _ _ _ (br_f (by decide) ⟨ci_i40 hj, rfl, t, p, l, rfl, rfl, hp⟩)⟩)
theorem i_vc_closest {k : Nat} {u : SX} {v : SY} (I : i_Rel k u v) (hk : k + 3 ≤ 1536) : wpX_closest (fun r => wpY_closest (fun r' => r' = r ∧ i_Rel (k + 3) u v) v) u := by
  obtain ⟨t, p, l, rfl, rfl, hp⟩ := I
  unfold wpX_closest wpY_closest
  dsimp only
  exact ⟨41, ci_xout ⟨1601, ci_yall hp ⟨rfl, t, p, l, rfl, rfl, hp⟩ 1600 0 rfl⟩ 40 0 rfl⟩
theorem i_vc_count {k : Nat} {u : SX} {v : SY} (I : i_Rel k u v) (hk : k + 3 ≤ 1536) : wpX_count (fun r => wpY_count (fun r' => r' = r ∧ i_Rel (k + 3) u v) v) u := by
  obtain ⟨t, p, l, rfl, rfl, hp⟩ := I
  exact ci_ycnt ⟨rfl, t, p, l, rfl, rfl, hp⟩
