/-- an answer by cases, where the walk branches -/
theorem ci_br {α : Type} {post : α → Prop} {c : Prop} {dc : Decidable c} {a b : α} {A B : Prop} (h : post (@ite α c dc a b)) (f : post a → A) (g : post b → B) : (c → A) ∧ (¬ c → B) :=
  ⟨fun z => f (by rw [if_pos z] at h; exact h), fun z => g (by rw [if_neg z] at h; exact h)⟩
theorem ci_nb0 : vp_nar .boolean 0 = 0 := by first | rfl | decide
theorem ci_nb1 : vp_nar .boolean 1 = 1 := by first | rfl | decide
theorem ci_40 {i : Nat} (h : i < 40) : ¬ (40 : Int32) ≤ nI i := nI_ge (b := 40) h (by decide)
theorem ci_40e : (40 : Int32) ≤ nI 40 := by decide
theorem ci_i40 {i : Nat} (h : i < 40) : vp_in (nI i) 40 := vp_in_nI h (by decide)
theorem ci_cl {i : Nat} (h : i < 40) : (nI i).toNatClampNeg = i := nI_clamp (by omega)
theorem ci_95 (p : Int32) : (4096 : Int32) ≤ p ↔ 4095 < p := by
  rw [Int32.le_iff_toInt_le, Int32.lt_iff_toInt_lt, show (4096 : Int32).toInt = 4096 from by decide, show (4095 : Int32).toInt = 4095 from by decide]
  omega
/-- a place, or not: both sides say so -/
theorem ci_place (x : Int32) : ((∀ post : Int32 → Prop, post 0 → wpX_isPlace post x) ∧ (∀ (post : Int32 → Prop) (v : SY), post 0 → wpY_isPlace post v x)) ∨ (∃ m : Nat, m < 4096 ∧ x = nI m ∧ (∀ post : Int32 → Prop, post 1 → wpX_isPlace post x) ∧ (∀ (post : Int32 → Prop) (v : SY), post 1 → wpY_isPlace post v x)) := by
  by_cases a : x < 0
  · exact Or.inl ⟨fun _ h => br_t a h, fun _ _ h => br_t a h⟩
  · by_cases b : 4095 < x
    · exact Or.inl ⟨fun _ h => br_f a (br_t b h), fun _ _ h => br_f a (br_t ((ci_95 x).mpr b) h)⟩
    · obtain ⟨m, hm, rfl⟩ := nI_of a
      have hb : ¬ nI 4095 < nI m := b
      rw [nI_ltI (by decide) hm] at hb
      exact Or.inr ⟨m, by omega, rfl, fun _ h => br_f a (br_f b h), fun _ _ h => br_f a (br_f (fun z => b ((ci_95 _).mp z)) h)⟩
/-- a point, or not: both sides say so -/
theorem ci_point (t : Nat → Int32) (x : Int32) : ((∀ (post : Int32 → Prop) (s : Int32) (p l : Nat → Int32), post 0 → wpX_isPoint post (s, t, p, l) x) ∧ (∀ (post : Int32 → Prop) (p l : Nat → Int32), post 0 → wpY_isPoint post (t, p, l) x)) ∨ (∃ j : Nat, j < 40 ∧ x = nI j ∧ ¬ t j = 0 ∧ (∀ (post : Int32 → Prop) (s : Int32) (p l : Nat → Int32), post 1 → wpX_isPoint post (s, t, p, l) x) ∧ (∀ (post : Int32 → Prop) (p l : Nat → Int32), post 1 → wpY_isPoint post (t, p, l) x)) := by
  rcases pk_ix x (n := 40) (by decide) with a | a | ⟨j, hj, rfl⟩
  · exact Or.inl ⟨fun _ _ _ _ h => br_t a h, fun _ _ _ h => br_t a h⟩
  · have a' : (40 : Int32) ≤ x := a
    have b : ¬ x < 0 := Int32.not_lt.mpr (Int32.le_trans (by decide) a')
    exact Or.inl ⟨fun _ _ _ _ h => br_f b (br_t a' h), fun _ _ _ h => br_f b (br_t a' h)⟩
  · have b : ¬ nI j < 0 := nI_pos (by omega)
    have c := ci_40 hj
    have e := ci_cl hj
    by_cases z : t j = 0
    · have z' : t (nI j).toNatClampNeg = 0 := by rw [e]; exact z
      exact Or.inl ⟨fun _ _ _ _ h => br_f b (br_f c ⟨ci_i40 hj, br_t z' h⟩), fun _ _ _ h => br_f b (br_f c ⟨ci_i40 hj, br_t z' h⟩)⟩
    · have z' : ¬ t (nI j).toNatClampNeg = 0 := by rw [e]; exact z
      exact Or.inr ⟨j, hj, rfl, z, fun _ _ _ _ h => br_f b (br_f c ⟨ci_i40 hj, br_f z' h⟩), fun _ _ _ h => br_f b (br_f c ⟨ci_i40 hj, br_f z' h⟩)⟩
/-- between, the ends in either order -/
def ci_bt (v a b : Int32) : Int32 := if b < a then (if v < b then 0 else if a < v then 0 else 1) else (if v < a then 0 else if b < v then 0 else 1)
theorem ci_bt0 (v a b : Int32) (h : ¬ ((a.toInt ≤ v.toInt ∧ v.toInt ≤ b.toInt) ∨ (b.toInt ≤ v.toInt ∧ v.toInt ≤ a.toInt))) : ci_bt v a b = 0 := by
  unfold ci_bt
  simp only [Int32.lt_iff_toInt_lt]
  (repeat' split) <;> first | rfl | (exfalso; omega)
theorem ci_bt1 (v a b : Int32) (h : (a.toInt ≤ v.toInt ∧ v.toInt ≤ b.toInt) ∨ (b.toInt ≤ v.toInt ∧ v.toInt ≤ a.toInt)) : ci_bt v a b = 1 := by
  unfold ci_bt
  simp only [Int32.lt_iff_toInt_lt]
  (repeat' split) <;> first | rfl | (exfalso; omega)
theorem ci_xbt {post : Int32 → Prop} {v a b : Int32} (h : post (ci_bt v a b)) : wpX_isBetween post v a b := by
  unfold ci_bt at h
  exact ci_br h (fun h => ci_br h id (fun h => ci_br h id id)) (fun h => ci_br h id (fun h => ci_br h id id))
theorem ci_ybt {post : Int32 → Prop} {u : SY} {v a b : Int32} (h : post (ci_bt v a b)) : wpY_between post u v a b := by
  have k : (v < b → post 0) ∧ (¬ v < b → ((a < v → post 0) ∧ (¬ a < v → post 1))) ∨ (¬ v < a ∧ v ≤ b) := by
    by_cases g : ¬ v < a ∧ v ≤ b
    · exact Or.inr g
    · refine Or.inl ⟨fun h1 => ?_, fun h1 => ⟨fun h2 => ?_, fun h2 => ?_⟩⟩
      · rw [Int32.lt_iff_toInt_lt, Int32.le_iff_toInt_le] at g
        rw [Int32.lt_iff_toInt_lt] at h1
        rw [ci_bt0 v a b (by omega)] at h
        exact h
      · rw [Int32.lt_iff_toInt_lt, Int32.le_iff_toInt_le] at g
        rw [Int32.lt_iff_toInt_lt] at h1 h2
        rw [ci_bt0 v a b (by omega)] at h
        exact h
      · rw [Int32.lt_iff_toInt_lt, Int32.le_iff_toInt_le] at g
        rw [Int32.lt_iff_toInt_lt] at h1 h2
        rw [ci_bt1 v a b (by omega)] at h
        exact h
  by_cases h1 : v < a
  · rcases k with k | k
    · exact br_t h1 k
    · exact absurd h1 k.1
  · by_cases h2 : v ≤ b
    · refine br_f h1 (br_t h2 ?_)
      rw [Int32.lt_iff_toInt_lt] at h1
      rw [Int32.le_iff_toInt_le] at h2
      rw [ci_bt1 v a b (by omega)] at h
      exact h
    · rcases k with k | k
      · exact br_f h1 (br_f h2 k)
      · exact absurd k.2 h2
/-- a slot's point lies in the box (a, b) -/
def ci_ib (ti pi a b : Int32) : Int32 := if ti = 0 then 0 else if ci_bt (pi - pi / 64 * 64) (a - a / 64 * 64) (b - b / 64 * 64) = 0 then 0 else if ci_bt (pi / 64) (a / 64) (b / 64) = 0 then 0 else 1
theorem ci_ib_t {ti pi a b : Int32} (h : ¬ ci_ib ti pi a b = 0) : ¬ ti = 0 := by
  intro z
  unfold ci_ib at h
  rw [if_pos z] at h
  exact h rfl
theorem ci_64 : ¬ (64 : Int32) = 0 := by decide
theorem ci_xib {post : Int32 → Prop} {s : Int32} {t p l : Nat → Int32} {i : Nat} {a b : Int32} (hi : i < 40) (h : post (ci_ib (t i) (p i) a b)) : wpX_isPointInBox post (s, t, p, l) (nI i) a b := by
  unfold ci_ib at h
  unfold wpX_isPointInBox
  dsimp only
  rw [ci_cl hi]
  exact ⟨ci_i40 hi, ci_br h id (fun h => ⟨ci_i40 hi, nm_e ⟨ci_64, ci_64, ci_64, ci_xbt (ci_br h id (fun h => ⟨ci_64, ci_64, ci_64, ci_xbt (ci_br h id id)⟩))⟩⟩)⟩
theorem ci_yib {post : Int32 → Prop} {t p l : Nat → Int32} {i : Nat} {a b : Int32} (hi : i < 40) (h : post (ci_ib (t i) (p i) a b)) : wpY_inBox post (t, p, l) (nI i) a b := by
  unfold ci_ib at h
  unfold wpY_inBox
  dsimp only
  rw [ci_cl hi]
  exact ⟨ci_i40 hi, ci_br h id (fun h => ⟨ci_i40 hi, ci_64, ci_64, ci_64, ci_ybt (ci_br h id (fun h => ⟨ci_i40 hi, ci_64, ci_64, ci_64, ci_ybt (ci_br h id id)⟩))⟩)⟩
theorem ci_xd {post : Int32 → Prop} {p q : Int32} (h : post (ci_dist p q)) : wpX_distanceOf post p q := ⟨ci_64, ci_64, nm_e ⟨ci_64, ci_64, nm_e h⟩⟩
theorem ci_yd {post : Int32 → Prop} {u : SY} {p q : Int32} (h : post (ci_dist p q)) : wpY_distance post u p q := ⟨ci_64, ci_64, nm_e ⟨ci_64, ci_64, nm_e h⟩⟩
theorem ci_xta {post : SX → Prop} {s : Int32} {t p l : Nat → Int32} {i : Nat} (hi : i < 40) (h : post (s - 1, upd t i 0, p, l)) : wpX_takeAway post (s, t, p, l) (nI i) :=
  ⟨ci_i40 hi, nm_r (by rw [ci_cl hi, ci_nb0]) (nm_e h)⟩
