section
variable {n lv ql tm wn : Int32} {tu en ow ta mk wf tr lg wk wt qu wo hw wa : Nat → Int32}
theorem tp_snoc {α : Type} : ∀ (A : List α) (d : Nat), A.length = d + 1 → ∃ A0 e, A = A0 ++ [e] ∧ A0.length = d := by
  intro A
  induction A with
  | nil => intro d h; simp at h
  | cons a A ih =>
    intro d h
    cases A with
    | nil => exact ⟨[], a, rfl, by simp at h; simp [h]⟩
    | cons b A =>
      rw [List.length_cons, List.length_cons] at h
      obtain ⟨A0, e, h1, h2⟩ := ih (d - 1) (by rw [List.length_cons]; omega)
      exact ⟨a :: A0, e, by rw [h1]; rfl, by rw [List.length_cons, h2]; omega⟩
theorem tp_pm (x : Int32) : x + (-1) = x - 1 := (Int32.sub_eq_add_neg x 1).symm
theorem tp_ln {A : List tp_E} {e : tp_E} : nI (A ++ [e]).length - 1 = nI A.length := by rw [List.length_append, List.length_singleton, nI_pred]
theorem tp_l0 : nI ([] : List tp_E).length - 1 < 0 := by decide
theorem tp_cons {A B : List tp_E} {e : tp_E} : A ++ [e] ++ B = A ++ e :: B := by simp
theorem tp_xrt7 {post : SX → Prop} {c : Int32} : ∀ (d : Nat) (A B : List tp_E) (m : Nat) (x2 : Int32) (tu en ow ta mk wf : Nat → Int32), A.length = d → x2 = nI A.length - 1 → d < m → tp_X (A ++ B) tu en ow ta mk wf →
    (∀ tu' en' ow' ta' mk' wf' : Nat → Int32, tp_X (A.filter (fun e => decide (e.2.2.2.1 ≠ c)) ++ B) tu' en' ow' ta' mk' wf' → post (nI (A.filter (fun e => decide (e.2.2.2.1 ≠ c)) ++ B).length, lv, ql, tm, tu', en', ow', ta', mk', wf', tr, lg, wk, wt, qu)) →
    wX_removeTakenBy_7 post c m x2 (nI (A ++ B).length) lv ql tm tu en ow ta mk wf tr lg wk wt qu := by
  intro d
  induction d with
  | zero =>
    intro A B m x2 tu en ow ta mk wf hA hx hm hX k
    obtain ⟨m, rfl⟩ : ∃ p, m = p + 1 := ⟨m - 1, by omega⟩
    obtain rfl : A = [] := List.eq_nil_of_length_eq_zero hA
    exact br_t (by rw [hx]; exact tp_l0) (k _ _ _ _ _ _ hX)
  | succ d ih =>
    intro A B m x2 tu en ow ta mk wf hA hx hm hX k
    obtain ⟨m, rfl⟩ : ∃ p, m = p + 1 := ⟨m - 1, by omega⟩
    obtain ⟨A, e, rfl, hd⟩ := tp_snoc A d hA
    rw [tp_ln] at hx
    subst hx
    rw [tp_cons] at hX ⊢
    have hlen : (A ++ e :: B).length = (A.length + B.length) + 1 := by simp; omega
    have h20 := hX.1.1
    have v0 : vp_in (nI A.length) 20 := vp_in_nI (by omega) (by omega)
    have c0 : (nI A.length).toNatClampNeg = A.length := nI_clamp (by omega)
    obtain ⟨a1, a2, a3, a4, a5⟩ := tp_A_at hX.1.2.1
    rw [List.filter_append] at k
    refine br_f (nI_pos (by omega)) ⟨v0, ?_⟩
    rw [c0, a4]
    refine br_c (fun z => tp_xrm rfl hX (fun tu' en' ow' ta' mk' wf' hX' => nm_r (tp_pm _) ?_)) (fun z => nm_r (tp_pm _) ?_)
    · rw [List.filter_cons_of_neg (by simp [z]), List.filter_nil, List.append_nil] at k
      exact ih A B m _ tu' en' ow' ta' mk' wf' hd rfl (by omega) hX' k
    · rw [List.filter_cons_of_pos (by simp [z]), List.filter_nil, List.append_assoc] at k
      exact ih A (e :: B) m _ tu en ow ta mk wf hd rfl (by omega) hX k
theorem tp_xrt {post : SX → Prop} {c : Int32} {L : List tp_E} (hX : tp_X L tu en ow ta mk wf)
    (k : ∀ tu' en' ow' ta' mk' wf' : Nat → Int32, tp_X (L.filter (fun e => decide (e.2.2.2.1 ≠ c))) tu' en' ow' ta' mk' wf' → post (nI (L.filter (fun e => decide (e.2.2.2.1 ≠ c))).length, lv, ql, tm, tu', en', ow', ta', mk', wf', tr, lg, wk, wt, qu)) :
    wpX_removeTakenBy post (nI L.length, lv, ql, tm, tu, en, ow, ta, mk, wf, tr, lg, wk, wt, qu) c := by
  unfold wpX_removeTakenBy
  dsimp only
  have k2 := tp_xrt7 (post := post) (c := c) (lv := lv) (ql := ql) (tm := tm) (tr := tr) (lg := lg) (wk := wk) (wt := wt) (qu := qu) L.length L [] (L.length + 1) _ tu en ow ta mk wf rfl rfl (by omega) (by rw [List.append_nil]; exact hX) (by rw [List.append_nil]; exact k)
  rw [List.append_nil] at k2
  exact nm_e ⟨L.length + 1, k2⟩
theorem tp_xro7 {post : SX → Prop} {c : Int32} : ∀ (d : Nat) (A B : List tp_E) (m : Nat) (x2 : Int32) (tu en ow ta mk wf : Nat → Int32), A.length = d → x2 = nI A.length - 1 → d < m → tp_X (A ++ B) tu en ow ta mk wf →
    (∀ tu' en' ow' ta' mk' wf' : Nat → Int32, tp_X (A.filter (fun e => decide (e.2.2.1 ≠ c)) ++ B) tu' en' ow' ta' mk' wf' → post (nI (A.filter (fun e => decide (e.2.2.1 ≠ c)) ++ B).length, lv, ql, tm, tu', en', ow', ta', mk', wf', tr, lg, wk, wt, qu)) →
    wX_removeOwnedBy_7 post c m x2 (nI (A ++ B).length) lv ql tm tu en ow ta mk wf tr lg wk wt qu := by
  intro d
  induction d with
  | zero =>
    intro A B m x2 tu en ow ta mk wf hA hx hm hX k
    obtain ⟨m, rfl⟩ : ∃ p, m = p + 1 := ⟨m - 1, by omega⟩
    obtain rfl : A = [] := List.eq_nil_of_length_eq_zero hA
    exact br_t (by rw [hx]; exact tp_l0) (k _ _ _ _ _ _ hX)
  | succ d ih =>
    intro A B m x2 tu en ow ta mk wf hA hx hm hX k
    obtain ⟨m, rfl⟩ : ∃ p, m = p + 1 := ⟨m - 1, by omega⟩
    obtain ⟨A, e, rfl, hd⟩ := tp_snoc A d hA
    rw [tp_ln] at hx
    subst hx
    rw [tp_cons] at hX ⊢
    have hlen : (A ++ e :: B).length = (A.length + B.length) + 1 := by simp; omega
    have h20 := hX.1.1
    have v0 : vp_in (nI A.length) 20 := vp_in_nI (by omega) (by omega)
    have c0 : (nI A.length).toNatClampNeg = A.length := nI_clamp (by omega)
    obtain ⟨a1, a2, a3, a4, a5⟩ := tp_A_at hX.1.2.1
    rw [List.filter_append] at k
    refine br_f (nI_pos (by omega)) ⟨v0, ?_⟩
    rw [c0, a3]
    refine br_c (fun z => tp_xrm rfl hX (fun tu' en' ow' ta' mk' wf' hX' => nm_r (tp_pm _) ?_)) (fun z => nm_r (tp_pm _) ?_)
    · rw [List.filter_cons_of_neg (by simp [z]), List.filter_nil, List.append_nil] at k
      exact ih A B m _ tu' en' ow' ta' mk' wf' hd rfl (by omega) hX' k
    · rw [List.filter_cons_of_pos (by simp [z]), List.filter_nil, List.append_assoc] at k
      exact ih A (e :: B) m _ tu en ow ta mk wf hd rfl (by omega) hX k
theorem tp_xro {post : SX → Prop} {c : Int32} {L : List tp_E} (hX : tp_X L tu en ow ta mk wf)
    (k : ∀ tu' en' ow' ta' mk' wf' : Nat → Int32, tp_X (L.filter (fun e => decide (e.2.2.1 ≠ c))) tu' en' ow' ta' mk' wf' → post (nI (L.filter (fun e => decide (e.2.2.1 ≠ c))).length, lv, ql, tm, tu', en', ow', ta', mk', wf', tr, lg, wk, wt, qu)) :
    wpX_removeOwnedBy post (nI L.length, lv, ql, tm, tu, en, ow, ta, mk, wf, tr, lg, wk, wt, qu) c := by
  unfold wpX_removeOwnedBy
  dsimp only
  have k2 := tp_xro7 (post := post) (c := c) (lv := lv) (ql := ql) (tm := tm) (tr := tr) (lg := lg) (wk := wk) (wt := wt) (qu := qu) L.length L [] (L.length + 1) _ tu en ow ta mk wf rfl rfl (by omega) (by rw [List.append_nil]; exact hX) (by rw [List.append_nil]; exact k)
  rw [List.append_nil] at k2
  exact nm_e ⟨L.length + 1, k2⟩
def tp_nd (tm : Int32) (e : tp_E) : Bool := decide (e.2.1 = -1 ∨ tm < e.2.1)
theorem tp_xre9 {post : Int32 → SX → Prop} : ∀ (d : Nat) (A B : List tp_E) (m g : Nat) (x2 : Int32) (tu en ow ta mk wf : Nat → Int32), A.length = d → x2 = nI A.length - 1 → d < m → tp_X (A ++ B) tu en ow ta mk wf →
    (∀ tu' en' ow' ta' mk' wf' : Nat → Int32, tp_X (A.filter (tp_nd tm) ++ B) tu' en' ow' ta' mk' wf' → post (nI (g + (A.length - (A.filter (tp_nd tm)).length))) (nI (A.filter (tp_nd tm) ++ B).length, lv, ql, tm, tu', en', ow', ta', mk', wf', tr, lg, wk, wt, qu)) →
    wX_removeEnded_9 post m (nI g) x2 (nI (A ++ B).length) lv ql tm tu en ow ta mk wf tr lg wk wt qu := by
  intro d
  induction d with
  | zero =>
    intro A B m g x2 tu en ow ta mk wf hA hx hm hX k
    obtain ⟨m, rfl⟩ : ∃ p, m = p + 1 := ⟨m - 1, by omega⟩
    obtain rfl : A = [] := List.eq_nil_of_length_eq_zero hA
    exact br_t (by rw [hx]; exact tp_l0) (k _ _ _ _ _ _ hX)
  | succ d ih =>
    intro A B m g x2 tu en ow ta mk wf hA hx hm hX k
    obtain ⟨m, rfl⟩ : ∃ p, m = p + 1 := ⟨m - 1, by omega⟩
    obtain ⟨A, e, rfl, hd⟩ := tp_snoc A d hA
    rw [tp_ln] at hx
    subst hx
    rw [tp_cons] at hX ⊢
    have hlen : (A ++ e :: B).length = (A.length + B.length) + 1 := by simp; omega
    have h20 := hX.1.1
    have v0 : vp_in (nI A.length) 20 := vp_in_nI (by omega) (by omega)
    have c0 : (nI A.length).toNatClampNeg = A.length := nI_clamp (by omega)
    obtain ⟨a1, a2, a3, a4, a5⟩ := tp_A_at hX.1.2.1
    have hle := List.length_filter_le (tp_nd tm) A
    have keep : tp_nd tm e = true → ∀ y, y = nI A.length + (-1) → wX_removeEnded_9 post m (nI g) y (nI (A ++ e :: B).length) lv ql tm tu en ow ta mk wf tr lg wk wt qu := by
      intro hk
      refine nm_r (tp_pm _) (ih A (e :: B) m g _ tu en ow ta mk wf hd rfl (by omega) hX ?_)
      have ea : (A ++ [e]).filter (tp_nd tm) ++ B = A.filter (tp_nd tm) ++ e :: B := by rw [List.filter_append, List.filter_cons_of_pos hk]; simp
      have eb : (A ++ [e]).length - ((A ++ [e]).filter (tp_nd tm)).length = A.length - (A.filter (tp_nd tm)).length := by rw [List.filter_append, List.filter_cons_of_pos hk]; simp
      rw [ea, eb] at k
      exact k
    refine br_f (nI_pos (by omega)) ⟨v0, ?_⟩
    rw [c0, a2]
    refine br_c (fun z => keep (by simp [tp_nd, z])) (fun z => ⟨v0, br_c (fun y => keep (by simp [tp_nd, y])) (fun y => tp_xrm rfl hX (fun tu' en' ow' ta' mk' wf' hX' => nm_r (nI_1 _) (nm_r (tp_pm _) ?_)))⟩)
    have hk : ¬ tp_nd tm e = true := by
      rw [tp_nd, decide_eq_true_eq]
      exact fun x => x.elim z y
    refine ih A B m (g + 1) _ tu' en' ow' ta' mk' wf' hd rfl (by omega) hX' ?_
    have ea : (A ++ [e]).filter (tp_nd tm) ++ B = A.filter (tp_nd tm) ++ B := by rw [List.filter_append, List.filter_cons_of_neg hk]; simp
    have eb : g + ((A ++ [e]).length - ((A ++ [e]).filter (tp_nd tm)).length) = g + 1 + (A.length - (A.filter (tp_nd tm)).length) := by
      rw [List.filter_append, List.filter_cons_of_neg hk, List.filter_nil, List.append_nil, List.length_append, List.length_singleton]
      omega
    rw [ea, eb] at k
    exact k
theorem tp_xre {post : Int32 → SX → Prop} {L : List tp_E} (hX : tp_X L tu en ow ta mk wf)
    (k : ∀ tu' en' ow' ta' mk' wf' : Nat → Int32, tp_X (L.filter (tp_nd tm)) tu' en' ow' ta' mk' wf' → post (nI (L.length - (L.filter (tp_nd tm)).length)) (nI (L.filter (tp_nd tm)).length, lv, ql, tm, tu', en', ow', ta', mk', wf', tr, lg, wk, wt, qu)) :
    wpX_removeEnded post (nI L.length, lv, ql, tm, tu, en, ow, ta, mk, wf, tr, lg, wk, wt, qu) := by
  unfold wpX_removeEnded
  dsimp only
  have k2 := tp_xre9 (post := post) (lv := lv) (ql := ql) (tm := tm) (tr := tr) (lg := lg) (wk := wk) (wt := wt) (qu := qu) L.length L [] (L.length + 1) 0 _ tu en ow ta mk wf rfl rfl (by omega) (by rw [List.append_nil]; exact hX) (by rw [List.append_nil, Nat.zero_add]; exact k)
  rw [List.append_nil] at k2
  exact nm_e ⟨L.length + 1, k2⟩
theorem tp_ypass35 {post : Int32 → SY → Prop} {Q : List tp_T} {N : Nat} (hN : N ≤ 20) (hQ : tp_QY Q wo hw wa) (hO : tp_QO Q) : ∀ (d : Nat) (A B : List tp_E) (m : Nat) (x3 : Int32) (tu en ow ta mk : Nat → Int32), A.length = d → x3 = nI A.length - 1 → d < m → tp_Y (A ++ B) tu en ow ta mk → (A.filter (tp_nd tm) ++ B).length ≤ N →
    (∀ tu' en' ow' ta' mk' wo' hw' wa' : Nat → Int32, tp_Y (tp_sv tr Q (A.filter (tp_nd tm) ++ B) lg).2.1 tu' en' ow' ta' mk' → tp_QY (tp_sv tr Q (A.filter (tp_nd tm) ++ B) lg).1 wo' hw' wa' →
      post (nI (N - (A.filter (tp_nd tm) ++ B).length)) (tm, nI (tp_sv tr Q (A.filter (tp_nd tm) ++ B) lg).2.1.length, nI (tp_sv tr Q (A.filter (tp_nd tm) ++ B) lg).1.length, tu', en', ow', ta', mk', tr, (tp_sv tr Q (A.filter (tp_nd tm) ++ B) lg).2.2, wo', hw', wa')) →
    wY_pass_35 post (nI N) m x3 tm (nI (A ++ B).length) (nI Q.length) tu en ow ta mk tr lg wo hw wa := by
  intro d
  induction d with
  | zero =>
    intro A B m x3 tu en ow ta mk hA hx hm hY hF k
    obtain ⟨m, rfl⟩ : ∃ p, m = p + 1 := ⟨m - 1, by omega⟩
    obtain rfl : A = [] := List.eq_nil_of_length_eq_zero hA
    exact br_t (by rw [hx]; exact tp_l0) (nm_r (pk_sub hF) (tp_yserve hY hQ hO k))
  | succ d ih =>
    intro A B m x3 tu en ow ta mk hA hx hm hY hF k
    obtain ⟨m, rfl⟩ : ∃ p, m = p + 1 := ⟨m - 1, by omega⟩
    obtain ⟨A, e, rfl, hd⟩ := tp_snoc A d hA
    rw [tp_ln] at hx
    subst hx
    rw [tp_cons] at hY ⊢
    have hlen : (A ++ e :: B).length = (A.length + B.length) + 1 := by simp; omega
    have h20 := hY.1
    have v0 : vp_in (nI A.length) 20 := vp_in_nI (by omega) (by omega)
    have c0 : (nI A.length).toNatClampNeg = A.length := nI_clamp (by omega)
    obtain ⟨a1, a2, a3, a4, a5⟩ := tp_A_at hY.2.1
    have t1 := (tp_neg (tp_okL hY.2.2).2.1).1
    have keep : tp_nd tm e = true → ∀ y, y = nI A.length + (-1) → wY_pass_35 post (nI N) m y tm (nI (A ++ e :: B).length) (nI Q.length) tu en ow ta mk tr lg wo hw wa := by
      intro hk
      have ea : (A ++ [e]).filter (tp_nd tm) ++ B = A.filter (tp_nd tm) ++ e :: B := by rw [List.filter_append, List.filter_cons_of_pos hk]; simp
      rw [ea] at k hF
      exact nm_r (tp_pm _) (ih A (e :: B) m _ tu en ow ta mk hd rfl (by omega) hY hF k)
    refine br_f (nI_pos (by omega)) ⟨v0, ?_⟩
    rw [c0, a2]
    refine br_c (fun z => keep (by simp [tp_nd, t1.mp z])) (fun z => ⟨v0, br_c (fun y => keep (by simp [tp_nd, y])) (fun y => tp_yrm rfl hY (fun tu' en' ow' ta' mk' hY' => nm_r (tp_pm _) ?_))⟩)
    have hk : ¬ tp_nd tm e = true := by
      rw [tp_nd, decide_eq_true_eq]
      exact fun x => x.elim (fun q => z (t1.mpr q)) y
    have ea : (A ++ [e]).filter (tp_nd tm) ++ B = A.filter (tp_nd tm) ++ B := by rw [List.filter_append, List.filter_cons_of_neg hk]; simp
    rw [ea] at k hF
    exact ih A B m _ tu' en' ow' ta' mk' hd rfl (by omega) hY' hF k
end
