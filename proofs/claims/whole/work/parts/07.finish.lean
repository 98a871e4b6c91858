section
variable {n lv ql tm wn : Int32} {tu en ow ta mk wf tr lg wk wt qu wo hw wa : Nat → Int32}
/-! what the end of a transaction makes of an entry -/
def tp_cm (c : Int32) (e : tp_E) : tp_E := (e.1, e.2.1, e.2.2.1, e.2.2.2.1, e.2.2.2.2 &&& (((1 : Int32) <<< (c &&& 31)) ^^^ (-1)))
def tp_co (c : Int32) (e : tp_E) : tp_E := (e.1, e.2.1, if e.2.2.1 = c then -1 else e.2.2.1, e.2.2.2.1, e.2.2.2.2)
def tp_ct (c : Int32) (e : tp_E) : tp_E := (e.1, e.2.1, e.2.2.1, if e.2.2.2.1 = c then -1 else e.2.2.2.1, e.2.2.2.2)
def tp_cl (c : Int32) (e : tp_E) : tp_E := (e.1, e.2.1, if e.2.2.1 = c then -1 else e.2.2.1, if e.2.2.2.1 = c then -1 else e.2.2.2.1, e.2.2.2.2 &&& (((1 : Int32) <<< (c &&& 31)) ^^^ (-1)))
theorem tp_c1 {c x : Int32} (h : x = -1 ∨ 0 ≤ x) : (if x = c then -1 else x) = -1 ∨ 0 ≤ (if x = c then -1 else x) := by
  by_cases z : x = c
  · rw [if_pos z]; exact Or.inl rfl
  · rw [if_neg z]; exact h
theorem tp_ok_cm {c : Int32} {e : tp_E} (h : tp_ok e) : tp_ok (tp_cm c e) := h
theorem tp_ok_co {c : Int32} {e : tp_E} (h : tp_ok e) : tp_ok (tp_co c e) := ⟨h.1, h.2.1, tp_c1 h.2.2.1, h.2.2.2⟩
theorem tp_ok_ct {c : Int32} {e : tp_E} (h : tp_ok e) : tp_ok (tp_ct c e) := ⟨h.1, h.2.1, h.2.2.1, tp_c1 h.2.2.2⟩
theorem tp_ok_cl {c : Int32} {e : tp_E} (h : tp_ok e) : tp_ok (tp_cl c e) := ⟨h.1, h.2.1, tp_c1 h.2.2.1, tp_c1 h.2.2.2⟩
theorem tp_cc {c : Int32} {L : List tp_E} : ((L.filter (fun e => decide (e.2.2.2.1 ≠ c))).map (tp_co c)).map (tp_cm c) = (L.filter (fun e => decide (e.2.2.2.1 ≠ c))).map (tp_cl c) := by
  rw [List.map_map]
  refine List.map_congr_left (fun e he => ?_)
  have h1 : e.2.2.2.1 ≠ c := by
    have := (List.mem_filter.mp he).2
    simpa using this
  simp [tp_cm, tp_co, tp_cl, h1]
theorem tp_ca {c : Int32} {L : List tp_E} : ((L.filter (fun e => decide (e.2.2.1 ≠ c))).map (tp_ct c)).map (tp_cm c) = (L.filter (fun e => decide (e.2.2.1 ≠ c))).map (tp_cl c) := by
  rw [List.map_map]
  refine List.map_congr_left (fun e he => ?_)
  have h1 : e.2.2.1 ≠ c := by
    have := (List.mem_filter.mp he).2
    simpa using this
  simp [tp_cm, tp_ct, tp_cl, h1]
theorem tp_W_set {A B : List tp_E} {e e' : tp_E} (h : tp_W (A ++ e :: B) wf) (he : e'.1 = e.1) : tp_W (A ++ e' :: B) wf := tp_W_cg h (by simp [he])
theorem tp_xclose2 {post : SX → Prop} {c : Nat} (hc : c < 4) : ∀ (R A : List tp_E) (m : Nat) (mk : Nat → Int32), R.length < m → tp_X (A ++ R) tu en ow ta mk wf →
    (∀ mk' : Nat → Int32, tp_X (A ++ R.map (tp_cm (nI c))) tu en ow ta mk' wf → post (nI (A ++ R.map (tp_cm (nI c))).length, lv, ql, tm, tu, en, ow, ta, mk', wf, upd tr c (vp_nar .boolean 0), lg, wk, wt, qu)) →
    wX_closeTransaction_2 post (nI c) (nI (A ++ R).length) lv ql tm m (nI A.length) tu en ow ta mk wf tr lg wk wt qu := by
  intro R
  induction R with
  | nil =>
    intro A m mk hm hX k
    obtain ⟨m, rfl⟩ : ∃ p, m = p + 1 := ⟨m - 1, by omega⟩
    rw [List.append_nil] at hX ⊢
    rw [List.map_nil, List.append_nil] at k
    exact br_t (Int32.le_refl _) ⟨vp_in_nI hc (by omega), nm_r (by rw [nI_clamp (by omega)]) (k mk hX)⟩
  | cons e R ih =>
    intro A m mk hm hX k
    obtain ⟨m, rfl⟩ : ∃ p, m = p + 1 := ⟨m - 1, by omega⟩
    rw [List.length_cons] at hm
    obtain ⟨⟨h20, hA, hok⟩, hW⟩ := id hX
    have hlen : (A ++ e :: R).length = (A.length + R.length) + 1 := by simp; omega
    have v0 : vp_in (nI A.length) 20 := vp_in_nI (by omega) (by omega)
    have c0 : (nI A.length).toNatClampNeg = A.length := nI_clamp (by omega)
    obtain ⟨a1, a2, a3, a4, a5⟩ := tp_A_at hA
    refine br_f (nI_ge (by omega) (by omega)) ⟨v0, v0, nm_r (by rw [c0, a5]) (nm_r (nI_1 _) ?_)⟩
    have hX2 : tp_X (A ++ tp_cm (nI c) e :: R) tu en ow ta (upd mk A.length (e.2.2.2.2 &&& (((1 : Int32) <<< (nI c &&& 31)) ^^^ (-1)))) wf :=
      ⟨⟨by simp at h20 ⊢; omega, tp_A_set _ hA ⟨a1, a2, a3, a4, pk_us⟩ (fun i hi => ⟨rfl, rfl, rfl, rfl, pk_un hi⟩), tp_okS hok (tp_ok_cm (tp_okL hok))⟩, tp_W_set hW rfl⟩
    have k2 := ih (A ++ [tp_cm (nI c) e]) m _ (by omega) (by rw [tp_cons]; exact hX2) (by simpa using k)
    rw [tp_cons, List.length_append (as := A) (bs := [_]), List.length_singleton] at k2
    rw [show (A ++ e :: R).length = (A ++ tp_cm (nI c) e :: R).length by simp]
    exact k2
theorem tp_xclose {post : SX → Prop} {c : Nat} (hc : c < 4) {L : List tp_E} (hX : tp_X L tu en ow ta mk wf)
    (k : ∀ mk' : Nat → Int32, tp_X (L.map (tp_cm (nI c))) tu en ow ta mk' wf → post (nI (L.map (tp_cm (nI c))).length, lv, ql, tm, tu, en, ow, ta, mk', wf, upd tr c (vp_nar .boolean 0), lg, wk, wt, qu)) :
    wpX_closeTransaction post (nI L.length, lv, ql, tm, tu, en, ow, ta, mk, wf, tr, lg, wk, wt, qu) (nI c) := by
  unfold wpX_closeTransaction
  dsimp only
  exact ⟨L.length + 1, tp_xclose2 hc L [] (L.length + 1) mk (by omega) hX k⟩
theorem tp_xcommit17 {post : Int32 → SX → Prop} {c : Nat} (hc : c < 4) {Q : List tp_T} (hQ : tp_QQ Q qu) (hO : tp_QO Q) (hK : tp_K Q wk wt) : ∀ (R A : List tp_E) (m : Nat) (ow : Nat → Int32), R.length < m → tp_X (A ++ R) tu en ow ta mk wf →
    (∀ tu' en' ow' ta' mk' wf' wk' qu' : Nat → Int32, tp_X (tp_sv (upd tr c (vp_nar .boolean 0)) Q ((A ++ R.map (tp_co (nI c))).map (tp_cm (nI c))) lg).2.1 tu' en' ow' ta' mk' wf' → tp_QQ (tp_sv (upd tr c (vp_nar .boolean 0)) Q ((A ++ R.map (tp_co (nI c))).map (tp_cm (nI c))) lg).1 qu' → tp_K (tp_sv (upd tr c (vp_nar .boolean 0)) Q ((A ++ R.map (tp_co (nI c))).map (tp_cm (nI c))) lg).1 wk' wt →
      post 1 (nI (tp_sv (upd tr c (vp_nar .boolean 0)) Q ((A ++ R.map (tp_co (nI c))).map (tp_cm (nI c))) lg).2.1.length, lv, nI (tp_sv (upd tr c (vp_nar .boolean 0)) Q ((A ++ R.map (tp_co (nI c))).map (tp_cm (nI c))) lg).1.length, tm, tu', en', ow', ta', mk', wf', upd tr c (vp_nar .boolean 0), (tp_sv (upd tr c (vp_nar .boolean 0)) Q ((A ++ R.map (tp_co (nI c))).map (tp_cm (nI c))) lg).2.2, wk', wt, qu')) →
    wX_commit_17 post (nI c) (nI (A ++ R).length) lv (nI Q.length) tm m (nI A.length) tu en ow ta mk wf tr lg wk wt qu := by
  intro R
  induction R with
  | nil =>
    intro A m ow hm hX k
    obtain ⟨m, rfl⟩ : ∃ p, m = p + 1 := ⟨m - 1, by omega⟩
    rw [List.append_nil] at hX ⊢
    rw [List.map_nil, List.append_nil] at k
    exact br_t (Int32.le_refl _) (tp_xclose hc hX (fun mk' hX' => tp_xserve hX' hQ hO hK k))
  | cons e R ih =>
    intro A m ow hm hX k
    obtain ⟨m, rfl⟩ : ∃ p, m = p + 1 := ⟨m - 1, by omega⟩
    rw [List.length_cons] at hm
    obtain ⟨⟨h20, hA, hok⟩, hW⟩ := id hX
    have hlen : (A ++ e :: R).length = (A.length + R.length) + 1 := by simp; omega
    have v0 : vp_in (nI A.length) 20 := vp_in_nI (by omega) (by omega)
    have c0 : (nI A.length).toNatClampNeg = A.length := nI_clamp (by omega)
    obtain ⟨a1, a2, a3, a4, a5⟩ := tp_A_at hA
    have K : ∀ ow' : Nat → Int32, tp_X (A ++ tp_co (nI c) e :: R) tu en ow' ta mk wf → wX_commit_17 post (nI c) (nI (A ++ e :: R).length) lv (nI Q.length) tm m (nI (A.length + 1)) tu en ow' ta mk wf tr lg wk wt qu := by
      intro ow' hX2
      have k2 := ih (A ++ [tp_co (nI c) e]) m _ (by omega) (by rw [tp_cons]; exact hX2) (by rw [List.append_assoc]; exact k)
      rw [tp_cons, List.length_append (as := A) (bs := [_]), List.length_singleton] at k2
      rw [show (A ++ e :: R).length = (A ++ tp_co (nI c) e :: R).length by simp]
      exact k2
    refine br_f (nI_ge (by omega) (by omega)) ⟨v0, ?_⟩
    rw [c0, a3]
    refine br_c (fun z => ⟨v0, nm_e (nm_r (nI_1 _) (K _ ?_))⟩) (fun z => nm_r (nI_1 _) (K _ ?_))
    · exact ⟨⟨by simp at h20 ⊢; omega, tp_A_set _ hA ⟨a1, a2, by simp [tp_co, z, upd], a4, a5⟩ (fun i hi => ⟨rfl, rfl, pk_un hi, rfl, rfl⟩), tp_okS hok (tp_ok_co (tp_okL hok))⟩, tp_W_set hW rfl⟩
    · have he : tp_co (nI c) e = e := by simp [tp_co, z]
      rw [he]
      exact hX
theorem tp_xabort17 {post : Int32 → SX → Prop} {c : Nat} (hc : c < 4) {Q : List tp_T} (hQ : tp_QQ Q qu) (hO : tp_QO Q) (hK : tp_K Q wk wt) : ∀ (R A : List tp_E) (m : Nat) (ta : Nat → Int32), R.length < m → tp_X (A ++ R) tu en ow ta mk wf →
    (∀ tu' en' ow' ta' mk' wf' wk' qu' : Nat → Int32, tp_X (tp_sv (upd tr c (vp_nar .boolean 0)) Q ((A ++ R.map (tp_ct (nI c))).map (tp_cm (nI c))) lg).2.1 tu' en' ow' ta' mk' wf' → tp_QQ (tp_sv (upd tr c (vp_nar .boolean 0)) Q ((A ++ R.map (tp_ct (nI c))).map (tp_cm (nI c))) lg).1 qu' → tp_K (tp_sv (upd tr c (vp_nar .boolean 0)) Q ((A ++ R.map (tp_ct (nI c))).map (tp_cm (nI c))) lg).1 wk' wt →
      post 1 (nI (tp_sv (upd tr c (vp_nar .boolean 0)) Q ((A ++ R.map (tp_ct (nI c))).map (tp_cm (nI c))) lg).2.1.length, lv, nI (tp_sv (upd tr c (vp_nar .boolean 0)) Q ((A ++ R.map (tp_ct (nI c))).map (tp_cm (nI c))) lg).1.length, tm, tu', en', ow', ta', mk', wf', upd tr c (vp_nar .boolean 0), (tp_sv (upd tr c (vp_nar .boolean 0)) Q ((A ++ R.map (tp_ct (nI c))).map (tp_cm (nI c))) lg).2.2, wk', wt, qu')) →
    wX_abort_17 post (nI c) (nI (A ++ R).length) lv (nI Q.length) tm m (nI A.length) tu en ow ta mk wf tr lg wk wt qu := by
  intro R
  induction R with
  | nil =>
    intro A m ta hm hX k
    obtain ⟨m, rfl⟩ : ∃ p, m = p + 1 := ⟨m - 1, by omega⟩
    rw [List.append_nil] at hX ⊢
    rw [List.map_nil, List.append_nil] at k
    exact br_t (Int32.le_refl _) (tp_xclose hc hX (fun mk' hX' => tp_xserve hX' hQ hO hK k))
  | cons e R ih =>
    intro A m ta hm hX k
    obtain ⟨m, rfl⟩ : ∃ p, m = p + 1 := ⟨m - 1, by omega⟩
    rw [List.length_cons] at hm
    obtain ⟨⟨h20, hA, hok⟩, hW⟩ := id hX
    have hlen : (A ++ e :: R).length = (A.length + R.length) + 1 := by simp; omega
    have v0 : vp_in (nI A.length) 20 := vp_in_nI (by omega) (by omega)
    have c0 : (nI A.length).toNatClampNeg = A.length := nI_clamp (by omega)
    obtain ⟨a1, a2, a3, a4, a5⟩ := tp_A_at hA
    have K : ∀ ta' : Nat → Int32, tp_X (A ++ tp_ct (nI c) e :: R) tu en ow ta' mk wf → wX_abort_17 post (nI c) (nI (A ++ e :: R).length) lv (nI Q.length) tm m (nI (A.length + 1)) tu en ow ta' mk wf tr lg wk wt qu := by
      intro ta' hX2
      have k2 := ih (A ++ [tp_ct (nI c) e]) m _ (by omega) (by rw [tp_cons]; exact hX2) (by rw [List.append_assoc]; exact k)
      rw [tp_cons, List.length_append (as := A) (bs := [_]), List.length_singleton] at k2
      rw [show (A ++ e :: R).length = (A ++ tp_ct (nI c) e :: R).length by simp]
      exact k2
    refine br_f (nI_ge (by omega) (by omega)) ⟨v0, ?_⟩
    rw [c0, a4]
    refine br_c (fun z => ⟨v0, nm_e (nm_r (nI_1 _) (K _ ?_))⟩) (fun z => nm_r (nI_1 _) (K _ ?_))
    · exact ⟨⟨by simp at h20 ⊢; omega, tp_A_set _ hA ⟨a1, a2, a3, by simp [tp_ct, z, upd], a5⟩ (fun i hi => ⟨rfl, rfl, rfl, pk_un hi, rfl⟩), tp_okS hok (tp_ok_ct (tp_okL hok))⟩, tp_W_set hW rfl⟩
    · have he : tp_ct (nI c) e = e := by simp [tp_ct, z]
      rw [he]
      exact hX
/-! the reference's end of a transaction -/
theorem tp_yfin136 {post : Int32 → SY → Prop} {J : Int32 → Int32 → Int32 → Int32 → (Nat → Int32) → (Nat → Int32) → (Nat → Int32) → (Nat → Int32) → (Nat → Int32) → (Nat → Int32) → (Nat → Int32) → (Nat → Int32) → (Nat → Int32) → (Nat → Int32) → Prop} {A B : List tp_E} {e : tp_E} {c x2 z0 : Int32}
    (hY : tp_Y (A ++ e :: B) tu en ow ta mk)
    (k0 : z0 = 0 → J (nI A.length - 1) tm (nI (A ++ e :: B).length) wn tu en ow ta mk tr lg wo hw wa)
    (k1 : ¬ z0 = 0 → ∀ tu' en' ow' ta' mk' : Nat → Int32, tp_Y (A ++ B) tu' en' ow' ta' mk' → J (nI A.length - 1) tm (nI (A ++ B).length) wn tu' en' ow' ta' mk' tr lg wo hw wa) :
    wY_finish_136 post J c x2 (nI A.length) z0 tm (nI (A ++ e :: B).length) wn tu en ow ta mk tr lg wo hw wa := by
  unfold wY_finish_136
  exact br_c (fun z => nm_r (tp_pm _) (k0 z)) (fun z => tp_yrm rfl hY (fun tu' en' ow' ta' mk' hY' => nm_r (tp_pm _) (k1 z _ _ _ _ _ hY')))
theorem tp_yfin82 {post : Int32 → SY → Prop} {J : Int32 → Int32 → Int32 → Int32 → (Nat → Int32) → (Nat → Int32) → (Nat → Int32) → (Nat → Int32) → (Nat → Int32) → (Nat → Int32) → (Nat → Int32) → (Nat → Int32) → (Nat → Int32) → (Nat → Int32) → Prop} {A B : List tp_E} {e : tp_E} {c x2 z0 : Int32}
    (hY : tp_Y (A ++ e :: B) tu en ow ta mk)
    (k0 : z0 = 0 → ∀ tu' en' ow' ta' mk' : Nat → Int32, tp_Y (A ++ tp_cl c e :: B) tu' en' ow' ta' mk' → J (nI A.length - 1) tm (nI (A ++ tp_cl c e :: B).length) wn tu' en' ow' ta' mk' tr lg wo hw wa)
    (k1 : ¬ z0 = 0 → ∀ tu' en' ow' ta' mk' : Nat → Int32, tp_Y (A ++ B) tu' en' ow' ta' mk' → J (nI A.length - 1) tm (nI (A ++ B).length) wn tu' en' ow' ta' mk' tr lg wo hw wa) :
    wY_finish_82 post J c x2 (nI A.length) z0 tm (nI (A ++ e :: B).length) wn tu en ow ta mk tr lg wo hw wa := by
  obtain ⟨h20, hA, hok⟩ := id hY
  have hlen : (A ++ e :: B).length = (A.length + B.length) + 1 := by simp; omega
  have v0 : vp_in (nI A.length) 20 := vp_in_nI (by omega) (by omega)
  have c0 : (nI A.length).toNatClampNeg = A.length := nI_clamp (by omega)
  obtain ⟨a1, a2, a3, a4, a5⟩ := tp_A_at hA
  have hl : (A ++ e :: B).length = (A ++ tp_cl c e :: B).length := by simp
  have F : ∀ ow' ta' mk' : Nat → Int32, ow' A.length = (if e.2.2.1 = c then -1 else e.2.2.1) → ta' A.length = (if e.2.2.2.1 = c then -1 else e.2.2.2.1) → mk' A.length = e.2.2.2.2 &&& (((1 : Int32) <<< (c &&& 31)) ^^^ (-1)) →
      (∀ i, i ≠ A.length → ow' i = ow i ∧ ta' i = ta i ∧ mk' i = mk i) → wY_finish_136 post J c x2 (nI A.length) z0 tm (nI (A ++ e :: B).length) wn tu en ow' ta' mk' tr lg wo hw wa := by
    intro ow' ta' mk' e1 e2 e3 en
    rw [hl]
    have hY2 : tp_Y (A ++ tp_cl c e :: B) tu _ ow' ta' mk' := ⟨by omega, tp_A_set (tp_cl c e) hA ⟨a1, a2, e1, e2, e3⟩ (fun i hi => ⟨rfl, rfl, (en i hi).1, (en i hi).2.1, (en i hi).2.2⟩), tp_okS hok (tp_ok_cl (tp_okL hok))⟩
    exact tp_yfin136 hY2 (fun z => k0 z _ _ _ _ _ hY2) k1
  unfold wY_finish_82 wY_finish_119
  refine ⟨v0, v0, nm_r (e' := upd mk A.length (e.2.2.2.2 &&& (((1 : Int32) <<< (c &&& 31)) ^^^ (-1)))) (by rw [c0, a5]) ⟨v0, ?_⟩⟩
  rw [c0, a3, a4]
  refine br_c (fun z => ⟨v0, nm_e ⟨v0, br_c (fun y => ⟨v0, nm_e (F _ _ _ ?_ ?_ pk_us ?_)⟩) (fun y => F _ _ _ ?_ ?_ pk_us ?_)⟩⟩) (fun z => ⟨v0, br_c (fun y => ⟨v0, nm_e (F _ _ _ ?_ ?_ pk_us ?_)⟩) (fun y => F _ _ _ ?_ ?_ pk_us ?_)⟩)
  · rw [if_pos y]; exact pk_us
  · rw [if_pos z]; exact pk_us
  · exact fun i hi => ⟨pk_un hi, pk_un hi, pk_un hi⟩
  · rw [if_neg y]; exact a3
  · rw [if_pos z]; exact pk_us
  · exact fun i hi => ⟨rfl, pk_un hi, pk_un hi⟩
  · rw [if_pos y]; exact pk_us
  · rw [if_neg z]; exact a4
  · exact fun i hi => ⟨pk_un hi, rfl, pk_un hi⟩
  · rw [if_neg y]; exact a3
  · rw [if_neg z]; exact a4
  · exact fun i hi => ⟨rfl, rfl, pk_un hi⟩
/-- what stays: kp true (commit): the entries that c has not taken; false (abort): those that c has not put -/
def tp_st (kp : Bool) (c : Int32) (e : tp_E) : Bool := if kp then decide (e.2.2.2.1 ≠ c) else decide (e.2.2.1 ≠ c)
theorem tp_yfin41 {post : Int32 → SY → Prop} {Q : List tp_T} {c x2 : Int32} {kp : Bool} (hx2 : x2 = if kp then 1 else 0) (hQ : tp_QY Q wo hw wa) (hO : tp_QO Q) : ∀ (d : Nat) (A B : List tp_E) (m : Nat) (x3 : Int32) (tu en ow ta mk : Nat → Int32), A.length = d → x3 = nI A.length - 1 → d < m → tp_Y (A ++ B) tu en ow ta mk →
    (∀ tu' en' ow' ta' mk' wo' hw' wa' : Nat → Int32, tp_Y (tp_sv tr Q ((A.filter (tp_st kp c)).map (tp_cl c) ++ B) lg).2.1 tu' en' ow' ta' mk' → tp_QY (tp_sv tr Q ((A.filter (tp_st kp c)).map (tp_cl c) ++ B) lg).1 wo' hw' wa' →
      post 1 (tm, nI (tp_sv tr Q ((A.filter (tp_st kp c)).map (tp_cl c) ++ B) lg).2.1.length, nI (tp_sv tr Q ((A.filter (tp_st kp c)).map (tp_cl c) ++ B) lg).1.length, tu', en', ow', ta', mk', tr, (tp_sv tr Q ((A.filter (tp_st kp c)).map (tp_cl c) ++ B) lg).2.2, wo', hw', wa')) →
    wY_finish_41 post c x2 m x3 tm (nI (A ++ B).length) (nI Q.length) tu en ow ta mk tr lg wo hw wa := by
  intro d
  induction d with
  | zero =>
    intro A B m x3 tu en ow ta mk hA hx hm hY k
    obtain ⟨m, rfl⟩ : ∃ p, m = p + 1 := ⟨m - 1, by omega⟩
    obtain rfl : A = [] := List.eq_nil_of_length_eq_zero hA
    exact br_t (by rw [hx]; exact tp_l0) (tp_yserve hY hQ hO k)
  | succ d ih =>
    intro A B m x3 tu en ow ta mk hA hx hm hY k
    obtain ⟨m, rfl⟩ : ∃ p, m = p + 1 := ⟨m - 1, by omega⟩
    obtain ⟨A, e, rfl, hd⟩ := tp_snoc A d hA
    rw [tp_ln] at hx
    subst hx
    rw [tp_cons] at hY ⊢
    have hlen : (A ++ e :: B).length = (A.length + B.length) + 1 := by simp; omega
    have h20 := hY.1
    have v0 : vp_in (nI A.length) 20 := vp_in_nI (by omega) (by omega)
    have c0 : (nI A.length).toNatClampNeg = A.length := nI_clamp (by omega)
    obtain ⟨a1, a2, a3, a4, a5⟩ := tp_A_at hY.2.1
    have G0 : tp_st kp c e = true → wY_finish_82 post (wY_finish_41 post c x2 m) c x2 (nI A.length) 0 tm (nI (A ++ e :: B).length) (nI Q.length) tu en ow ta mk tr lg wo hw wa := by
      intro hk
      have ea : ((A ++ [e]).filter (tp_st kp c)).map (tp_cl c) ++ B = (A.filter (tp_st kp c)).map (tp_cl c) ++ tp_cl c e :: B := by rw [List.filter_append, List.filter_cons_of_pos hk]; simp
      rw [ea] at k
      exact tp_yfin82 hY (fun _ tu' en' ow' ta' mk' hY' => ih A (tp_cl c e :: B) m _ tu' en' ow' ta' mk' hd rfl (by omega) hY' k) (fun z => absurd rfl z)
    have G1 : ¬ tp_st kp c e = true → wY_finish_82 post (wY_finish_41 post c x2 m) c x2 (nI A.length) 1 tm (nI (A ++ e :: B).length) (nI Q.length) tu en ow ta mk tr lg wo hw wa := by
      intro hk
      have ea : ((A ++ [e]).filter (tp_st kp c)).map (tp_cl c) ++ B = (A.filter (tp_st kp c)).map (tp_cl c) ++ B := by rw [List.filter_append, List.filter_cons_of_neg hk]; simp
      rw [ea] at k
      exact tp_yfin82 hY (fun z => absurd z (by decide)) (fun _ tu' en' ow' ta' mk' hY' => ih A B m _ tu' en' ow' ta' mk' hd rfl (by omega) hY' k)
    refine br_f (nI_pos (by omega)) ?_
    cases kp with
    | false =>
      refine br_t hx2 ⟨v0, ?_⟩
      rw [c0, a3]
      exact br_c (fun z => G1 (by simp [tp_st, z])) (fun z => G0 (by simp [tp_st, z]))
    | true =>
      refine br_f (by rw [hx2]; decide) ⟨v0, ?_⟩
      rw [c0, a4]
      exact br_c (fun z => G1 (by simp [tp_st, z])) (fun z => G0 (by simp [tp_st, z]))
theorem tp_st_t {c : Int32} : tp_st true c = fun e => decide (e.2.2.2.1 ≠ c) := rfl
theorem tp_st_f {c : Int32} : tp_st false c = fun e => decide (e.2.2.1 ≠ c) := rfl
theorem tp_yfin {post : Int32 → SY → Prop} {Q : List tp_T} {L : List tp_E} {c x2 : Int32} {kp : Bool} (hx2 : x2 = if kp then 1 else 0) (hQ : tp_QY Q wo hw wa) (hO : tp_QO Q) (hY : tp_Y L tu en ow ta mk)
    (k : ∀ tu' en' ow' ta' mk' wo' hw' wa' : Nat → Int32, tp_Y (tp_sv tr Q ((L.filter (tp_st kp c)).map (tp_cl c)) lg).2.1 tu' en' ow' ta' mk' → tp_QY (tp_sv tr Q ((L.filter (tp_st kp c)).map (tp_cl c)) lg).1 wo' hw' wa' →
      post 1 (tm, nI (tp_sv tr Q ((L.filter (tp_st kp c)).map (tp_cl c)) lg).2.1.length, nI (tp_sv tr Q ((L.filter (tp_st kp c)).map (tp_cl c)) lg).1.length, tu', en', ow', ta', mk', tr, (tp_sv tr Q ((L.filter (tp_st kp c)).map (tp_cl c)) lg).2.2, wo', hw', wa')) :
    wY_finish_41 post c x2 (L.length + 1) (nI L.length - 1) tm (nI L.length) (nI Q.length) tu en ow ta mk tr lg wo hw wa := by
  have k2 := tp_yfin41 (post := post) (tm := tm) (tr := tr) (lg := lg) hx2 hQ hO L.length L [] (L.length + 1) _ tu en ow ta mk rfl rfl (by omega) (by rw [List.append_nil]; exact hY) (by rw [List.append_nil]; exact k)
  rw [List.append_nil] at k2
  exact k2
end
